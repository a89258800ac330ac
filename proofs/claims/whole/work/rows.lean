section
-- ===== PART A: goes FIRST, ahead of the names: the tables' words, and 'selects' of the private methods out of them =====
/-- a private method of a class that the tables say can be made, by its rows of tables_1 -/
def lw_okq (q : MethodName × Nat) : Prop := (q.1.cls ≠ "java/lang/invoke/MethodHandle" ∧ q.1.cls ≠ "java/lang/invoke/VarHandle") ∧ Cond.instantiable q.1.cls q.2 ∈ tables_1 ∧ Cond.privateMethod q.1 ∈ tables_1 ∧ Cond.instanceMethod q.1 ∈ tables_1
theorem lw_p0 : lw_okq (⟨"BinnedReads$Stream", "appendByte", "(I)V"⟩, 2) := ⟨⟨by decide +kernel, by decide +kernel⟩, List.mem_of_getElem? (i := 41) (by decide +kernel), List.mem_of_getElem? (i := 236) (by decide +kernel), List.mem_of_getElem? (i := 237) (by decide +kernel)⟩
theorem lw_p1 : lw_okq (⟨"BinnedReads$Disk", "appendBlock", "(LBinnedReads$Stream;II)V"⟩, 5) := ⟨⟨by decide +kernel, by decide +kernel⟩, List.mem_of_getElem? (i := 92) (by decide +kernel), List.mem_of_getElem? (i := 255) (by decide +kernel), List.mem_of_getElem? (i := 256) (by decide +kernel)⟩
theorem lw_p2 : lw_okq (⟨"BinnedReads$Disk", "appendByte", "(I)V"⟩, 5) := ⟨⟨by decide +kernel, by decide +kernel⟩, List.mem_of_getElem? (i := 92) (by decide +kernel), List.mem_of_getElem? (i := 259) (by decide +kernel), List.mem_of_getElem? (i := 260) (by decide +kernel)⟩
theorem lw_p3 : lw_okq (⟨"BinnedReads$Disk", "appendNumber", "(II)V"⟩, 5) := ⟨⟨by decide +kernel, by decide +kernel⟩, List.mem_of_getElem? (i := 92) (by decide +kernel), List.mem_of_getElem? (i := 263) (by decide +kernel), List.mem_of_getElem? (i := 264) (by decide +kernel)⟩
theorem lw_p4 : lw_okq (⟨"BinnedReads$Disk", "sumOf", "(II)I"⟩, 5) := ⟨⟨by decide +kernel, by decide +kernel⟩, List.mem_of_getElem? (i := 92) (by decide +kernel), List.mem_of_getElem? (i := 267) (by decide +kernel), List.mem_of_getElem? (i := 268) (by decide +kernel)⟩
theorem lw_p5 : lw_okq (⟨"BinnedReads$Disk", "isSound", "(I)Z"⟩, 5) := ⟨⟨by decide +kernel, by decide +kernel⟩, List.mem_of_getElem? (i := 92) (by decide +kernel), List.mem_of_getElem? (i := 317) (by decide +kernel), List.mem_of_getElem? (i := 318) (by decide +kernel)⟩
theorem lw_p6 : lw_okq (⟨"BinnedReads$Disk", "numberAt", "(II)I"⟩, 5) := ⟨⟨by decide +kernel, by decide +kernel⟩, List.mem_of_getElem? (i := 92) (by decide +kernel), List.mem_of_getElem? (i := 321) (by decide +kernel), List.mem_of_getElem? (i := 322) (by decide +kernel)⟩
theorem lw_p7 : lw_okq (⟨"BinnedReads$Index", "firstEndingAfter", "(II)I"⟩, 8) := ⟨⟨by decide +kernel, by decide +kernel⟩, List.mem_of_getElem? (i := 57) (by decide +kernel), List.mem_of_getElem? (i := 337) (by decide +kernel), List.mem_of_getElem? (i := 338) (by decide +kernel)⟩
theorem lw_p8 : lw_okq (⟨"BinnedReads", "areChosenSound", "()Z"⟩, 5) := ⟨⟨by decide +kernel, by decide +kernel⟩, List.mem_of_getElem? (i := 10) (by decide +kernel), List.mem_of_getElem? (i := 344) (by decide +kernel), List.mem_of_getElem? (i := 345) (by decide +kernel)⟩
theorem lw_p9 : lw_okq (⟨"BinnedReadsModel", "sum", "(III)I"⟩, 23) := ⟨⟨by decide +kernel, by decide +kernel⟩, List.mem_of_getElem? (i := 412) (by decide +kernel), List.mem_of_getElem? (i := 507) (by decide +kernel), List.mem_of_getElem? (i := 508) (by decide +kernel)⟩
theorem lw_p10 : lw_okq (⟨"BinnedReadsModel", "putRead", "(I)V"⟩, 23) := ⟨⟨by decide +kernel, by decide +kernel⟩, List.mem_of_getElem? (i := 412) (by decide +kernel), List.mem_of_getElem? (i := 516) (by decide +kernel), List.mem_of_getElem? (i := 517) (by decide +kernel)⟩
theorem lw_p11 : lw_okq (⟨"BinnedReadsModel", "put", "(I)V"⟩, 23) := ⟨⟨by decide +kernel, by decide +kernel⟩, List.mem_of_getElem? (i := 412) (by decide +kernel), List.mem_of_getElem? (i := 520) (by decide +kernel), List.mem_of_getElem? (i := 521) (by decide +kernel)⟩
theorem lw_p12 : lw_okq (⟨"BinnedReadsModel", "binOf", "(I)I"⟩, 23) := ⟨⟨by decide +kernel, by decide +kernel⟩, List.mem_of_getElem? (i := 412) (by decide +kernel), List.mem_of_getElem? (i := 524) (by decide +kernel), List.mem_of_getElem? (i := 525) (by decide +kernel)⟩
theorem lw_p13 : lw_okq (⟨"BinnedReadsModel", "storeBlock", "(II)V"⟩, 23) := ⟨⟨by decide +kernel, by decide +kernel⟩, List.mem_of_getElem? (i := 412) (by decide +kernel), List.mem_of_getElem? (i := 528) (by decide +kernel), List.mem_of_getElem? (i := 529) (by decide +kernel)⟩
theorem lw_p14 : lw_okq (⟨"BinnedReadsModel", "store", "(I)V"⟩, 23) := ⟨⟨by decide +kernel, by decide +kernel⟩, List.mem_of_getElem? (i := 412) (by decide +kernel), List.mem_of_getElem? (i := 532) (by decide +kernel), List.mem_of_getElem? (i := 533) (by decide +kernel)⟩
theorem lw_p15 : lw_okq (⟨"BinnedReadsModel", "firstBehind", "(II)I"⟩, 23) := ⟨⟨by decide +kernel, by decide +kernel⟩, List.mem_of_getElem? (i := 412) (by decide +kernel), List.mem_of_getElem? (i := 557) (by decide +kernel), List.mem_of_getElem? (i := 558) (by decide +kernel)⟩
def lw_privs_1 : List (MethodName × Nat) := [(⟨"BinnedReads$Stream", "appendByte", "(I)V"⟩, 2), (⟨"BinnedReads$Disk", "appendBlock", "(LBinnedReads$Stream;II)V"⟩, 5), (⟨"BinnedReads$Disk", "appendByte", "(I)V"⟩, 5), (⟨"BinnedReads$Disk", "appendNumber", "(II)V"⟩, 5), (⟨"BinnedReads$Disk", "sumOf", "(II)I"⟩, 5), (⟨"BinnedReads$Disk", "isSound", "(I)Z"⟩, 5), (⟨"BinnedReads$Disk", "numberAt", "(II)I"⟩, 5), (⟨"BinnedReads$Index", "firstEndingAfter", "(II)I"⟩, 8), (⟨"BinnedReads", "areChosenSound", "()Z"⟩, 5), (⟨"BinnedReadsModel", "sum", "(III)I"⟩, 23), (⟨"BinnedReadsModel", "putRead", "(I)V"⟩, 23), (⟨"BinnedReadsModel", "put", "(I)V"⟩, 23), (⟨"BinnedReadsModel", "binOf", "(I)I"⟩, 23), (⟨"BinnedReadsModel", "storeBlock", "(II)V"⟩, 23), (⟨"BinnedReadsModel", "store", "(I)V"⟩, 23), (⟨"BinnedReadsModel", "firstBehind", "(II)I"⟩, 23)]
theorem lw_r1 : ∀ q ∈ lw_privs_1, lw_okq q := List.forall_mem_cons.mpr ⟨lw_p0, List.forall_mem_cons.mpr ⟨lw_p1, List.forall_mem_cons.mpr ⟨lw_p2, List.forall_mem_cons.mpr ⟨lw_p3, List.forall_mem_cons.mpr ⟨lw_p4, List.forall_mem_cons.mpr ⟨lw_p5, List.forall_mem_cons.mpr ⟨lw_p6, List.forall_mem_cons.mpr ⟨lw_p7, List.forall_mem_cons.mpr ⟨lw_p8, List.forall_mem_cons.mpr ⟨lw_p9, List.forall_mem_cons.mpr ⟨lw_p10, List.forall_mem_cons.mpr ⟨lw_p11, List.forall_mem_cons.mpr ⟨lw_p12, List.forall_mem_cons.mpr ⟨lw_p13, List.forall_mem_cons.mpr ⟨lw_p14, List.forall_mem_cons.mpr ⟨lw_p15, fun _ h => absurd h List.not_mem_nil⟩⟩⟩⟩⟩⟩⟩⟩⟩⟩⟩⟩⟩⟩⟩⟩
theorem lw_p16 : lw_okq (⟨"BinnedReadsModel", "hurt", "(I)Z"⟩, 23) := ⟨⟨by decide +kernel, by decide +kernel⟩, List.mem_of_getElem? (i := 412) (by decide +kernel), List.mem_of_getElem? (i := 564) (by decide +kernel), List.mem_of_getElem? (i := 565) (by decide +kernel)⟩
def lw_privs_2 : List (MethodName × Nat) := [(⟨"BinnedReadsModel", "hurt", "(I)Z"⟩, 23)]
theorem lw_r2 : ∀ q ∈ lw_privs_2, lw_okq q := List.forall_mem_cons.mpr ⟨lw_p16, fun _ h => absurd h List.not_mem_nil⟩
def lw_privs : List (MethodName × Nat) := lw_privs_1 ++ (lw_privs_2)
def lw_tbl : List Cond := k2_sels lw_privs ++ tables_1
theorem lw_privs_ok : ∀ q ∈ lw_privs, lw_okq q := by
  show ∀ q ∈ lw_privs_1 ++ (lw_privs_2), lw_okq q
  exact List.forall_mem_append.mpr ⟨lw_r1, lw_r2⟩
end
section
/-! names: classes, fields, methods (by gen/names.py) -/
/-- the words of the tables that a call carries on -/
def tb : List Cond := lw_tbl.filter goodWord
theorem tb_good : ∀ w ∈ tb, goodWord w = true := fun w h => (List.mem_filter.mp h).2
theorem tb_of {w : Cond} (h : w ∈ lw_tbl) (g : goodWord w = true) : w ∈ tb := List.mem_filter.mpr ⟨h, g⟩
theorem tb_in {w : Cond} (h : w ∈ tb) : w ∈ lw_tbl := (List.mem_filter.mp h).1
theorem tw_0 : (Jvm.Cond.initialized "BinnedReadsLaw") ∈ tb := tb_of (List.mem_append_right _ (List.mem_of_getElem? (i := 0) (by decide +kernel))) (by decide +kernel)
theorem tw_1 : (Jvm.Cond.initialized "BinnedReads") ∈ tb := tb_of (List.mem_append_right _ (List.mem_of_getElem? (i := 1) (by decide +kernel))) (by decide +kernel)
theorem tw_2 : (Jvm.Cond.initialized "BinnedReads$Draft") ∈ tb := tb_of (List.mem_append_right _ (List.mem_of_getElem? (i := 2) (by decide +kernel))) (by decide +kernel)
theorem tw_3 : (Jvm.Cond.initialized "BinnedReads$Stream") ∈ tb := tb_of (List.mem_append_right _ (List.mem_of_getElem? (i := 3) (by decide +kernel))) (by decide +kernel)
theorem tw_4 : (Jvm.Cond.initialized "BinnedReads$Index") ∈ tb := tb_of (List.mem_append_right _ (List.mem_of_getElem? (i := 4) (by decide +kernel))) (by decide +kernel)
theorem tw_5 : (Jvm.Cond.initialized "BinnedReads$Disk") ∈ tb := tb_of (List.mem_append_right _ (List.mem_of_getElem? (i := 5) (by decide +kernel))) (by decide +kernel)
theorem tw_6 : (Jvm.Cond.initialized "BinnedReads$Finding") ∈ tb := tb_of (List.mem_append_right _ (List.mem_of_getElem? (i := 6) (by decide +kernel))) (by decide +kernel)
theorem tw_7 : (Jvm.Cond.initialized "BinnedReadsModel") ∈ tb := tb_of (List.mem_append_right _ (List.mem_of_getElem? (i := 7) (by decide +kernel))) (by decide +kernel)
theorem tw_8 : (Jvm.Cond.initialized "java/lang/Math") ∈ tb := tb_of (List.mem_append_right _ (List.mem_of_getElem? (i := 8) (by decide +kernel))) (by decide +kernel)
theorem tw_9 : (Jvm.Cond.classLink "BinnedReadsLaw" (7 : Nat) "BinnedReads") ∈ tb := tb_of (List.mem_append_right _ (List.mem_of_getElem? (i := 9) (by decide +kernel))) (by decide +kernel)
theorem tw_10 : (Jvm.Cond.instantiable "BinnedReads" (5 : Nat)) ∈ tb := tb_of (List.mem_append_right _ (List.mem_of_getElem? (i := 10) (by decide +kernel))) (by decide +kernel)
theorem tw_11 : (Jvm.Cond.methodLink "BinnedReadsLaw" (9 : Nat) ({ cls := "BinnedReads", name := "<init>", desc := "()V" } : Jvm.MethodName)) ∈ tb := tb_of (List.mem_append_right _ (List.mem_of_getElem? (i := 11) (by decide +kernel))) (by decide +kernel)
theorem tw_12 : (Jvm.Cond.instanceMethod ({ cls := "BinnedReads", name := "<init>", desc := "()V" } : Jvm.MethodName)) ∈ tb := tb_of (List.mem_append_right _ (List.mem_of_getElem? (i := 12) (by decide +kernel))) (by decide +kernel)
theorem tw_13 : (Jvm.Cond.code ({ cls := "BinnedReads", name := "<init>", desc := "()V" } : Jvm.MethodName) prog_1_method_1_code (1 : Nat) (Option.none : Option Jvm.ClassFile.FieldType)) ∈ tb := tb_of (List.mem_append_right _ (List.mem_of_getElem? (i := 13) (by decide +kernel))) (by decide +kernel)
theorem tw_14 : (Jvm.Cond.methodLink "BinnedReads" (3 : Nat) ({ cls := "java/lang/Object", name := "<init>", desc := "()V" } : Jvm.MethodName)) ∈ tb := tb_of (List.mem_append_right _ (List.mem_of_getElem? (i := 14) (by decide +kernel))) (by decide +kernel)
theorem tw_15 : (Jvm.Cond.instanceMethod ({ cls := "java/lang/Object", name := "<init>", desc := "()V" } : Jvm.MethodName)) ∈ tb := tb_of (List.mem_append_right _ (List.mem_of_getElem? (i := 15) (by decide +kernel))) (by decide +kernel)
theorem tw_16 : (Jvm.Cond.code ({ cls := "java/lang/Object", name := "<init>", desc := "()V" } : Jvm.MethodName) object_method_1_code (1 : Nat) (Option.none : Option Jvm.ClassFile.FieldType)) ∈ tb := tb_of (List.mem_append_right _ (List.mem_of_getElem? (i := 16) (by decide +kernel))) (by decide +kernel)
theorem tw_17 : (Jvm.Cond.classLink "BinnedReads" (9 : Nat) "BinnedReads$Draft") ∈ tb := tb_of (List.mem_append_right _ (List.mem_of_getElem? (i := 17) (by decide +kernel))) (by decide +kernel)
theorem tw_18 : (Jvm.Cond.instantiable "BinnedReads$Draft" (4 : Nat)) ∈ tb := tb_of (List.mem_append_right _ (List.mem_of_getElem? (i := 18) (by decide +kernel))) (by decide +kernel)
theorem tw_19 : (Jvm.Cond.methodLinkNest "BinnedReads" (11 : Nat) ({ cls := "BinnedReads$Draft", name := "<init>", desc := "()V" } : Jvm.MethodName) "BinnedReads") ∈ lw_tbl := List.mem_append_right _ (List.mem_of_getElem? (i := 19) (by decide +kernel))
theorem tw_20 : (Jvm.Cond.instanceMethod ({ cls := "BinnedReads$Draft", name := "<init>", desc := "()V" } : Jvm.MethodName)) ∈ tb := tb_of (List.mem_append_right _ (List.mem_of_getElem? (i := 20) (by decide +kernel))) (by decide +kernel)
theorem tw_21 : (Jvm.Cond.code ({ cls := "BinnedReads$Draft", name := "<init>", desc := "()V" } : Jvm.MethodName) prog_3_method_1_code (1 : Nat) (Option.none : Option Jvm.ClassFile.FieldType)) ∈ tb := tb_of (List.mem_append_right _ (List.mem_of_getElem? (i := 21) (by decide +kernel))) (by decide +kernel)
theorem tw_22 : (Jvm.Cond.methodLink "BinnedReads$Draft" (3 : Nat) ({ cls := "java/lang/Object", name := "<init>", desc := "()V" } : Jvm.MethodName)) ∈ tb := tb_of (List.mem_append_right _ (List.mem_of_getElem? (i := 22) (by decide +kernel))) (by decide +kernel)
theorem tw_23 : (Jvm.Cond.fieldLink "BinnedReads$Draft" (9 : Nat) "BinnedReads$Draft" "ops" "[I") ∈ tb := tb_of (List.mem_append_right _ (List.mem_of_getElem? (i := 23) (by decide +kernel))) (by decide +kernel)
theorem tw_24 : (Jvm.Cond.fieldLink "BinnedReads$Stream" (31 : Nat) "BinnedReads$Draft" "ops" "[I") ∈ tb := tb_of (List.mem_append_right _ (List.mem_of_getElem? (i := 24) (by decide +kernel))) (by decide +kernel)
theorem tw_25 : (Jvm.Cond.fieldLink "BinnedReads$Draft" (15 : Nat) "BinnedReads$Draft" "bases" "[I") ∈ tb := tb_of (List.mem_append_right _ (List.mem_of_getElem? (i := 25) (by decide +kernel))) (by decide +kernel)
theorem tw_26 : (Jvm.Cond.fieldLink "BinnedReads$Draft" (18 : Nat) "BinnedReads$Draft" "opCount" "I") ∈ tb := tb_of (List.mem_append_right _ (List.mem_of_getElem? (i := 26) (by decide +kernel))) (by decide +kernel)
theorem tw_27 : (Jvm.Cond.fieldLink "BinnedReads$Stream" (23 : Nat) "BinnedReads$Draft" "opCount" "I") ∈ tb := tb_of (List.mem_append_right _ (List.mem_of_getElem? (i := 27) (by decide +kernel))) (by decide +kernel)
theorem tw_28 : (Jvm.Cond.fieldLink "BinnedReads$Draft" (22 : Nat) "BinnedReads$Draft" "baseCount" "I") ∈ tb := tb_of (List.mem_append_right _ (List.mem_of_getElem? (i := 28) (by decide +kernel))) (by decide +kernel)
theorem tw_29 : (Jvm.Cond.fieldLink "BinnedReads$Stream" (28 : Nat) "BinnedReads$Draft" "baseCount" "I") ∈ tb := tb_of (List.mem_append_right _ (List.mem_of_getElem? (i := 29) (by decide +kernel))) (by decide +kernel)
theorem tw_39 : (Jvm.Cond.arrayClass Jvm.ClassFile.FieldType.int) ∈ tb := tb_of (List.mem_append_right _ (List.mem_of_getElem? (i := 39) (by decide +kernel))) (by decide +kernel)
theorem tw_40 : (Jvm.Cond.classLink "BinnedReads" (16 : Nat) "BinnedReads$Stream") ∈ tb := tb_of (List.mem_append_right _ (List.mem_of_getElem? (i := 40) (by decide +kernel))) (by decide +kernel)
theorem tw_41 : (Jvm.Cond.instantiable "BinnedReads$Stream" (2 : Nat)) ∈ tb := tb_of (List.mem_append_right _ (List.mem_of_getElem? (i := 41) (by decide +kernel))) (by decide +kernel)
theorem tw_42 : (Jvm.Cond.methodLinkNest "BinnedReads" (18 : Nat) ({ cls := "BinnedReads$Stream", name := "<init>", desc := "()V" } : Jvm.MethodName) "BinnedReads") ∈ lw_tbl := List.mem_append_right _ (List.mem_of_getElem? (i := 42) (by decide +kernel))
theorem tw_43 : (Jvm.Cond.instanceMethod ({ cls := "BinnedReads$Stream", name := "<init>", desc := "()V" } : Jvm.MethodName)) ∈ tb := tb_of (List.mem_append_right _ (List.mem_of_getElem? (i := 43) (by decide +kernel))) (by decide +kernel)
theorem tw_44 : (Jvm.Cond.code ({ cls := "BinnedReads$Stream", name := "<init>", desc := "()V" } : Jvm.MethodName) prog_6_method_1_code (1 : Nat) (Option.none : Option Jvm.ClassFile.FieldType)) ∈ tb := tb_of (List.mem_append_right _ (List.mem_of_getElem? (i := 44) (by decide +kernel))) (by decide +kernel)
theorem tw_45 : (Jvm.Cond.methodLink "BinnedReads$Stream" (3 : Nat) ({ cls := "java/lang/Object", name := "<init>", desc := "()V" } : Jvm.MethodName)) ∈ tb := tb_of (List.mem_append_right _ (List.mem_of_getElem? (i := 45) (by decide +kernel))) (by decide +kernel)
theorem tw_46 : (Jvm.Cond.fieldLink "BinnedReads$Stream" (9 : Nat) "BinnedReads$Stream" "bytes" "[I") ∈ tb := tb_of (List.mem_append_right _ (List.mem_of_getElem? (i := 46) (by decide +kernel))) (by decide +kernel)
theorem tw_47 : (Jvm.Cond.fieldLink "BinnedReads$Disk" (62 : Nat) "BinnedReads$Stream" "bytes" "[I") ∈ tb := tb_of (List.mem_append_right _ (List.mem_of_getElem? (i := 47) (by decide +kernel))) (by decide +kernel)
theorem tw_48 : (Jvm.Cond.fieldLink "BinnedReads$Stream" (15 : Nat) "BinnedReads$Stream" "length" "I") ∈ tb := tb_of (List.mem_append_right _ (List.mem_of_getElem? (i := 48) (by decide +kernel))) (by decide +kernel)
theorem tw_49 : (Jvm.Cond.fieldLink "BinnedReads$Disk" (28 : Nat) "BinnedReads$Stream" "length" "I") ∈ tb := tb_of (List.mem_append_right _ (List.mem_of_getElem? (i := 49) (by decide +kernel))) (by decide +kernel)
theorem tw_50 : (Jvm.Cond.fieldLink "BinnedReads" (79 : Nat) "BinnedReads$Stream" "length" "I") ∈ tb := tb_of (List.mem_append_right _ (List.mem_of_getElem? (i := 50) (by decide +kernel))) (by decide +kernel)
theorem tw_56 : (Jvm.Cond.classLink "BinnedReads" (23 : Nat) "BinnedReads$Index") ∈ tb := tb_of (List.mem_append_right _ (List.mem_of_getElem? (i := 56) (by decide +kernel))) (by decide +kernel)
theorem tw_57 : (Jvm.Cond.instantiable "BinnedReads$Index" (8 : Nat)) ∈ tb := tb_of (List.mem_append_right _ (List.mem_of_getElem? (i := 57) (by decide +kernel))) (by decide +kernel)
theorem tw_58 : (Jvm.Cond.methodLinkNest "BinnedReads" (25 : Nat) ({ cls := "BinnedReads$Index", name := "<init>", desc := "()V" } : Jvm.MethodName) "BinnedReads") ∈ lw_tbl := List.mem_append_right _ (List.mem_of_getElem? (i := 58) (by decide +kernel))
theorem tw_59 : (Jvm.Cond.instanceMethod ({ cls := "BinnedReads$Index", name := "<init>", desc := "()V" } : Jvm.MethodName)) ∈ tb := tb_of (List.mem_append_right _ (List.mem_of_getElem? (i := 59) (by decide +kernel))) (by decide +kernel)
theorem tw_60 : (Jvm.Cond.code ({ cls := "BinnedReads$Index", name := "<init>", desc := "()V" } : Jvm.MethodName) prog_5_method_1_code (1 : Nat) (Option.none : Option Jvm.ClassFile.FieldType)) ∈ tb := tb_of (List.mem_append_right _ (List.mem_of_getElem? (i := 60) (by decide +kernel))) (by decide +kernel)
theorem tw_61 : (Jvm.Cond.methodLink "BinnedReads$Index" (3 : Nat) ({ cls := "java/lang/Object", name := "<init>", desc := "()V" } : Jvm.MethodName)) ∈ tb := tb_of (List.mem_append_right _ (List.mem_of_getElem? (i := 61) (by decide +kernel))) (by decide +kernel)
theorem tw_62 : (Jvm.Cond.fieldLink "BinnedReads$Index" (9 : Nat) "BinnedReads$Index" "references" "[I") ∈ tb := tb_of (List.mem_append_right _ (List.mem_of_getElem? (i := 62) (by decide +kernel))) (by decide +kernel)
theorem tw_63 : (Jvm.Cond.fieldLink "BinnedReads$Index" (15 : Nat) "BinnedReads$Index" "positions" "[I") ∈ tb := tb_of (List.mem_append_right _ (List.mem_of_getElem? (i := 63) (by decide +kernel))) (by decide +kernel)
theorem tw_64 : (Jvm.Cond.fieldLink "BinnedReads$Index" (18 : Nat) "BinnedReads$Index" "ends" "[I") ∈ tb := tb_of (List.mem_append_right _ (List.mem_of_getElem? (i := 64) (by decide +kernel))) (by decide +kernel)
theorem tw_65 : (Jvm.Cond.fieldLink "BinnedReads$Index" (21 : Nat) "BinnedReads$Index" "bins" "[I") ∈ tb := tb_of (List.mem_append_right _ (List.mem_of_getElem? (i := 65) (by decide +kernel))) (by decide +kernel)
theorem tw_66 : (Jvm.Cond.fieldLink "BinnedReads$Index" (24 : Nat) "BinnedReads$Index" "starts" "[I") ∈ tb := tb_of (List.mem_append_right _ (List.mem_of_getElem? (i := 66) (by decide +kernel))) (by decide +kernel)
theorem tw_67 : (Jvm.Cond.fieldLink "BinnedReads" (142 : Nat) "BinnedReads$Index" "starts" "[I") ∈ tb := tb_of (List.mem_append_right _ (List.mem_of_getElem? (i := 67) (by decide +kernel))) (by decide +kernel)
theorem tw_68 : (Jvm.Cond.fieldLink "BinnedReads$Index" (30 : Nat) "BinnedReads$Index" "count" "I") ∈ tb := tb_of (List.mem_append_right _ (List.mem_of_getElem? (i := 68) (by decide +kernel))) (by decide +kernel)
theorem tw_69 : (Jvm.Cond.fieldLink "BinnedReads" (115 : Nat) "BinnedReads$Index" "count" "I") ∈ tb := tb_of (List.mem_append_right _ (List.mem_of_getElem? (i := 69) (by decide +kernel))) (by decide +kernel)
theorem tw_70 : (Jvm.Cond.fieldLink "BinnedReads$Index" (27 : Nat) "BinnedReads$Index" "chosen" "[I") ∈ tb := tb_of (List.mem_append_right _ (List.mem_of_getElem? (i := 70) (by decide +kernel))) (by decide +kernel)
theorem tw_71 : (Jvm.Cond.fieldLink "BinnedReads" (135 : Nat) "BinnedReads$Index" "chosen" "[I") ∈ tb := tb_of (List.mem_append_right _ (List.mem_of_getElem? (i := 71) (by decide +kernel))) (by decide +kernel)
theorem tw_72 : (Jvm.Cond.fieldLink "BinnedReads$Index" (34 : Nat) "BinnedReads$Index" "chosenCount" "I") ∈ tb := tb_of (List.mem_append_right _ (List.mem_of_getElem? (i := 72) (by decide +kernel))) (by decide +kernel)
theorem tw_73 : (Jvm.Cond.fieldLink "BinnedReads" (129 : Nat) "BinnedReads$Index" "chosenCount" "I") ∈ tb := tb_of (List.mem_append_right _ (List.mem_of_getElem? (i := 73) (by decide +kernel))) (by decide +kernel)
theorem tw_91 : (Jvm.Cond.classLink "BinnedReads" (30 : Nat) "BinnedReads$Disk") ∈ tb := tb_of (List.mem_append_right _ (List.mem_of_getElem? (i := 91) (by decide +kernel))) (by decide +kernel)
theorem tw_92 : (Jvm.Cond.instantiable "BinnedReads$Disk" (5 : Nat)) ∈ tb := tb_of (List.mem_append_right _ (List.mem_of_getElem? (i := 92) (by decide +kernel))) (by decide +kernel)
theorem tw_93 : (Jvm.Cond.methodLinkNest "BinnedReads" (32 : Nat) ({ cls := "BinnedReads$Disk", name := "<init>", desc := "()V" } : Jvm.MethodName) "BinnedReads") ∈ lw_tbl := List.mem_append_right _ (List.mem_of_getElem? (i := 93) (by decide +kernel))
theorem tw_94 : (Jvm.Cond.instanceMethod ({ cls := "BinnedReads$Disk", name := "<init>", desc := "()V" } : Jvm.MethodName)) ∈ tb := tb_of (List.mem_append_right _ (List.mem_of_getElem? (i := 94) (by decide +kernel))) (by decide +kernel)
theorem tw_95 : (Jvm.Cond.code ({ cls := "BinnedReads$Disk", name := "<init>", desc := "()V" } : Jvm.MethodName) prog_2_method_1_code (1 : Nat) (Option.none : Option Jvm.ClassFile.FieldType)) ∈ tb := tb_of (List.mem_append_right _ (List.mem_of_getElem? (i := 95) (by decide +kernel))) (by decide +kernel)
theorem tw_96 : (Jvm.Cond.methodLink "BinnedReads$Disk" (3 : Nat) ({ cls := "java/lang/Object", name := "<init>", desc := "()V" } : Jvm.MethodName)) ∈ tb := tb_of (List.mem_append_right _ (List.mem_of_getElem? (i := 96) (by decide +kernel))) (by decide +kernel)
theorem tw_97 : (Jvm.Cond.fieldLink "BinnedReads$Disk" (9 : Nat) "BinnedReads$Disk" "bytes" "[I") ∈ tb := tb_of (List.mem_append_right _ (List.mem_of_getElem? (i := 97) (by decide +kernel))) (by decide +kernel)
theorem tw_98 : (Jvm.Cond.fieldLink "BinnedReads$Disk" (15 : Nat) "BinnedReads$Disk" "blockStarts" "[I") ∈ tb := tb_of (List.mem_append_right _ (List.mem_of_getElem? (i := 98) (by decide +kernel))) (by decide +kernel)
theorem tw_99 : (Jvm.Cond.fieldLink "BinnedReads$Disk" (22 : Nat) "BinnedReads$Disk" "size" "I") ∈ tb := tb_of (List.mem_append_right _ (List.mem_of_getElem? (i := 99) (by decide +kernel))) (by decide +kernel)
theorem tw_100 : (Jvm.Cond.fieldLink "BinnedReads" (95 : Nat) "BinnedReads$Disk" "size" "I") ∈ tb := tb_of (List.mem_append_right _ (List.mem_of_getElem? (i := 100) (by decide +kernel))) (by decide +kernel)
theorem tw_101 : (Jvm.Cond.fieldLink "BinnedReads$Disk" (25 : Nat) "BinnedReads$Disk" "blockCount" "I") ∈ tb := tb_of (List.mem_append_right _ (List.mem_of_getElem? (i := 101) (by decide +kernel))) (by decide +kernel)
theorem tw_102 : (Jvm.Cond.fieldLink "BinnedReads" (109 : Nat) "BinnedReads$Disk" "blockCount" "I") ∈ tb := tb_of (List.mem_append_right _ (List.mem_of_getElem? (i := 102) (by decide +kernel))) (by decide +kernel)
theorem tw_103 : (Jvm.Cond.fieldLink "BinnedReads$Disk" (18 : Nat) "BinnedReads$Disk" "turned" "I") ∈ tb := tb_of (List.mem_append_right _ (List.mem_of_getElem? (i := 103) (by decide +kernel))) (by decide +kernel)
theorem tw_115 : (Jvm.Cond.classLink "BinnedReads" (37 : Nat) "BinnedReads$Finding") ∈ tb := tb_of (List.mem_append_right _ (List.mem_of_getElem? (i := 115) (by decide +kernel))) (by decide +kernel)
theorem tw_116 : (Jvm.Cond.instantiable "BinnedReads$Finding" (4 : Nat)) ∈ tb := tb_of (List.mem_append_right _ (List.mem_of_getElem? (i := 116) (by decide +kernel))) (by decide +kernel)
theorem tw_117 : (Jvm.Cond.methodLinkNest "BinnedReads" (39 : Nat) ({ cls := "BinnedReads$Finding", name := "<init>", desc := "()V" } : Jvm.MethodName) "BinnedReads") ∈ lw_tbl := List.mem_append_right _ (List.mem_of_getElem? (i := 117) (by decide +kernel))
theorem tw_118 : (Jvm.Cond.instanceMethod ({ cls := "BinnedReads$Finding", name := "<init>", desc := "()V" } : Jvm.MethodName)) ∈ tb := tb_of (List.mem_append_right _ (List.mem_of_getElem? (i := 118) (by decide +kernel))) (by decide +kernel)
theorem tw_119 : (Jvm.Cond.code ({ cls := "BinnedReads$Finding", name := "<init>", desc := "()V" } : Jvm.MethodName) prog_4_method_1_code (1 : Nat) (Option.none : Option Jvm.ClassFile.FieldType)) ∈ tb := tb_of (List.mem_append_right _ (List.mem_of_getElem? (i := 119) (by decide +kernel))) (by decide +kernel)
theorem tw_120 : (Jvm.Cond.methodLink "BinnedReads$Finding" (3 : Nat) ({ cls := "java/lang/Object", name := "<init>", desc := "()V" } : Jvm.MethodName)) ∈ tb := tb_of (List.mem_append_right _ (List.mem_of_getElem? (i := 120) (by decide +kernel))) (by decide +kernel)
theorem tw_121 : (Jvm.Cond.classLink "BinnedReads$Finding" (9 : Nat) "[[I") ∈ tb := tb_of (List.mem_append_right _ (List.mem_of_getElem? (i := 121) (by decide +kernel))) (by decide +kernel)
theorem tw_122 : (Jvm.Cond.arrayOver (Jvm.ClassFile.FieldType.array Jvm.ClassFile.FieldType.int)) ∈ lw_tbl := List.mem_append_right _ (List.mem_of_getElem? (i := 122) (by decide +kernel))
theorem tw_123 : (Jvm.Cond.fieldLink "BinnedReads$Finding" (11 : Nat) "BinnedReads$Finding" "rows" "[[I") ∈ tb := tb_of (List.mem_append_right _ (List.mem_of_getElem? (i := 123) (by decide +kernel))) (by decide +kernel)
theorem tw_124 : (Jvm.Cond.fieldLink "BinnedReads" (158 : Nat) "BinnedReads$Finding" "rows" "[[I") ∈ tb := tb_of (List.mem_append_right _ (List.mem_of_getElem? (i := 124) (by decide +kernel))) (by decide +kernel)
theorem tw_125 : (Jvm.Cond.fieldLink "BinnedReads$Finding" (16 : Nat) "BinnedReads$Finding" "offsets" "[I") ∈ tb := tb_of (List.mem_append_right _ (List.mem_of_getElem? (i := 125) (by decide +kernel))) (by decide +kernel)
theorem tw_126 : (Jvm.Cond.fieldLink "BinnedReads" (152 : Nat) "BinnedReads$Finding" "offsets" "[I") ∈ tb := tb_of (List.mem_append_right _ (List.mem_of_getElem? (i := 126) (by decide +kernel))) (by decide +kernel)
theorem tw_127 : (Jvm.Cond.fieldLink "BinnedReads$Finding" (20 : Nat) "BinnedReads$Finding" "count" "I") ∈ tb := tb_of (List.mem_append_right _ (List.mem_of_getElem? (i := 127) (by decide +kernel))) (by decide +kernel)
theorem tw_128 : (Jvm.Cond.fieldLink "BinnedReads" (148 : Nat) "BinnedReads$Finding" "count" "I") ∈ tb := tb_of (List.mem_append_right _ (List.mem_of_getElem? (i := 128) (by decide +kernel))) (by decide +kernel)
theorem tw_129 : (Jvm.Cond.fieldLink "BinnedReads$Finding" (24 : Nat) "BinnedReads$Finding" "lookedAt" "I") ∈ tb := tb_of (List.mem_append_right _ (List.mem_of_getElem? (i := 129) (by decide +kernel))) (by decide +kernel)
theorem tw_130 : (Jvm.Cond.fieldLink "BinnedReads" (132 : Nat) "BinnedReads$Finding" "lookedAt" "I") ∈ tb := tb_of (List.mem_append_right _ (List.mem_of_getElem? (i := 130) (by decide +kernel))) (by decide +kernel)
theorem tw_140 : (Jvm.Cond.fieldLink "BinnedReads" (12 : Nat) "BinnedReads" "draft" "LBinnedReads$Draft;") ∈ tb := tb_of (List.mem_append_right _ (List.mem_of_getElem? (i := 140) (by decide +kernel))) (by decide +kernel)
theorem tw_141 : (Jvm.Cond.fieldLink "BinnedReads" (19 : Nat) "BinnedReads" "stream" "LBinnedReads$Stream;") ∈ tb := tb_of (List.mem_append_right _ (List.mem_of_getElem? (i := 141) (by decide +kernel))) (by decide +kernel)
theorem tw_142 : (Jvm.Cond.fieldLink "BinnedReads" (26 : Nat) "BinnedReads" "index" "LBinnedReads$Index;") ∈ tb := tb_of (List.mem_append_right _ (List.mem_of_getElem? (i := 142) (by decide +kernel))) (by decide +kernel)
theorem tw_143 : (Jvm.Cond.fieldLink "BinnedReads" (33 : Nat) "BinnedReads" "disk" "LBinnedReads$Disk;") ∈ tb := tb_of (List.mem_append_right _ (List.mem_of_getElem? (i := 143) (by decide +kernel))) (by decide +kernel)
theorem tw_144 : (Jvm.Cond.fieldLink "BinnedReads" (40 : Nat) "BinnedReads" "finding" "LBinnedReads$Finding;") ∈ tb := tb_of (List.mem_append_right _ (List.mem_of_getElem? (i := 144) (by decide +kernel))) (by decide +kernel)
theorem tw_156 : (Jvm.Cond.methodLink "BinnedReadsLaw" (13 : Nat) ({ cls := "BinnedReads", name := "op", desc := "(II)Z" } : Jvm.MethodName)) ∈ tb := tb_of (List.mem_append_right _ (List.mem_of_getElem? (i := 156) (by decide +kernel))) (by decide +kernel)
theorem tw_157 : (Jvm.Cond.instanceMethod ({ cls := "BinnedReads", name := "op", desc := "(II)Z" } : Jvm.MethodName)) ∈ tb := tb_of (List.mem_append_right _ (List.mem_of_getElem? (i := 157) (by decide +kernel))) (by decide +kernel)
theorem tw_158 : (Jvm.Cond.selects "BinnedReads" ({ cls := "BinnedReads", name := "op", desc := "(II)Z" } : Jvm.MethodName) ({ cls := "BinnedReads", name := "op", desc := "(II)Z" } : Jvm.MethodName)) ∈ tb := tb_of (List.mem_append_right _ (List.mem_of_getElem? (i := 158) (by decide +kernel))) (by decide +kernel)
theorem tw_159 : (Jvm.Cond.code ({ cls := "BinnedReads", name := "op", desc := "(II)Z" } : Jvm.MethodName) prog_1_method_2_code (3 : Nat) (Option.some Jvm.ClassFile.FieldType.boolean)) ∈ tb := tb_of (List.mem_append_right _ (List.mem_of_getElem? (i := 159) (by decide +kernel))) (by decide +kernel)
theorem tw_160 : (Jvm.Cond.methodLink "BinnedReads" (44 : Nat) ({ cls := "BinnedReads$Draft", name := "appendOp", desc := "(II)Z" } : Jvm.MethodName)) ∈ tb := tb_of (List.mem_append_right _ (List.mem_of_getElem? (i := 160) (by decide +kernel))) (by decide +kernel)
theorem tw_161 : (Jvm.Cond.instanceMethod ({ cls := "BinnedReads$Draft", name := "appendOp", desc := "(II)Z" } : Jvm.MethodName)) ∈ tb := tb_of (List.mem_append_right _ (List.mem_of_getElem? (i := 161) (by decide +kernel))) (by decide +kernel)
theorem tw_162 : (Jvm.Cond.selects "BinnedReads$Draft" ({ cls := "BinnedReads$Draft", name := "appendOp", desc := "(II)Z" } : Jvm.MethodName) ({ cls := "BinnedReads$Draft", name := "appendOp", desc := "(II)Z" } : Jvm.MethodName)) ∈ tb := tb_of (List.mem_append_right _ (List.mem_of_getElem? (i := 162) (by decide +kernel))) (by decide +kernel)
theorem tw_163 : (Jvm.Cond.code ({ cls := "BinnedReads$Draft", name := "appendOp", desc := "(II)Z" } : Jvm.MethodName) prog_3_method_2_code (3 : Nat) (Option.some Jvm.ClassFile.FieldType.boolean)) ∈ tb := tb_of (List.mem_append_right _ (List.mem_of_getElem? (i := 163) (by decide +kernel))) (by decide +kernel)
theorem tw_164 : (Jvm.Cond.methodLink "BinnedReadsLaw" (18 : Nat) ({ cls := "BinnedReads", name := "base", desc := "(I)Z" } : Jvm.MethodName)) ∈ tb := tb_of (List.mem_append_right _ (List.mem_of_getElem? (i := 164) (by decide +kernel))) (by decide +kernel)
theorem tw_165 : (Jvm.Cond.instanceMethod ({ cls := "BinnedReads", name := "base", desc := "(I)Z" } : Jvm.MethodName)) ∈ tb := tb_of (List.mem_append_right _ (List.mem_of_getElem? (i := 165) (by decide +kernel))) (by decide +kernel)
theorem tw_166 : (Jvm.Cond.selects "BinnedReads" ({ cls := "BinnedReads", name := "base", desc := "(I)Z" } : Jvm.MethodName) ({ cls := "BinnedReads", name := "base", desc := "(I)Z" } : Jvm.MethodName)) ∈ tb := tb_of (List.mem_append_right _ (List.mem_of_getElem? (i := 166) (by decide +kernel))) (by decide +kernel)
theorem tw_167 : (Jvm.Cond.code ({ cls := "BinnedReads", name := "base", desc := "(I)Z" } : Jvm.MethodName) prog_1_method_3_code (2 : Nat) (Option.some Jvm.ClassFile.FieldType.boolean)) ∈ tb := tb_of (List.mem_append_right _ (List.mem_of_getElem? (i := 167) (by decide +kernel))) (by decide +kernel)
theorem tw_168 : (Jvm.Cond.methodLink "BinnedReads" (48 : Nat) ({ cls := "BinnedReads$Draft", name := "appendBase", desc := "(I)Z" } : Jvm.MethodName)) ∈ tb := tb_of (List.mem_append_right _ (List.mem_of_getElem? (i := 168) (by decide +kernel))) (by decide +kernel)
theorem tw_169 : (Jvm.Cond.instanceMethod ({ cls := "BinnedReads$Draft", name := "appendBase", desc := "(I)Z" } : Jvm.MethodName)) ∈ tb := tb_of (List.mem_append_right _ (List.mem_of_getElem? (i := 169) (by decide +kernel))) (by decide +kernel)
theorem tw_170 : (Jvm.Cond.selects "BinnedReads$Draft" ({ cls := "BinnedReads$Draft", name := "appendBase", desc := "(I)Z" } : Jvm.MethodName) ({ cls := "BinnedReads$Draft", name := "appendBase", desc := "(I)Z" } : Jvm.MethodName)) ∈ tb := tb_of (List.mem_append_right _ (List.mem_of_getElem? (i := 170) (by decide +kernel))) (by decide +kernel)
theorem tw_171 : (Jvm.Cond.code ({ cls := "BinnedReads$Draft", name := "appendBase", desc := "(I)Z" } : Jvm.MethodName) prog_3_method_3_code (2 : Nat) (Option.some Jvm.ClassFile.FieldType.boolean)) ∈ tb := tb_of (List.mem_append_right _ (List.mem_of_getElem? (i := 171) (by decide +kernel))) (by decide +kernel)
theorem tw_172 : (Jvm.Cond.methodLink "BinnedReadsLaw" (23 : Nat) ({ cls := "BinnedReads", name := "scrap", desc := "()V" } : Jvm.MethodName)) ∈ tb := tb_of (List.mem_append_right _ (List.mem_of_getElem? (i := 172) (by decide +kernel))) (by decide +kernel)
theorem tw_173 : (Jvm.Cond.instanceMethod ({ cls := "BinnedReads", name := "scrap", desc := "()V" } : Jvm.MethodName)) ∈ tb := tb_of (List.mem_append_right _ (List.mem_of_getElem? (i := 173) (by decide +kernel))) (by decide +kernel)
theorem tw_174 : (Jvm.Cond.selects "BinnedReads" ({ cls := "BinnedReads", name := "scrap", desc := "()V" } : Jvm.MethodName) ({ cls := "BinnedReads", name := "scrap", desc := "()V" } : Jvm.MethodName)) ∈ tb := tb_of (List.mem_append_right _ (List.mem_of_getElem? (i := 174) (by decide +kernel))) (by decide +kernel)
theorem tw_175 : (Jvm.Cond.code ({ cls := "BinnedReads", name := "scrap", desc := "()V" } : Jvm.MethodName) prog_1_method_4_code (1 : Nat) (Option.none : Option Jvm.ClassFile.FieldType)) ∈ tb := tb_of (List.mem_append_right _ (List.mem_of_getElem? (i := 175) (by decide +kernel))) (by decide +kernel)
theorem tw_176 : (Jvm.Cond.methodLink "BinnedReads" (52 : Nat) ({ cls := "BinnedReads$Draft", name := "empty", desc := "()V" } : Jvm.MethodName)) ∈ tb := tb_of (List.mem_append_right _ (List.mem_of_getElem? (i := 176) (by decide +kernel))) (by decide +kernel)
theorem tw_177 : (Jvm.Cond.instanceMethod ({ cls := "BinnedReads$Draft", name := "empty", desc := "()V" } : Jvm.MethodName)) ∈ tb := tb_of (List.mem_append_right _ (List.mem_of_getElem? (i := 177) (by decide +kernel))) (by decide +kernel)
theorem tw_178 : (Jvm.Cond.selects "BinnedReads$Draft" ({ cls := "BinnedReads$Draft", name := "empty", desc := "()V" } : Jvm.MethodName) ({ cls := "BinnedReads$Draft", name := "empty", desc := "()V" } : Jvm.MethodName)) ∈ tb := tb_of (List.mem_append_right _ (List.mem_of_getElem? (i := 178) (by decide +kernel))) (by decide +kernel)
theorem tw_179 : (Jvm.Cond.code ({ cls := "BinnedReads$Draft", name := "empty", desc := "()V" } : Jvm.MethodName) prog_3_method_4_code (1 : Nat) (Option.none : Option Jvm.ClassFile.FieldType)) ∈ tb := tb_of (List.mem_append_right _ (List.mem_of_getElem? (i := 179) (by decide +kernel))) (by decide +kernel)
theorem tw_180 : (Jvm.Cond.methodLink "BinnedReadsLaw" (27 : Nat) ({ cls := "BinnedReads", name := "add", desc := "(II)I" } : Jvm.MethodName)) ∈ tb := tb_of (List.mem_append_right _ (List.mem_of_getElem? (i := 180) (by decide +kernel))) (by decide +kernel)
theorem tw_181 : (Jvm.Cond.instanceMethod ({ cls := "BinnedReads", name := "add", desc := "(II)I" } : Jvm.MethodName)) ∈ tb := tb_of (List.mem_append_right _ (List.mem_of_getElem? (i := 181) (by decide +kernel))) (by decide +kernel)
theorem tw_182 : (Jvm.Cond.selects "BinnedReads" ({ cls := "BinnedReads", name := "add", desc := "(II)I" } : Jvm.MethodName) ({ cls := "BinnedReads", name := "add", desc := "(II)I" } : Jvm.MethodName)) ∈ tb := tb_of (List.mem_append_right _ (List.mem_of_getElem? (i := 182) (by decide +kernel))) (by decide +kernel)
theorem tw_183 : (Jvm.Cond.code ({ cls := "BinnedReads", name := "add", desc := "(II)I" } : Jvm.MethodName) prog_1_method_5_code (6 : Nat) (Option.some Jvm.ClassFile.FieldType.int)) ∈ tb := tb_of (List.mem_append_right _ (List.mem_of_getElem? (i := 183) (by decide +kernel))) (by decide +kernel)
theorem tw_184 : (Jvm.Cond.methodLink "BinnedReads" (55 : Nat) ({ cls := "BinnedReads$Disk", name := "isWritten", desc := "()Z" } : Jvm.MethodName)) ∈ tb := tb_of (List.mem_append_right _ (List.mem_of_getElem? (i := 184) (by decide +kernel))) (by decide +kernel)
theorem tw_185 : (Jvm.Cond.instanceMethod ({ cls := "BinnedReads$Disk", name := "isWritten", desc := "()Z" } : Jvm.MethodName)) ∈ tb := tb_of (List.mem_append_right _ (List.mem_of_getElem? (i := 185) (by decide +kernel))) (by decide +kernel)
theorem tw_186 : (Jvm.Cond.selects "BinnedReads$Disk" ({ cls := "BinnedReads$Disk", name := "isWritten", desc := "()Z" } : Jvm.MethodName) ({ cls := "BinnedReads$Disk", name := "isWritten", desc := "()Z" } : Jvm.MethodName)) ∈ tb := tb_of (List.mem_append_right _ (List.mem_of_getElem? (i := 186) (by decide +kernel))) (by decide +kernel)
theorem tw_187 : (Jvm.Cond.code ({ cls := "BinnedReads$Disk", name := "isWritten", desc := "()Z" } : Jvm.MethodName) prog_2_method_3_code (1 : Nat) (Option.some Jvm.ClassFile.FieldType.boolean)) ∈ tb := tb_of (List.mem_append_right _ (List.mem_of_getElem? (i := 187) (by decide +kernel))) (by decide +kernel)
theorem tw_188 : (Jvm.Cond.methodLink "BinnedReads" (59 : Nat) ({ cls := "BinnedReads$Index", name := "isFull", desc := "()Z" } : Jvm.MethodName)) ∈ tb := tb_of (List.mem_append_right _ (List.mem_of_getElem? (i := 188) (by decide +kernel))) (by decide +kernel)
theorem tw_189 : (Jvm.Cond.instanceMethod ({ cls := "BinnedReads$Index", name := "isFull", desc := "()Z" } : Jvm.MethodName)) ∈ tb := tb_of (List.mem_append_right _ (List.mem_of_getElem? (i := 189) (by decide +kernel))) (by decide +kernel)
theorem tw_190 : (Jvm.Cond.selects "BinnedReads$Index" ({ cls := "BinnedReads$Index", name := "isFull", desc := "()Z" } : Jvm.MethodName) ({ cls := "BinnedReads$Index", name := "isFull", desc := "()Z" } : Jvm.MethodName)) ∈ tb := tb_of (List.mem_append_right _ (List.mem_of_getElem? (i := 190) (by decide +kernel))) (by decide +kernel)
theorem tw_191 : (Jvm.Cond.code ({ cls := "BinnedReads$Index", name := "isFull", desc := "()Z" } : Jvm.MethodName) prog_5_method_3_code (1 : Nat) (Option.some Jvm.ClassFile.FieldType.boolean)) ∈ tb := tb_of (List.mem_append_right _ (List.mem_of_getElem? (i := 191) (by decide +kernel))) (by decide +kernel)
theorem tw_192 : (Jvm.Cond.methodLink "BinnedReads" (62 : Nat) ({ cls := "BinnedReads$Draft", name := "isRead", desc := "()Z" } : Jvm.MethodName)) ∈ tb := tb_of (List.mem_append_right _ (List.mem_of_getElem? (i := 192) (by decide +kernel))) (by decide +kernel)
theorem tw_193 : (Jvm.Cond.instanceMethod ({ cls := "BinnedReads$Draft", name := "isRead", desc := "()Z" } : Jvm.MethodName)) ∈ tb := tb_of (List.mem_append_right _ (List.mem_of_getElem? (i := 193) (by decide +kernel))) (by decide +kernel)
theorem tw_194 : (Jvm.Cond.selects "BinnedReads$Draft" ({ cls := "BinnedReads$Draft", name := "isRead", desc := "()Z" } : Jvm.MethodName) ({ cls := "BinnedReads$Draft", name := "isRead", desc := "()Z" } : Jvm.MethodName)) ∈ tb := tb_of (List.mem_append_right _ (List.mem_of_getElem? (i := 194) (by decide +kernel))) (by decide +kernel)
theorem tw_195 : (Jvm.Cond.code ({ cls := "BinnedReads$Draft", name := "isRead", desc := "()Z" } : Jvm.MethodName) prog_3_method_7_code (1 : Nat) (Option.some Jvm.ClassFile.FieldType.boolean)) ∈ tb := tb_of (List.mem_append_right _ (List.mem_of_getElem? (i := 195) (by decide +kernel))) (by decide +kernel)
theorem tw_196 : (Jvm.Cond.methodLink "BinnedReads$Draft" (36 : Nat) ({ cls := "BinnedReads$Draft", name := "span", desc := "()I" } : Jvm.MethodName)) ∈ tb := tb_of (List.mem_append_right _ (List.mem_of_getElem? (i := 196) (by decide +kernel))) (by decide +kernel)
theorem tw_197 : (Jvm.Cond.instanceMethod ({ cls := "BinnedReads$Draft", name := "span", desc := "()I" } : Jvm.MethodName)) ∈ tb := tb_of (List.mem_append_right _ (List.mem_of_getElem? (i := 197) (by decide +kernel))) (by decide +kernel)
theorem tw_198 : (Jvm.Cond.selects "BinnedReads$Draft" ({ cls := "BinnedReads$Draft", name := "span", desc := "()I" } : Jvm.MethodName) ({ cls := "BinnedReads$Draft", name := "span", desc := "()I" } : Jvm.MethodName)) ∈ tb := tb_of (List.mem_append_right _ (List.mem_of_getElem? (i := 198) (by decide +kernel))) (by decide +kernel)
theorem tw_199 : (Jvm.Cond.code ({ cls := "BinnedReads$Draft", name := "span", desc := "()I" } : Jvm.MethodName) prog_3_method_5_code (1 : Nat) (Option.some Jvm.ClassFile.FieldType.int)) ∈ tb := tb_of (List.mem_append_right _ (List.mem_of_getElem? (i := 199) (by decide +kernel))) (by decide +kernel)
theorem tw_200 : (Jvm.Cond.methodLinkNest "BinnedReads$Draft" (25 : Nat) ({ cls := "BinnedReads", name := "spanOf", desc := "([III)I" } : Jvm.MethodName) "BinnedReads") ∈ lw_tbl := List.mem_append_right _ (List.mem_of_getElem? (i := 200) (by decide +kernel))
theorem tw_201 : (Jvm.Cond.static ({ cls := "BinnedReads", name := "spanOf", desc := "([III)I" } : Jvm.MethodName)) ∈ tb := tb_of (List.mem_append_right _ (List.mem_of_getElem? (i := 201) (by decide +kernel))) (by decide +kernel)
theorem tw_202 : (Jvm.Cond.code ({ cls := "BinnedReads", name := "spanOf", desc := "([III)I" } : Jvm.MethodName) prog_1_method_23_code (6 : Nat) (Option.some Jvm.ClassFile.FieldType.int)) ∈ tb := tb_of (List.mem_append_right _ (List.mem_of_getElem? (i := 202) (by decide +kernel))) (by decide +kernel)
theorem tw_203 : (Jvm.Cond.methodLink "BinnedReads" (179 : Nat) ({ cls := "BinnedReads", name := "kindOf", desc := "(I)I" } : Jvm.MethodName)) ∈ tb := tb_of (List.mem_append_right _ (List.mem_of_getElem? (i := 203) (by decide +kernel))) (by decide +kernel)
theorem tw_204 : (Jvm.Cond.static ({ cls := "BinnedReads", name := "kindOf", desc := "(I)I" } : Jvm.MethodName)) ∈ tb := tb_of (List.mem_append_right _ (List.mem_of_getElem? (i := 204) (by decide +kernel))) (by decide +kernel)
theorem tw_205 : (Jvm.Cond.code ({ cls := "BinnedReads", name := "kindOf", desc := "(I)I" } : Jvm.MethodName) prog_1_method_21_code (1 : Nat) (Option.some Jvm.ClassFile.FieldType.int)) ∈ tb := tb_of (List.mem_append_right _ (List.mem_of_getElem? (i := 205) (by decide +kernel))) (by decide +kernel)
theorem tw_206 : (Jvm.Cond.methodLink "BinnedReads" (182 : Nat) ({ cls := "BinnedReads", name := "lengthOf", desc := "(I)I" } : Jvm.MethodName)) ∈ tb := tb_of (List.mem_append_right _ (List.mem_of_getElem? (i := 206) (by decide +kernel))) (by decide +kernel)
theorem tw_207 : (Jvm.Cond.static ({ cls := "BinnedReads", name := "lengthOf", desc := "(I)I" } : Jvm.MethodName)) ∈ tb := tb_of (List.mem_append_right _ (List.mem_of_getElem? (i := 207) (by decide +kernel))) (by decide +kernel)
theorem tw_208 : (Jvm.Cond.code ({ cls := "BinnedReads", name := "lengthOf", desc := "(I)I" } : Jvm.MethodName) prog_1_method_22_code (1 : Nat) (Option.some Jvm.ClassFile.FieldType.int)) ∈ tb := tb_of (List.mem_append_right _ (List.mem_of_getElem? (i := 208) (by decide +kernel))) (by decide +kernel)
theorem tw_209 : (Jvm.Cond.methodLink "BinnedReads$Draft" (40 : Nat) ({ cls := "BinnedReads$Draft", name := "width", desc := "()I" } : Jvm.MethodName)) ∈ tb := tb_of (List.mem_append_right _ (List.mem_of_getElem? (i := 209) (by decide +kernel))) (by decide +kernel)
theorem tw_210 : (Jvm.Cond.instanceMethod ({ cls := "BinnedReads$Draft", name := "width", desc := "()I" } : Jvm.MethodName)) ∈ tb := tb_of (List.mem_append_right _ (List.mem_of_getElem? (i := 210) (by decide +kernel))) (by decide +kernel)
theorem tw_211 : (Jvm.Cond.selects "BinnedReads$Draft" ({ cls := "BinnedReads$Draft", name := "width", desc := "()I" } : Jvm.MethodName) ({ cls := "BinnedReads$Draft", name := "width", desc := "()I" } : Jvm.MethodName)) ∈ tb := tb_of (List.mem_append_right _ (List.mem_of_getElem? (i := 211) (by decide +kernel))) (by decide +kernel)
theorem tw_212 : (Jvm.Cond.code ({ cls := "BinnedReads$Draft", name := "width", desc := "()I" } : Jvm.MethodName) prog_3_method_6_code (3 : Nat) (Option.some Jvm.ClassFile.FieldType.int)) ∈ tb := tb_of (List.mem_append_right _ (List.mem_of_getElem? (i := 212) (by decide +kernel))) (by decide +kernel)
theorem tw_213 : (Jvm.Cond.methodLinkNest "BinnedReads$Draft" (29 : Nat) ({ cls := "BinnedReads", name := "kindOf", desc := "(I)I" } : Jvm.MethodName) "BinnedReads") ∈ lw_tbl := List.mem_append_right _ (List.mem_of_getElem? (i := 213) (by decide +kernel))
theorem tw_214 : (Jvm.Cond.methodLinkNest "BinnedReads$Draft" (33 : Nat) ({ cls := "BinnedReads", name := "lengthOf", desc := "(I)I" } : Jvm.MethodName) "BinnedReads") ∈ lw_tbl := List.mem_append_right _ (List.mem_of_getElem? (i := 214) (by decide +kernel))
theorem tw_215 : (Jvm.Cond.methodLink "BinnedReads" (65 : Nat) ({ cls := "BinnedReads", name := "isReference", desc := "(I)Z" } : Jvm.MethodName)) ∈ tb := tb_of (List.mem_append_right _ (List.mem_of_getElem? (i := 215) (by decide +kernel))) (by decide +kernel)
theorem tw_216 : (Jvm.Cond.static ({ cls := "BinnedReads", name := "isReference", desc := "(I)Z" } : Jvm.MethodName)) ∈ tb := tb_of (List.mem_append_right _ (List.mem_of_getElem? (i := 216) (by decide +kernel))) (by decide +kernel)
theorem tw_217 : (Jvm.Cond.code ({ cls := "BinnedReads", name := "isReference", desc := "(I)Z" } : Jvm.MethodName) prog_1_method_17_code (1 : Nat) (Option.some Jvm.ClassFile.FieldType.boolean)) ∈ tb := tb_of (List.mem_append_right _ (List.mem_of_getElem? (i := 217) (by decide +kernel))) (by decide +kernel)
theorem tw_218 : (Jvm.Cond.methodLink "BinnedReads" (68 : Nat) ({ cls := "BinnedReads$Draft", name := "span", desc := "()I" } : Jvm.MethodName)) ∈ tb := tb_of (List.mem_append_right _ (List.mem_of_getElem? (i := 218) (by decide +kernel))) (by decide +kernel)
theorem tw_219 : (Jvm.Cond.methodLink "BinnedReads" (72 : Nat) ({ cls := "BinnedReads$Index", name := "endsBehind", desc := "(II)Z" } : Jvm.MethodName)) ∈ tb := tb_of (List.mem_append_right _ (List.mem_of_getElem? (i := 219) (by decide +kernel))) (by decide +kernel)
theorem tw_220 : (Jvm.Cond.instanceMethod ({ cls := "BinnedReads$Index", name := "endsBehind", desc := "(II)Z" } : Jvm.MethodName)) ∈ tb := tb_of (List.mem_append_right _ (List.mem_of_getElem? (i := 220) (by decide +kernel))) (by decide +kernel)
theorem tw_221 : (Jvm.Cond.selects "BinnedReads$Index" ({ cls := "BinnedReads$Index", name := "endsBehind", desc := "(II)Z" } : Jvm.MethodName) ({ cls := "BinnedReads$Index", name := "endsBehind", desc := "(II)Z" } : Jvm.MethodName)) ∈ tb := tb_of (List.mem_append_right _ (List.mem_of_getElem? (i := 221) (by decide +kernel))) (by decide +kernel)
theorem tw_222 : (Jvm.Cond.code ({ cls := "BinnedReads$Index", name := "endsBehind", desc := "(II)Z" } : Jvm.MethodName) prog_5_method_4_code (4 : Nat) (Option.some Jvm.ClassFile.FieldType.boolean)) ∈ tb := tb_of (List.mem_append_right _ (List.mem_of_getElem? (i := 222) (by decide +kernel))) (by decide +kernel)
theorem tw_223 : (Jvm.Cond.methodLink "BinnedReads" (75 : Nat) ({ cls := "BinnedReads", name := "binOf", desc := "(II)I" } : Jvm.MethodName)) ∈ tb := tb_of (List.mem_append_right _ (List.mem_of_getElem? (i := 223) (by decide +kernel))) (by decide +kernel)
theorem tw_224 : (Jvm.Cond.static ({ cls := "BinnedReads", name := "binOf", desc := "(II)I" } : Jvm.MethodName)) ∈ tb := tb_of (List.mem_append_right _ (List.mem_of_getElem? (i := 224) (by decide +kernel))) (by decide +kernel)
theorem tw_225 : (Jvm.Cond.code ({ cls := "BinnedReads", name := "binOf", desc := "(II)I" } : Jvm.MethodName) prog_1_method_19_code (3 : Nat) (Option.some Jvm.ClassFile.FieldType.int)) ∈ tb := tb_of (List.mem_append_right _ (List.mem_of_getElem? (i := 225) (by decide +kernel))) (by decide +kernel)
theorem tw_226 : (Jvm.Cond.methodLink "BinnedReads" (83 : Nat) ({ cls := "BinnedReads$Index", name := "append", desc := "(IIIII)I" } : Jvm.MethodName)) ∈ tb := tb_of (List.mem_append_right _ (List.mem_of_getElem? (i := 226) (by decide +kernel))) (by decide +kernel)
theorem tw_227 : (Jvm.Cond.instanceMethod ({ cls := "BinnedReads$Index", name := "append", desc := "(IIIII)I" } : Jvm.MethodName)) ∈ tb := tb_of (List.mem_append_right _ (List.mem_of_getElem? (i := 227) (by decide +kernel))) (by decide +kernel)
theorem tw_228 : (Jvm.Cond.selects "BinnedReads$Index" ({ cls := "BinnedReads$Index", name := "append", desc := "(IIIII)I" } : Jvm.MethodName) ({ cls := "BinnedReads$Index", name := "append", desc := "(IIIII)I" } : Jvm.MethodName)) ∈ tb := tb_of (List.mem_append_right _ (List.mem_of_getElem? (i := 228) (by decide +kernel))) (by decide +kernel)
theorem tw_229 : (Jvm.Cond.code ({ cls := "BinnedReads$Index", name := "append", desc := "(IIIII)I" } : Jvm.MethodName) prog_5_method_5_code (6 : Nat) (Option.some Jvm.ClassFile.FieldType.int)) ∈ tb := tb_of (List.mem_append_right _ (List.mem_of_getElem? (i := 229) (by decide +kernel))) (by decide +kernel)
theorem tw_230 : (Jvm.Cond.methodLink "BinnedReads$Index" (37 : Nat) ({ cls := "BinnedReads$Index", name := "isFull", desc := "()Z" } : Jvm.MethodName)) ∈ tb := tb_of (List.mem_append_right _ (List.mem_of_getElem? (i := 230) (by decide +kernel))) (by decide +kernel)
theorem tw_231 : (Jvm.Cond.methodLink "BinnedReads" (87 : Nat) ({ cls := "BinnedReads$Stream", name := "appendRow", desc := "(LBinnedReads$Draft;III)V" } : Jvm.MethodName)) ∈ tb := tb_of (List.mem_append_right _ (List.mem_of_getElem? (i := 231) (by decide +kernel))) (by decide +kernel)
theorem tw_232 : (Jvm.Cond.instanceMethod ({ cls := "BinnedReads$Stream", name := "appendRow", desc := "(LBinnedReads$Draft;III)V" } : Jvm.MethodName)) ∈ tb := tb_of (List.mem_append_right _ (List.mem_of_getElem? (i := 232) (by decide +kernel))) (by decide +kernel)
theorem tw_233 : (Jvm.Cond.selects "BinnedReads$Stream" ({ cls := "BinnedReads$Stream", name := "appendRow", desc := "(LBinnedReads$Draft;III)V" } : Jvm.MethodName) ({ cls := "BinnedReads$Stream", name := "appendRow", desc := "(LBinnedReads$Draft;III)V" } : Jvm.MethodName)) ∈ tb := tb_of (List.mem_append_right _ (List.mem_of_getElem? (i := 233) (by decide +kernel))) (by decide +kernel)
theorem tw_234 : (Jvm.Cond.code ({ cls := "BinnedReads$Stream", name := "appendRow", desc := "(LBinnedReads$Draft;III)V" } : Jvm.MethodName) prog_6_method_3_code (7 : Nat) (Option.none : Option Jvm.ClassFile.FieldType)) ∈ tb := tb_of (List.mem_append_right _ (List.mem_of_getElem? (i := 234) (by decide +kernel))) (by decide +kernel)
theorem tw_235 : (Jvm.Cond.methodLink "BinnedReads$Stream" (19 : Nat) ({ cls := "BinnedReads$Stream", name := "appendByte", desc := "(I)V" } : Jvm.MethodName)) ∈ tb := tb_of (List.mem_append_right _ (List.mem_of_getElem? (i := 235) (by decide +kernel))) (by decide +kernel)
theorem tw_237 : (Jvm.Cond.instanceMethod ({ cls := "BinnedReads$Stream", name := "appendByte", desc := "(I)V" } : Jvm.MethodName)) ∈ tb := tb_of (List.mem_append_right _ (List.mem_of_getElem? (i := 237) (by decide +kernel))) (by decide +kernel)
theorem tw_238 : (Jvm.Cond.code ({ cls := "BinnedReads$Stream", name := "appendByte", desc := "(I)V" } : Jvm.MethodName) prog_6_method_5_code (2 : Nat) (Option.none : Option Jvm.ClassFile.FieldType)) ∈ tb := tb_of (List.mem_append_right _ (List.mem_of_getElem? (i := 238) (by decide +kernel))) (by decide +kernel)
theorem tw_239 : (Jvm.Cond.methodLink "BinnedReads$Stream" (34 : Nat) ({ cls := "BinnedReads$Draft", name := "basePair", desc := "(I)I" } : Jvm.MethodName)) ∈ tb := tb_of (List.mem_append_right _ (List.mem_of_getElem? (i := 239) (by decide +kernel))) (by decide +kernel)
theorem tw_240 : (Jvm.Cond.instanceMethod ({ cls := "BinnedReads$Draft", name := "basePair", desc := "(I)I" } : Jvm.MethodName)) ∈ tb := tb_of (List.mem_append_right _ (List.mem_of_getElem? (i := 240) (by decide +kernel))) (by decide +kernel)
theorem tw_241 : (Jvm.Cond.selects "BinnedReads$Draft" ({ cls := "BinnedReads$Draft", name := "basePair", desc := "(I)I" } : Jvm.MethodName) ({ cls := "BinnedReads$Draft", name := "basePair", desc := "(I)I" } : Jvm.MethodName)) ∈ tb := tb_of (List.mem_append_right _ (List.mem_of_getElem? (i := 241) (by decide +kernel))) (by decide +kernel)
theorem tw_242 : (Jvm.Cond.code ({ cls := "BinnedReads$Draft", name := "basePair", desc := "(I)I" } : Jvm.MethodName) prog_3_method_8_code (3 : Nat) (Option.some Jvm.ClassFile.FieldType.int)) ∈ tb := tb_of (List.mem_append_right _ (List.mem_of_getElem? (i := 242) (by decide +kernel))) (by decide +kernel)
theorem tw_243 : (Jvm.Cond.methodLink "BinnedReadsLaw" (32 : Nat) ({ cls := "BinnedReads", name := "finish", desc := "()I" } : Jvm.MethodName)) ∈ tb := tb_of (List.mem_append_right _ (List.mem_of_getElem? (i := 243) (by decide +kernel))) (by decide +kernel)
theorem tw_244 : (Jvm.Cond.instanceMethod ({ cls := "BinnedReads", name := "finish", desc := "()I" } : Jvm.MethodName)) ∈ tb := tb_of (List.mem_append_right _ (List.mem_of_getElem? (i := 244) (by decide +kernel))) (by decide +kernel)
theorem tw_245 : (Jvm.Cond.selects "BinnedReads" ({ cls := "BinnedReads", name := "finish", desc := "()I" } : Jvm.MethodName) ({ cls := "BinnedReads", name := "finish", desc := "()I" } : Jvm.MethodName)) ∈ tb := tb_of (List.mem_append_right _ (List.mem_of_getElem? (i := 245) (by decide +kernel))) (by decide +kernel)
theorem tw_246 : (Jvm.Cond.code ({ cls := "BinnedReads", name := "finish", desc := "()I" } : Jvm.MethodName) prog_1_method_6_code (1 : Nat) (Option.some Jvm.ClassFile.FieldType.int)) ∈ tb := tb_of (List.mem_append_right _ (List.mem_of_getElem? (i := 246) (by decide +kernel))) (by decide +kernel)
theorem tw_247 : (Jvm.Cond.methodLink "BinnedReads" (91 : Nat) ({ cls := "BinnedReads$Disk", name := "write", desc := "(LBinnedReads$Stream;)V" } : Jvm.MethodName)) ∈ tb := tb_of (List.mem_append_right _ (List.mem_of_getElem? (i := 247) (by decide +kernel))) (by decide +kernel)
theorem tw_248 : (Jvm.Cond.instanceMethod ({ cls := "BinnedReads$Disk", name := "write", desc := "(LBinnedReads$Stream;)V" } : Jvm.MethodName)) ∈ tb := tb_of (List.mem_append_right _ (List.mem_of_getElem? (i := 248) (by decide +kernel))) (by decide +kernel)
theorem tw_249 : (Jvm.Cond.selects "BinnedReads$Disk" ({ cls := "BinnedReads$Disk", name := "write", desc := "(LBinnedReads$Stream;)V" } : Jvm.MethodName) ({ cls := "BinnedReads$Disk", name := "write", desc := "(LBinnedReads$Stream;)V" } : Jvm.MethodName)) ∈ tb := tb_of (List.mem_append_right _ (List.mem_of_getElem? (i := 249) (by decide +kernel))) (by decide +kernel)
theorem tw_250 : (Jvm.Cond.code ({ cls := "BinnedReads$Disk", name := "write", desc := "(LBinnedReads$Stream;)V" } : Jvm.MethodName) prog_2_method_4_code (3 : Nat) (Option.none : Option Jvm.ClassFile.FieldType)) ∈ tb := tb_of (List.mem_append_right _ (List.mem_of_getElem? (i := 250) (by decide +kernel))) (by decide +kernel)
theorem tw_251 : (Jvm.Cond.methodLink "BinnedReads$Disk" (33 : Nat) ({ cls := "java/lang/Math", name := "min", desc := "(II)I" } : Jvm.MethodName)) ∈ tb := tb_of (List.mem_append_right _ (List.mem_of_getElem? (i := 251) (by decide +kernel))) (by decide +kernel)
theorem tw_252 : (Jvm.Cond.static ({ cls := "java/lang/Math", name := "min", desc := "(II)I" } : Jvm.MethodName)) ∈ tb := tb_of (List.mem_append_right _ (List.mem_of_getElem? (i := 252) (by decide +kernel))) (by decide +kernel)
theorem tw_253 : (Jvm.Cond.code ({ cls := "java/lang/Math", name := "min", desc := "(II)I" } : Jvm.MethodName) prog_9_method_69_code (2 : Nat) (Option.some Jvm.ClassFile.FieldType.int)) ∈ tb := tb_of (List.mem_append_right _ (List.mem_of_getElem? (i := 253) (by decide +kernel))) (by decide +kernel)
theorem tw_254 : (Jvm.Cond.methodLink "BinnedReads$Disk" (39 : Nat) ({ cls := "BinnedReads$Disk", name := "appendBlock", desc := "(LBinnedReads$Stream;II)V" } : Jvm.MethodName)) ∈ tb := tb_of (List.mem_append_right _ (List.mem_of_getElem? (i := 254) (by decide +kernel))) (by decide +kernel)
theorem tw_256 : (Jvm.Cond.instanceMethod ({ cls := "BinnedReads$Disk", name := "appendBlock", desc := "(LBinnedReads$Stream;II)V" } : Jvm.MethodName)) ∈ tb := tb_of (List.mem_append_right _ (List.mem_of_getElem? (i := 256) (by decide +kernel))) (by decide +kernel)
theorem tw_257 : (Jvm.Cond.code ({ cls := "BinnedReads$Disk", name := "appendBlock", desc := "(LBinnedReads$Stream;II)V" } : Jvm.MethodName) prog_2_method_10_code (6 : Nat) (Option.none : Option Jvm.ClassFile.FieldType)) ∈ tb := tb_of (List.mem_append_right _ (List.mem_of_getElem? (i := 257) (by decide +kernel))) (by decide +kernel)
theorem tw_258 : (Jvm.Cond.methodLink "BinnedReads$Disk" (54 : Nat) ({ cls := "BinnedReads$Disk", name := "appendByte", desc := "(I)V" } : Jvm.MethodName)) ∈ tb := tb_of (List.mem_append_right _ (List.mem_of_getElem? (i := 258) (by decide +kernel))) (by decide +kernel)
theorem tw_260 : (Jvm.Cond.instanceMethod ({ cls := "BinnedReads$Disk", name := "appendByte", desc := "(I)V" } : Jvm.MethodName)) ∈ tb := tb_of (List.mem_append_right _ (List.mem_of_getElem? (i := 260) (by decide +kernel))) (by decide +kernel)
theorem tw_261 : (Jvm.Cond.code ({ cls := "BinnedReads$Disk", name := "appendByte", desc := "(I)V" } : Jvm.MethodName) prog_2_method_12_code (2 : Nat) (Option.none : Option Jvm.ClassFile.FieldType)) ∈ tb := tb_of (List.mem_append_right _ (List.mem_of_getElem? (i := 261) (by decide +kernel))) (by decide +kernel)
theorem tw_262 : (Jvm.Cond.methodLink "BinnedReads$Disk" (58 : Nat) ({ cls := "BinnedReads$Disk", name := "appendNumber", desc := "(II)V" } : Jvm.MethodName)) ∈ tb := tb_of (List.mem_append_right _ (List.mem_of_getElem? (i := 262) (by decide +kernel))) (by decide +kernel)
theorem tw_264 : (Jvm.Cond.instanceMethod ({ cls := "BinnedReads$Disk", name := "appendNumber", desc := "(II)V" } : Jvm.MethodName)) ∈ tb := tb_of (List.mem_append_right _ (List.mem_of_getElem? (i := 264) (by decide +kernel))) (by decide +kernel)
theorem tw_265 : (Jvm.Cond.code ({ cls := "BinnedReads$Disk", name := "appendNumber", desc := "(II)V" } : Jvm.MethodName) prog_2_method_11_code (4 : Nat) (Option.none : Option Jvm.ClassFile.FieldType)) ∈ tb := tb_of (List.mem_append_right _ (List.mem_of_getElem? (i := 265) (by decide +kernel))) (by decide +kernel)
theorem tw_266 : (Jvm.Cond.methodLink "BinnedReads$Disk" (63 : Nat) ({ cls := "BinnedReads$Disk", name := "sumOf", desc := "(II)I" } : Jvm.MethodName)) ∈ tb := tb_of (List.mem_append_right _ (List.mem_of_getElem? (i := 266) (by decide +kernel))) (by decide +kernel)
theorem tw_268 : (Jvm.Cond.instanceMethod ({ cls := "BinnedReads$Disk", name := "sumOf", desc := "(II)I" } : Jvm.MethodName)) ∈ tb := tb_of (List.mem_append_right _ (List.mem_of_getElem? (i := 268) (by decide +kernel))) (by decide +kernel)
theorem tw_269 : (Jvm.Cond.code ({ cls := "BinnedReads$Disk", name := "sumOf", desc := "(II)I" } : Jvm.MethodName) prog_2_method_15_code (6 : Nat) (Option.some Jvm.ClassFile.FieldType.int)) ∈ tb := tb_of (List.mem_append_right _ (List.mem_of_getElem? (i := 269) (by decide +kernel))) (by decide +kernel)
theorem tw_270 : (Jvm.Cond.methodLink "BinnedReads$Disk" (47 : Nat) ({ cls := "BinnedReads$Disk", name := "at", desc := "(I)I" } : Jvm.MethodName)) ∈ tb := tb_of (List.mem_append_right _ (List.mem_of_getElem? (i := 270) (by decide +kernel))) (by decide +kernel)
theorem tw_271 : (Jvm.Cond.instanceMethod ({ cls := "BinnedReads$Disk", name := "at", desc := "(I)I" } : Jvm.MethodName)) ∈ tb := tb_of (List.mem_append_right _ (List.mem_of_getElem? (i := 271) (by decide +kernel))) (by decide +kernel)
theorem tw_272 : (Jvm.Cond.selects "BinnedReads$Disk" ({ cls := "BinnedReads$Disk", name := "at", desc := "(I)I" } : Jvm.MethodName) ({ cls := "BinnedReads$Disk", name := "at", desc := "(I)I" } : Jvm.MethodName)) ∈ tb := tb_of (List.mem_append_right _ (List.mem_of_getElem? (i := 272) (by decide +kernel))) (by decide +kernel)
theorem tw_273 : (Jvm.Cond.code ({ cls := "BinnedReads$Disk", name := "at", desc := "(I)I" } : Jvm.MethodName) prog_2_method_5_code (2 : Nat) (Option.some Jvm.ClassFile.FieldType.int)) ∈ tb := tb_of (List.mem_append_right _ (List.mem_of_getElem? (i := 273) (by decide +kernel))) (by decide +kernel)
theorem tw_274 : (Jvm.Cond.constant "BinnedReads$Disk" (70 : Nat) (-306674912 : Int32)) ∈ tb := tb_of (List.mem_append_right _ (List.mem_of_getElem? (i := 274) (by decide +kernel))) (by decide +kernel)
theorem tw_275 : (Jvm.Cond.methodLink "BinnedReadsLaw" (37 : Nat) ({ cls := "BinnedReads", name := "clear", desc := "()V" } : Jvm.MethodName)) ∈ tb := tb_of (List.mem_append_right _ (List.mem_of_getElem? (i := 275) (by decide +kernel))) (by decide +kernel)
theorem tw_276 : (Jvm.Cond.instanceMethod ({ cls := "BinnedReads", name := "clear", desc := "()V" } : Jvm.MethodName)) ∈ tb := tb_of (List.mem_append_right _ (List.mem_of_getElem? (i := 276) (by decide +kernel))) (by decide +kernel)
theorem tw_277 : (Jvm.Cond.selects "BinnedReads" ({ cls := "BinnedReads", name := "clear", desc := "()V" } : Jvm.MethodName) ({ cls := "BinnedReads", name := "clear", desc := "()V" } : Jvm.MethodName)) ∈ tb := tb_of (List.mem_append_right _ (List.mem_of_getElem? (i := 277) (by decide +kernel))) (by decide +kernel)
theorem tw_278 : (Jvm.Cond.code ({ cls := "BinnedReads", name := "clear", desc := "()V" } : Jvm.MethodName) prog_1_method_7_code (1 : Nat) (Option.none : Option Jvm.ClassFile.FieldType)) ∈ tb := tb_of (List.mem_append_right _ (List.mem_of_getElem? (i := 278) (by decide +kernel))) (by decide +kernel)
theorem tw_279 : (Jvm.Cond.methodLink "BinnedReads" (98 : Nat) ({ cls := "BinnedReads$Stream", name := "empty", desc := "()V" } : Jvm.MethodName)) ∈ tb := tb_of (List.mem_append_right _ (List.mem_of_getElem? (i := 279) (by decide +kernel))) (by decide +kernel)
theorem tw_280 : (Jvm.Cond.instanceMethod ({ cls := "BinnedReads$Stream", name := "empty", desc := "()V" } : Jvm.MethodName)) ∈ tb := tb_of (List.mem_append_right _ (List.mem_of_getElem? (i := 280) (by decide +kernel))) (by decide +kernel)
theorem tw_281 : (Jvm.Cond.selects "BinnedReads$Stream" ({ cls := "BinnedReads$Stream", name := "empty", desc := "()V" } : Jvm.MethodName) ({ cls := "BinnedReads$Stream", name := "empty", desc := "()V" } : Jvm.MethodName)) ∈ tb := tb_of (List.mem_append_right _ (List.mem_of_getElem? (i := 281) (by decide +kernel))) (by decide +kernel)
theorem tw_282 : (Jvm.Cond.code ({ cls := "BinnedReads$Stream", name := "empty", desc := "()V" } : Jvm.MethodName) prog_6_method_2_code (1 : Nat) (Option.none : Option Jvm.ClassFile.FieldType)) ∈ tb := tb_of (List.mem_append_right _ (List.mem_of_getElem? (i := 282) (by decide +kernel))) (by decide +kernel)
theorem tw_283 : (Jvm.Cond.methodLink "BinnedReads" (99 : Nat) ({ cls := "BinnedReads$Index", name := "empty", desc := "()V" } : Jvm.MethodName)) ∈ tb := tb_of (List.mem_append_right _ (List.mem_of_getElem? (i := 283) (by decide +kernel))) (by decide +kernel)
theorem tw_284 : (Jvm.Cond.instanceMethod ({ cls := "BinnedReads$Index", name := "empty", desc := "()V" } : Jvm.MethodName)) ∈ tb := tb_of (List.mem_append_right _ (List.mem_of_getElem? (i := 284) (by decide +kernel))) (by decide +kernel)
theorem tw_285 : (Jvm.Cond.selects "BinnedReads$Index" ({ cls := "BinnedReads$Index", name := "empty", desc := "()V" } : Jvm.MethodName) ({ cls := "BinnedReads$Index", name := "empty", desc := "()V" } : Jvm.MethodName)) ∈ tb := tb_of (List.mem_append_right _ (List.mem_of_getElem? (i := 285) (by decide +kernel))) (by decide +kernel)
theorem tw_286 : (Jvm.Cond.code ({ cls := "BinnedReads$Index", name := "empty", desc := "()V" } : Jvm.MethodName) prog_5_method_2_code (1 : Nat) (Option.none : Option Jvm.ClassFile.FieldType)) ∈ tb := tb_of (List.mem_append_right _ (List.mem_of_getElem? (i := 286) (by decide +kernel))) (by decide +kernel)
theorem tw_287 : (Jvm.Cond.methodLink "BinnedReads" (100 : Nat) ({ cls := "BinnedReads$Disk", name := "empty", desc := "()V" } : Jvm.MethodName)) ∈ tb := tb_of (List.mem_append_right _ (List.mem_of_getElem? (i := 287) (by decide +kernel))) (by decide +kernel)
theorem tw_288 : (Jvm.Cond.instanceMethod ({ cls := "BinnedReads$Disk", name := "empty", desc := "()V" } : Jvm.MethodName)) ∈ tb := tb_of (List.mem_append_right _ (List.mem_of_getElem? (i := 288) (by decide +kernel))) (by decide +kernel)
theorem tw_289 : (Jvm.Cond.selects "BinnedReads$Disk" ({ cls := "BinnedReads$Disk", name := "empty", desc := "()V" } : Jvm.MethodName) ({ cls := "BinnedReads$Disk", name := "empty", desc := "()V" } : Jvm.MethodName)) ∈ tb := tb_of (List.mem_append_right _ (List.mem_of_getElem? (i := 289) (by decide +kernel))) (by decide +kernel)
theorem tw_290 : (Jvm.Cond.code ({ cls := "BinnedReads$Disk", name := "empty", desc := "()V" } : Jvm.MethodName) prog_2_method_2_code (1 : Nat) (Option.none : Option Jvm.ClassFile.FieldType)) ∈ tb := tb_of (List.mem_append_right _ (List.mem_of_getElem? (i := 290) (by decide +kernel))) (by decide +kernel)
theorem tw_291 : (Jvm.Cond.methodLink "BinnedReads" (101 : Nat) ({ cls := "BinnedReads$Finding", name := "empty", desc := "()V" } : Jvm.MethodName)) ∈ tb := tb_of (List.mem_append_right _ (List.mem_of_getElem? (i := 291) (by decide +kernel))) (by decide +kernel)
theorem tw_292 : (Jvm.Cond.instanceMethod ({ cls := "BinnedReads$Finding", name := "empty", desc := "()V" } : Jvm.MethodName)) ∈ tb := tb_of (List.mem_append_right _ (List.mem_of_getElem? (i := 292) (by decide +kernel))) (by decide +kernel)
theorem tw_293 : (Jvm.Cond.selects "BinnedReads$Finding" ({ cls := "BinnedReads$Finding", name := "empty", desc := "()V" } : Jvm.MethodName) ({ cls := "BinnedReads$Finding", name := "empty", desc := "()V" } : Jvm.MethodName)) ∈ tb := tb_of (List.mem_append_right _ (List.mem_of_getElem? (i := 293) (by decide +kernel))) (by decide +kernel)
theorem tw_294 : (Jvm.Cond.code ({ cls := "BinnedReads$Finding", name := "empty", desc := "()V" } : Jvm.MethodName) prog_4_method_2_code (1 : Nat) (Option.none : Option Jvm.ClassFile.FieldType)) ∈ tb := tb_of (List.mem_append_right _ (List.mem_of_getElem? (i := 294) (by decide +kernel))) (by decide +kernel)
theorem tw_295 : (Jvm.Cond.methodLink "BinnedReadsLaw" (41 : Nat) ({ cls := "BinnedReads", name := "turn", desc := "(II)Z" } : Jvm.MethodName)) ∈ tb := tb_of (List.mem_append_right _ (List.mem_of_getElem? (i := 295) (by decide +kernel))) (by decide +kernel)
theorem tw_296 : (Jvm.Cond.instanceMethod ({ cls := "BinnedReads", name := "turn", desc := "(II)Z" } : Jvm.MethodName)) ∈ tb := tb_of (List.mem_append_right _ (List.mem_of_getElem? (i := 296) (by decide +kernel))) (by decide +kernel)
theorem tw_297 : (Jvm.Cond.selects "BinnedReads" ({ cls := "BinnedReads", name := "turn", desc := "(II)Z" } : Jvm.MethodName) ({ cls := "BinnedReads", name := "turn", desc := "(II)Z" } : Jvm.MethodName)) ∈ tb := tb_of (List.mem_append_right _ (List.mem_of_getElem? (i := 297) (by decide +kernel))) (by decide +kernel)
theorem tw_298 : (Jvm.Cond.code ({ cls := "BinnedReads", name := "turn", desc := "(II)Z" } : Jvm.MethodName) prog_1_method_8_code (3 : Nat) (Option.some Jvm.ClassFile.FieldType.boolean)) ∈ tb := tb_of (List.mem_append_right _ (List.mem_of_getElem? (i := 298) (by decide +kernel))) (by decide +kernel)
theorem tw_299 : (Jvm.Cond.methodLink "BinnedReads" (102 : Nat) ({ cls := "BinnedReads$Disk", name := "turnBit", desc := "(II)Z" } : Jvm.MethodName)) ∈ tb := tb_of (List.mem_append_right _ (List.mem_of_getElem? (i := 299) (by decide +kernel))) (by decide +kernel)
theorem tw_300 : (Jvm.Cond.instanceMethod ({ cls := "BinnedReads$Disk", name := "turnBit", desc := "(II)Z" } : Jvm.MethodName)) ∈ tb := tb_of (List.mem_append_right _ (List.mem_of_getElem? (i := 300) (by decide +kernel))) (by decide +kernel)
theorem tw_301 : (Jvm.Cond.selects "BinnedReads$Disk" ({ cls := "BinnedReads$Disk", name := "turnBit", desc := "(II)Z" } : Jvm.MethodName) ({ cls := "BinnedReads$Disk", name := "turnBit", desc := "(II)Z" } : Jvm.MethodName)) ∈ tb := tb_of (List.mem_append_right _ (List.mem_of_getElem? (i := 301) (by decide +kernel))) (by decide +kernel)
theorem tw_302 : (Jvm.Cond.code ({ cls := "BinnedReads$Disk", name := "turnBit", desc := "(II)Z" } : Jvm.MethodName) prog_2_method_6_code (4 : Nat) (Option.some Jvm.ClassFile.FieldType.boolean)) ∈ tb := tb_of (List.mem_append_right _ (List.mem_of_getElem? (i := 302) (by decide +kernel))) (by decide +kernel)
theorem tw_303 : (Jvm.Cond.methodLink "BinnedReadsLaw" (45 : Nat) ({ cls := "BinnedReads", name := "byteAt", desc := "(I)I" } : Jvm.MethodName)) ∈ tb := tb_of (List.mem_append_right _ (List.mem_of_getElem? (i := 303) (by decide +kernel))) (by decide +kernel)
theorem tw_304 : (Jvm.Cond.instanceMethod ({ cls := "BinnedReads", name := "byteAt", desc := "(I)I" } : Jvm.MethodName)) ∈ tb := tb_of (List.mem_append_right _ (List.mem_of_getElem? (i := 304) (by decide +kernel))) (by decide +kernel)
theorem tw_305 : (Jvm.Cond.selects "BinnedReads" ({ cls := "BinnedReads", name := "byteAt", desc := "(I)I" } : Jvm.MethodName) ({ cls := "BinnedReads", name := "byteAt", desc := "(I)I" } : Jvm.MethodName)) ∈ tb := tb_of (List.mem_append_right _ (List.mem_of_getElem? (i := 305) (by decide +kernel))) (by decide +kernel)
theorem tw_306 : (Jvm.Cond.code ({ cls := "BinnedReads", name := "byteAt", desc := "(I)I" } : Jvm.MethodName) prog_1_method_9_code (2 : Nat) (Option.some Jvm.ClassFile.FieldType.int)) ∈ tb := tb_of (List.mem_append_right _ (List.mem_of_getElem? (i := 306) (by decide +kernel))) (by decide +kernel)
theorem tw_307 : (Jvm.Cond.methodLink "BinnedReads" (105 : Nat) ({ cls := "BinnedReads$Disk", name := "at", desc := "(I)I" } : Jvm.MethodName)) ∈ tb := tb_of (List.mem_append_right _ (List.mem_of_getElem? (i := 307) (by decide +kernel))) (by decide +kernel)
theorem tw_308 : (Jvm.Cond.methodLink "BinnedReadsLaw" (50 : Nat) ({ cls := "BinnedReads", name := "check", desc := "()I" } : Jvm.MethodName)) ∈ tb := tb_of (List.mem_append_right _ (List.mem_of_getElem? (i := 308) (by decide +kernel))) (by decide +kernel)
theorem tw_309 : (Jvm.Cond.instanceMethod ({ cls := "BinnedReads", name := "check", desc := "()I" } : Jvm.MethodName)) ∈ tb := tb_of (List.mem_append_right _ (List.mem_of_getElem? (i := 309) (by decide +kernel))) (by decide +kernel)
theorem tw_310 : (Jvm.Cond.selects "BinnedReads" ({ cls := "BinnedReads", name := "check", desc := "()I" } : Jvm.MethodName) ({ cls := "BinnedReads", name := "check", desc := "()I" } : Jvm.MethodName)) ∈ tb := tb_of (List.mem_append_right _ (List.mem_of_getElem? (i := 310) (by decide +kernel))) (by decide +kernel)
theorem tw_311 : (Jvm.Cond.code ({ cls := "BinnedReads", name := "check", desc := "()I" } : Jvm.MethodName) prog_1_method_10_code (1 : Nat) (Option.some Jvm.ClassFile.FieldType.int)) ∈ tb := tb_of (List.mem_append_right _ (List.mem_of_getElem? (i := 311) (by decide +kernel))) (by decide +kernel)
theorem tw_312 : (Jvm.Cond.methodLink "BinnedReads" (112 : Nat) ({ cls := "BinnedReads$Disk", name := "areSound", desc := "(II)Z" } : Jvm.MethodName)) ∈ tb := tb_of (List.mem_append_right _ (List.mem_of_getElem? (i := 312) (by decide +kernel))) (by decide +kernel)
theorem tw_313 : (Jvm.Cond.instanceMethod ({ cls := "BinnedReads$Disk", name := "areSound", desc := "(II)Z" } : Jvm.MethodName)) ∈ tb := tb_of (List.mem_append_right _ (List.mem_of_getElem? (i := 313) (by decide +kernel))) (by decide +kernel)
theorem tw_314 : (Jvm.Cond.selects "BinnedReads$Disk" ({ cls := "BinnedReads$Disk", name := "areSound", desc := "(II)Z" } : Jvm.MethodName) ({ cls := "BinnedReads$Disk", name := "areSound", desc := "(II)Z" } : Jvm.MethodName)) ∈ tb := tb_of (List.mem_append_right _ (List.mem_of_getElem? (i := 314) (by decide +kernel))) (by decide +kernel)
theorem tw_315 : (Jvm.Cond.code ({ cls := "BinnedReads$Disk", name := "areSound", desc := "(II)Z" } : Jvm.MethodName) prog_2_method_7_code (4 : Nat) (Option.some Jvm.ClassFile.FieldType.boolean)) ∈ tb := tb_of (List.mem_append_right _ (List.mem_of_getElem? (i := 315) (by decide +kernel))) (by decide +kernel)
theorem tw_316 : (Jvm.Cond.methodLink "BinnedReads$Disk" (43 : Nat) ({ cls := "BinnedReads$Disk", name := "isSound", desc := "(I)Z" } : Jvm.MethodName)) ∈ tb := tb_of (List.mem_append_right _ (List.mem_of_getElem? (i := 316) (by decide +kernel))) (by decide +kernel)
theorem tw_318 : (Jvm.Cond.instanceMethod ({ cls := "BinnedReads$Disk", name := "isSound", desc := "(I)Z" } : Jvm.MethodName)) ∈ tb := tb_of (List.mem_append_right _ (List.mem_of_getElem? (i := 318) (by decide +kernel))) (by decide +kernel)
theorem tw_319 : (Jvm.Cond.code ({ cls := "BinnedReads$Disk", name := "isSound", desc := "(I)Z" } : Jvm.MethodName) prog_2_method_13_code (5 : Nat) (Option.some Jvm.ClassFile.FieldType.boolean)) ∈ tb := tb_of (List.mem_append_right _ (List.mem_of_getElem? (i := 319) (by decide +kernel))) (by decide +kernel)
theorem tw_320 : (Jvm.Cond.methodLink "BinnedReads$Disk" (66 : Nat) ({ cls := "BinnedReads$Disk", name := "numberAt", desc := "(II)I" } : Jvm.MethodName)) ∈ tb := tb_of (List.mem_append_right _ (List.mem_of_getElem? (i := 320) (by decide +kernel))) (by decide +kernel)
theorem tw_322 : (Jvm.Cond.instanceMethod ({ cls := "BinnedReads$Disk", name := "numberAt", desc := "(II)I" } : Jvm.MethodName)) ∈ tb := tb_of (List.mem_append_right _ (List.mem_of_getElem? (i := 322) (by decide +kernel))) (by decide +kernel)
theorem tw_323 : (Jvm.Cond.code ({ cls := "BinnedReads$Disk", name := "numberAt", desc := "(II)I" } : Jvm.MethodName) prog_2_method_14_code (5 : Nat) (Option.some Jvm.ClassFile.FieldType.int)) ∈ tb := tb_of (List.mem_append_right _ (List.mem_of_getElem? (i := 323) (by decide +kernel))) (by decide +kernel)
theorem tw_324 : (Jvm.Cond.constant "BinnedReads$Disk" (69 : Nat) (65535 : Int32)) ∈ tb := tb_of (List.mem_append_right _ (List.mem_of_getElem? (i := 324) (by decide +kernel))) (by decide +kernel)
theorem tw_325 : (Jvm.Cond.methodLink "BinnedReadsLaw" (54 : Nat) ({ cls := "BinnedReads", name := "query", desc := "(III)I" } : Jvm.MethodName)) ∈ tb := tb_of (List.mem_append_right _ (List.mem_of_getElem? (i := 325) (by decide +kernel))) (by decide +kernel)
theorem tw_326 : (Jvm.Cond.instanceMethod ({ cls := "BinnedReads", name := "query", desc := "(III)I" } : Jvm.MethodName)) ∈ tb := tb_of (List.mem_append_right _ (List.mem_of_getElem? (i := 326) (by decide +kernel))) (by decide +kernel)
theorem tw_327 : (Jvm.Cond.selects "BinnedReads" ({ cls := "BinnedReads", name := "query", desc := "(III)I" } : Jvm.MethodName) ({ cls := "BinnedReads", name := "query", desc := "(III)I" } : Jvm.MethodName)) ∈ tb := tb_of (List.mem_append_right _ (List.mem_of_getElem? (i := 327) (by decide +kernel))) (by decide +kernel)
theorem tw_328 : (Jvm.Cond.code ({ cls := "BinnedReads", name := "query", desc := "(III)I" } : Jvm.MethodName) prog_1_method_11_code (6 : Nat) (Option.some Jvm.ClassFile.FieldType.int)) ∈ tb := tb_of (List.mem_append_right _ (List.mem_of_getElem? (i := 328) (by decide +kernel))) (by decide +kernel)
theorem tw_329 : (Jvm.Cond.methodLink "BinnedReads" (118 : Nat) ({ cls := "BinnedReads", name := "isRegion", desc := "(III)Z" } : Jvm.MethodName)) ∈ tb := tb_of (List.mem_append_right _ (List.mem_of_getElem? (i := 329) (by decide +kernel))) (by decide +kernel)
theorem tw_330 : (Jvm.Cond.static ({ cls := "BinnedReads", name := "isRegion", desc := "(III)Z" } : Jvm.MethodName)) ∈ tb := tb_of (List.mem_append_right _ (List.mem_of_getElem? (i := 330) (by decide +kernel))) (by decide +kernel)
theorem tw_331 : (Jvm.Cond.code ({ cls := "BinnedReads", name := "isRegion", desc := "(III)Z" } : Jvm.MethodName) prog_1_method_18_code (3 : Nat) (Option.some Jvm.ClassFile.FieldType.boolean)) ∈ tb := tb_of (List.mem_append_right _ (List.mem_of_getElem? (i := 331) (by decide +kernel))) (by decide +kernel)
theorem tw_332 : (Jvm.Cond.methodLink "BinnedReads" (122 : Nat) ({ cls := "BinnedReads$Index", name := "choose", desc := "(III)V" } : Jvm.MethodName)) ∈ tb := tb_of (List.mem_append_right _ (List.mem_of_getElem? (i := 332) (by decide +kernel))) (by decide +kernel)
theorem tw_333 : (Jvm.Cond.instanceMethod ({ cls := "BinnedReads$Index", name := "choose", desc := "(III)V" } : Jvm.MethodName)) ∈ tb := tb_of (List.mem_append_right _ (List.mem_of_getElem? (i := 333) (by decide +kernel))) (by decide +kernel)
theorem tw_334 : (Jvm.Cond.selects "BinnedReads$Index" ({ cls := "BinnedReads$Index", name := "choose", desc := "(III)V" } : Jvm.MethodName) ({ cls := "BinnedReads$Index", name := "choose", desc := "(III)V" } : Jvm.MethodName)) ∈ tb := tb_of (List.mem_append_right _ (List.mem_of_getElem? (i := 334) (by decide +kernel))) (by decide +kernel)
theorem tw_335 : (Jvm.Cond.code ({ cls := "BinnedReads$Index", name := "choose", desc := "(III)V" } : Jvm.MethodName) prog_5_method_6_code (6 : Nat) (Option.none : Option Jvm.ClassFile.FieldType)) ∈ tb := tb_of (List.mem_append_right _ (List.mem_of_getElem? (i := 335) (by decide +kernel))) (by decide +kernel)
theorem tw_336 : (Jvm.Cond.methodLink "BinnedReads$Index" (41 : Nat) ({ cls := "BinnedReads$Index", name := "firstEndingAfter", desc := "(II)I" } : Jvm.MethodName)) ∈ tb := tb_of (List.mem_append_right _ (List.mem_of_getElem? (i := 336) (by decide +kernel))) (by decide +kernel)
theorem tw_338 : (Jvm.Cond.instanceMethod ({ cls := "BinnedReads$Index", name := "firstEndingAfter", desc := "(II)I" } : Jvm.MethodName)) ∈ tb := tb_of (List.mem_append_right _ (List.mem_of_getElem? (i := 338) (by decide +kernel))) (by decide +kernel)
theorem tw_339 : (Jvm.Cond.code ({ cls := "BinnedReads$Index", name := "firstEndingAfter", desc := "(II)I" } : Jvm.MethodName) prog_5_method_8_code (4 : Nat) (Option.some Jvm.ClassFile.FieldType.int)) ∈ tb := tb_of (List.mem_append_right _ (List.mem_of_getElem? (i := 339) (by decide +kernel))) (by decide +kernel)
theorem tw_340 : (Jvm.Cond.methodLinkNest "BinnedReads$Index" (45 : Nat) ({ cls := "BinnedReads", name := "binMeets", desc := "(III)Z" } : Jvm.MethodName) "BinnedReads") ∈ lw_tbl := List.mem_append_right _ (List.mem_of_getElem? (i := 340) (by decide +kernel))
theorem tw_341 : (Jvm.Cond.static ({ cls := "BinnedReads", name := "binMeets", desc := "(III)Z" } : Jvm.MethodName)) ∈ tb := tb_of (List.mem_append_right _ (List.mem_of_getElem? (i := 341) (by decide +kernel))) (by decide +kernel)
theorem tw_342 : (Jvm.Cond.code ({ cls := "BinnedReads", name := "binMeets", desc := "(III)Z" } : Jvm.MethodName) prog_1_method_20_code (5 : Nat) (Option.some Jvm.ClassFile.FieldType.boolean)) ∈ tb := tb_of (List.mem_append_right _ (List.mem_of_getElem? (i := 342) (by decide +kernel))) (by decide +kernel)
theorem tw_343 : (Jvm.Cond.methodLink "BinnedReads" (126 : Nat) ({ cls := "BinnedReads", name := "areChosenSound", desc := "()Z" } : Jvm.MethodName)) ∈ tb := tb_of (List.mem_append_right _ (List.mem_of_getElem? (i := 343) (by decide +kernel))) (by decide +kernel)
theorem tw_345 : (Jvm.Cond.instanceMethod ({ cls := "BinnedReads", name := "areChosenSound", desc := "()Z" } : Jvm.MethodName)) ∈ tb := tb_of (List.mem_append_right _ (List.mem_of_getElem? (i := 345) (by decide +kernel))) (by decide +kernel)
theorem tw_346 : (Jvm.Cond.code ({ cls := "BinnedReads", name := "areChosenSound", desc := "()Z" } : Jvm.MethodName) prog_1_method_16_code (6 : Nat) (Option.some Jvm.ClassFile.FieldType.boolean)) ∈ tb := tb_of (List.mem_append_right _ (List.mem_of_getElem? (i := 346) (by decide +kernel))) (by decide +kernel)
theorem tw_347 : (Jvm.Cond.methodLink "BinnedReads" (171 : Nat) ({ cls := "BinnedReads$Stream", name := "rowLength", desc := "(I)I" } : Jvm.MethodName)) ∈ tb := tb_of (List.mem_append_right _ (List.mem_of_getElem? (i := 347) (by decide +kernel))) (by decide +kernel)
theorem tw_348 : (Jvm.Cond.instanceMethod ({ cls := "BinnedReads$Stream", name := "rowLength", desc := "(I)I" } : Jvm.MethodName)) ∈ tb := tb_of (List.mem_append_right _ (List.mem_of_getElem? (i := 348) (by decide +kernel))) (by decide +kernel)
theorem tw_349 : (Jvm.Cond.selects "BinnedReads$Stream" ({ cls := "BinnedReads$Stream", name := "rowLength", desc := "(I)I" } : Jvm.MethodName) ({ cls := "BinnedReads$Stream", name := "rowLength", desc := "(I)I" } : Jvm.MethodName)) ∈ tb := tb_of (List.mem_append_right _ (List.mem_of_getElem? (i := 349) (by decide +kernel))) (by decide +kernel)
theorem tw_350 : (Jvm.Cond.code ({ cls := "BinnedReads$Stream", name := "rowLength", desc := "(I)I" } : Jvm.MethodName) prog_6_method_4_code (2 : Nat) (Option.some Jvm.ClassFile.FieldType.int)) ∈ tb := tb_of (List.mem_append_right _ (List.mem_of_getElem? (i := 350) (by decide +kernel))) (by decide +kernel)
theorem tw_351 : (Jvm.Cond.methodLink "BinnedReads" (174 : Nat) ({ cls := "java/lang/Math", name := "max", desc := "(II)I" } : Jvm.MethodName)) ∈ tb := tb_of (List.mem_append_right _ (List.mem_of_getElem? (i := 351) (by decide +kernel))) (by decide +kernel)
theorem tw_352 : (Jvm.Cond.static ({ cls := "java/lang/Math", name := "max", desc := "(II)I" } : Jvm.MethodName)) ∈ tb := tb_of (List.mem_append_right _ (List.mem_of_getElem? (i := 352) (by decide +kernel))) (by decide +kernel)
theorem tw_353 : (Jvm.Cond.code ({ cls := "java/lang/Math", name := "max", desc := "(II)I" } : Jvm.MethodName) prog_9_method_65_code (2 : Nat) (Option.some Jvm.ClassFile.FieldType.int)) ∈ tb := tb_of (List.mem_append_right _ (List.mem_of_getElem? (i := 353) (by decide +kernel))) (by decide +kernel)
theorem tw_354 : (Jvm.Cond.methodLink "BinnedReads" (139 : Nat) ({ cls := "BinnedReads$Index", name := "overlaps", desc := "(III)Z" } : Jvm.MethodName)) ∈ tb := tb_of (List.mem_append_right _ (List.mem_of_getElem? (i := 354) (by decide +kernel))) (by decide +kernel)
theorem tw_355 : (Jvm.Cond.instanceMethod ({ cls := "BinnedReads$Index", name := "overlaps", desc := "(III)Z" } : Jvm.MethodName)) ∈ tb := tb_of (List.mem_append_right _ (List.mem_of_getElem? (i := 355) (by decide +kernel))) (by decide +kernel)
theorem tw_356 : (Jvm.Cond.selects "BinnedReads$Index" ({ cls := "BinnedReads$Index", name := "overlaps", desc := "(III)Z" } : Jvm.MethodName) ({ cls := "BinnedReads$Index", name := "overlaps", desc := "(III)Z" } : Jvm.MethodName)) ∈ tb := tb_of (List.mem_append_right _ (List.mem_of_getElem? (i := 356) (by decide +kernel))) (by decide +kernel)
theorem tw_357 : (Jvm.Cond.code ({ cls := "BinnedReads$Index", name := "overlaps", desc := "(III)Z" } : Jvm.MethodName) prog_5_method_7_code (4 : Nat) (Option.some Jvm.ClassFile.FieldType.boolean)) ∈ tb := tb_of (List.mem_append_right _ (List.mem_of_getElem? (i := 357) (by decide +kernel))) (by decide +kernel)
theorem tw_358 : (Jvm.Cond.methodLink "BinnedReads" (145 : Nat) ({ cls := "BinnedReads$Finding", name := "append", desc := "(LBinnedReads$Disk;I)V" } : Jvm.MethodName)) ∈ tb := tb_of (List.mem_append_right _ (List.mem_of_getElem? (i := 358) (by decide +kernel))) (by decide +kernel)
theorem tw_359 : (Jvm.Cond.instanceMethod ({ cls := "BinnedReads$Finding", name := "append", desc := "(LBinnedReads$Disk;I)V" } : Jvm.MethodName)) ∈ tb := tb_of (List.mem_append_right _ (List.mem_of_getElem? (i := 359) (by decide +kernel))) (by decide +kernel)
theorem tw_360 : (Jvm.Cond.selects "BinnedReads$Finding" ({ cls := "BinnedReads$Finding", name := "append", desc := "(LBinnedReads$Disk;I)V" } : Jvm.MethodName) ({ cls := "BinnedReads$Finding", name := "append", desc := "(LBinnedReads$Disk;I)V" } : Jvm.MethodName)) ∈ tb := tb_of (List.mem_append_right _ (List.mem_of_getElem? (i := 360) (by decide +kernel))) (by decide +kernel)
theorem tw_361 : (Jvm.Cond.code ({ cls := "BinnedReads$Finding", name := "append", desc := "(LBinnedReads$Disk;I)V" } : Jvm.MethodName) prog_4_method_4_code (6 : Nat) (Option.none : Option Jvm.ClassFile.FieldType)) ∈ tb := tb_of (List.mem_append_right _ (List.mem_of_getElem? (i := 361) (by decide +kernel))) (by decide +kernel)
theorem tw_362 : (Jvm.Cond.methodLink "BinnedReads$Finding" (27 : Nat) ({ cls := "BinnedReads$Disk", name := "streamByte", desc := "(I)I" } : Jvm.MethodName)) ∈ tb := tb_of (List.mem_append_right _ (List.mem_of_getElem? (i := 362) (by decide +kernel))) (by decide +kernel)
theorem tw_363 : (Jvm.Cond.instanceMethod ({ cls := "BinnedReads$Disk", name := "streamByte", desc := "(I)I" } : Jvm.MethodName)) ∈ tb := tb_of (List.mem_append_right _ (List.mem_of_getElem? (i := 363) (by decide +kernel))) (by decide +kernel)
theorem tw_364 : (Jvm.Cond.selects "BinnedReads$Disk" ({ cls := "BinnedReads$Disk", name := "streamByte", desc := "(I)I" } : Jvm.MethodName) ({ cls := "BinnedReads$Disk", name := "streamByte", desc := "(I)I" } : Jvm.MethodName)) ∈ tb := tb_of (List.mem_append_right _ (List.mem_of_getElem? (i := 364) (by decide +kernel))) (by decide +kernel)
theorem tw_365 : (Jvm.Cond.code ({ cls := "BinnedReads$Disk", name := "streamByte", desc := "(I)I" } : Jvm.MethodName) prog_2_method_8_code (3 : Nat) (Option.some Jvm.ClassFile.FieldType.int)) ∈ tb := tb_of (List.mem_append_right _ (List.mem_of_getElem? (i := 365) (by decide +kernel))) (by decide +kernel)
theorem tw_366 : (Jvm.Cond.methodLink "BinnedReads$Disk" (51 : Nat) ({ cls := "java/lang/Math", name := "max", desc := "(II)I" } : Jvm.MethodName)) ∈ tb := tb_of (List.mem_append_right _ (List.mem_of_getElem? (i := 366) (by decide +kernel))) (by decide +kernel)
theorem tw_367 : (Jvm.Cond.methodLink "BinnedReads$Finding" (33 : Nat) ({ cls := "java/lang/Math", name := "min", desc := "(II)I" } : Jvm.MethodName)) ∈ tb := tb_of (List.mem_append_right _ (List.mem_of_getElem? (i := 367) (by decide +kernel))) (by decide +kernel)
theorem tw_368 : (Jvm.Cond.methodLink "BinnedReads$Finding" (39 : Nat) ({ cls := "BinnedReads$Disk", name := "offsetOf", desc := "(I)I" } : Jvm.MethodName)) ∈ tb := tb_of (List.mem_append_right _ (List.mem_of_getElem? (i := 368) (by decide +kernel))) (by decide +kernel)
theorem tw_369 : (Jvm.Cond.instanceMethod ({ cls := "BinnedReads$Disk", name := "offsetOf", desc := "(I)I" } : Jvm.MethodName)) ∈ tb := tb_of (List.mem_append_right _ (List.mem_of_getElem? (i := 369) (by decide +kernel))) (by decide +kernel)
theorem tw_370 : (Jvm.Cond.selects "BinnedReads$Disk" ({ cls := "BinnedReads$Disk", name := "offsetOf", desc := "(I)I" } : Jvm.MethodName) ({ cls := "BinnedReads$Disk", name := "offsetOf", desc := "(I)I" } : Jvm.MethodName)) ∈ tb := tb_of (List.mem_append_right _ (List.mem_of_getElem? (i := 370) (by decide +kernel))) (by decide +kernel)
theorem tw_371 : (Jvm.Cond.code ({ cls := "BinnedReads$Disk", name := "offsetOf", desc := "(I)I" } : Jvm.MethodName) prog_2_method_9_code (3 : Nat) (Option.some Jvm.ClassFile.FieldType.int)) ∈ tb := tb_of (List.mem_append_right _ (List.mem_of_getElem? (i := 371) (by decide +kernel))) (by decide +kernel)
theorem tw_372 : (Jvm.Cond.methodLink "BinnedReadsLaw" (59 : Nat) ({ cls := "BinnedReads", name := "looked", desc := "()I" } : Jvm.MethodName)) ∈ tb := tb_of (List.mem_append_right _ (List.mem_of_getElem? (i := 372) (by decide +kernel))) (by decide +kernel)
theorem tw_373 : (Jvm.Cond.instanceMethod ({ cls := "BinnedReads", name := "looked", desc := "()I" } : Jvm.MethodName)) ∈ tb := tb_of (List.mem_append_right _ (List.mem_of_getElem? (i := 373) (by decide +kernel))) (by decide +kernel)
theorem tw_374 : (Jvm.Cond.selects "BinnedReads" ({ cls := "BinnedReads", name := "looked", desc := "()I" } : Jvm.MethodName) ({ cls := "BinnedReads", name := "looked", desc := "()I" } : Jvm.MethodName)) ∈ tb := tb_of (List.mem_append_right _ (List.mem_of_getElem? (i := 374) (by decide +kernel))) (by decide +kernel)
theorem tw_375 : (Jvm.Cond.code ({ cls := "BinnedReads", name := "looked", desc := "()I" } : Jvm.MethodName) prog_1_method_12_code (1 : Nat) (Option.some Jvm.ClassFile.FieldType.int)) ∈ tb := tb_of (List.mem_append_right _ (List.mem_of_getElem? (i := 375) (by decide +kernel))) (by decide +kernel)
theorem tw_376 : (Jvm.Cond.methodLink "BinnedReadsLaw" (63 : Nat) ({ cls := "BinnedReads", name := "found", desc := "(II)I" } : Jvm.MethodName)) ∈ tb := tb_of (List.mem_append_right _ (List.mem_of_getElem? (i := 376) (by decide +kernel))) (by decide +kernel)
theorem tw_377 : (Jvm.Cond.instanceMethod ({ cls := "BinnedReads", name := "found", desc := "(II)I" } : Jvm.MethodName)) ∈ tb := tb_of (List.mem_append_right _ (List.mem_of_getElem? (i := 377) (by decide +kernel))) (by decide +kernel)
theorem tw_378 : (Jvm.Cond.selects "BinnedReads" ({ cls := "BinnedReads", name := "found", desc := "(II)I" } : Jvm.MethodName) ({ cls := "BinnedReads", name := "found", desc := "(II)I" } : Jvm.MethodName)) ∈ tb := tb_of (List.mem_append_right _ (List.mem_of_getElem? (i := 378) (by decide +kernel))) (by decide +kernel)
theorem tw_379 : (Jvm.Cond.code ({ cls := "BinnedReads", name := "found", desc := "(II)I" } : Jvm.MethodName) prog_1_method_13_code (3 : Nat) (Option.some Jvm.ClassFile.FieldType.int)) ∈ tb := tb_of (List.mem_append_right _ (List.mem_of_getElem? (i := 379) (by decide +kernel))) (by decide +kernel)
theorem tw_380 : (Jvm.Cond.methodLink "BinnedReads" (149 : Nat) ({ cls := "BinnedReads$Finding", name := "has", desc := "(I)Z" } : Jvm.MethodName)) ∈ tb := tb_of (List.mem_append_right _ (List.mem_of_getElem? (i := 380) (by decide +kernel))) (by decide +kernel)
theorem tw_381 : (Jvm.Cond.instanceMethod ({ cls := "BinnedReads$Finding", name := "has", desc := "(I)Z" } : Jvm.MethodName)) ∈ tb := tb_of (List.mem_append_right _ (List.mem_of_getElem? (i := 381) (by decide +kernel))) (by decide +kernel)
theorem tw_382 : (Jvm.Cond.selects "BinnedReads$Finding" ({ cls := "BinnedReads$Finding", name := "has", desc := "(I)Z" } : Jvm.MethodName) ({ cls := "BinnedReads$Finding", name := "has", desc := "(I)Z" } : Jvm.MethodName)) ∈ tb := tb_of (List.mem_append_right _ (List.mem_of_getElem? (i := 382) (by decide +kernel))) (by decide +kernel)
theorem tw_383 : (Jvm.Cond.code ({ cls := "BinnedReads$Finding", name := "has", desc := "(I)Z" } : Jvm.MethodName) prog_4_method_3_code (2 : Nat) (Option.some Jvm.ClassFile.FieldType.boolean)) ∈ tb := tb_of (List.mem_append_right _ (List.mem_of_getElem? (i := 383) (by decide +kernel))) (by decide +kernel)
theorem tw_384 : (Jvm.Cond.methodLink "BinnedReads" (155 : Nat) ({ cls := "BinnedReads$Finding", name := "position", desc := "(I)I" } : Jvm.MethodName)) ∈ tb := tb_of (List.mem_append_right _ (List.mem_of_getElem? (i := 384) (by decide +kernel))) (by decide +kernel)
theorem tw_385 : (Jvm.Cond.instanceMethod ({ cls := "BinnedReads$Finding", name := "position", desc := "(I)I" } : Jvm.MethodName)) ∈ tb := tb_of (List.mem_append_right _ (List.mem_of_getElem? (i := 385) (by decide +kernel))) (by decide +kernel)
theorem tw_386 : (Jvm.Cond.selects "BinnedReads$Finding" ({ cls := "BinnedReads$Finding", name := "position", desc := "(I)I" } : Jvm.MethodName) ({ cls := "BinnedReads$Finding", name := "position", desc := "(I)I" } : Jvm.MethodName)) ∈ tb := tb_of (List.mem_append_right _ (List.mem_of_getElem? (i := 386) (by decide +kernel))) (by decide +kernel)
theorem tw_387 : (Jvm.Cond.code ({ cls := "BinnedReads$Finding", name := "position", desc := "(I)I" } : Jvm.MethodName) prog_4_method_5_code (2 : Nat) (Option.some Jvm.ClassFile.FieldType.int)) ∈ tb := tb_of (List.mem_append_right _ (List.mem_of_getElem? (i := 387) (by decide +kernel))) (by decide +kernel)
theorem tw_388 : (Jvm.Cond.methodLink "BinnedReads" (162 : Nat) ({ cls := "BinnedReads$Finding", name := "end", desc := "(I)I" } : Jvm.MethodName)) ∈ tb := tb_of (List.mem_append_right _ (List.mem_of_getElem? (i := 388) (by decide +kernel))) (by decide +kernel)
theorem tw_389 : (Jvm.Cond.instanceMethod ({ cls := "BinnedReads$Finding", name := "end", desc := "(I)I" } : Jvm.MethodName)) ∈ tb := tb_of (List.mem_append_right _ (List.mem_of_getElem? (i := 389) (by decide +kernel))) (by decide +kernel)
theorem tw_390 : (Jvm.Cond.selects "BinnedReads$Finding" ({ cls := "BinnedReads$Finding", name := "end", desc := "(I)I" } : Jvm.MethodName) ({ cls := "BinnedReads$Finding", name := "end", desc := "(I)I" } : Jvm.MethodName)) ∈ tb := tb_of (List.mem_append_right _ (List.mem_of_getElem? (i := 390) (by decide +kernel))) (by decide +kernel)
theorem tw_391 : (Jvm.Cond.code ({ cls := "BinnedReads$Finding", name := "end", desc := "(I)I" } : Jvm.MethodName) prog_4_method_6_code (2 : Nat) (Option.some Jvm.ClassFile.FieldType.int)) ∈ tb := tb_of (List.mem_append_right _ (List.mem_of_getElem? (i := 391) (by decide +kernel))) (by decide +kernel)
theorem tw_392 : (Jvm.Cond.methodLink "BinnedReads$Finding" (42 : Nat) ({ cls := "BinnedReads$Finding", name := "position", desc := "(I)I" } : Jvm.MethodName)) ∈ tb := tb_of (List.mem_append_right _ (List.mem_of_getElem? (i := 392) (by decide +kernel))) (by decide +kernel)
theorem tw_393 : (Jvm.Cond.methodLink "BinnedReads$Finding" (45 : Nat) ({ cls := "BinnedReads$Finding", name := "opCount", desc := "(I)I" } : Jvm.MethodName)) ∈ tb := tb_of (List.mem_append_right _ (List.mem_of_getElem? (i := 393) (by decide +kernel))) (by decide +kernel)
theorem tw_394 : (Jvm.Cond.instanceMethod ({ cls := "BinnedReads$Finding", name := "opCount", desc := "(I)I" } : Jvm.MethodName)) ∈ tb := tb_of (List.mem_append_right _ (List.mem_of_getElem? (i := 394) (by decide +kernel))) (by decide +kernel)
theorem tw_395 : (Jvm.Cond.selects "BinnedReads$Finding" ({ cls := "BinnedReads$Finding", name := "opCount", desc := "(I)I" } : Jvm.MethodName) ({ cls := "BinnedReads$Finding", name := "opCount", desc := "(I)I" } : Jvm.MethodName)) ∈ tb := tb_of (List.mem_append_right _ (List.mem_of_getElem? (i := 395) (by decide +kernel))) (by decide +kernel)
theorem tw_396 : (Jvm.Cond.code ({ cls := "BinnedReads$Finding", name := "opCount", desc := "(I)I" } : Jvm.MethodName) prog_4_method_7_code (2 : Nat) (Option.some Jvm.ClassFile.FieldType.int)) ∈ tb := tb_of (List.mem_append_right _ (List.mem_of_getElem? (i := 396) (by decide +kernel))) (by decide +kernel)
theorem tw_397 : (Jvm.Cond.methodLinkNest "BinnedReads$Finding" (48 : Nat) ({ cls := "BinnedReads", name := "spanOf", desc := "([III)I" } : Jvm.MethodName) "BinnedReads") ∈ lw_tbl := List.mem_append_right _ (List.mem_of_getElem? (i := 397) (by decide +kernel))
theorem tw_398 : (Jvm.Cond.methodLink "BinnedReads" (165 : Nat) ({ cls := "BinnedReads$Finding", name := "opCount", desc := "(I)I" } : Jvm.MethodName)) ∈ tb := tb_of (List.mem_append_right _ (List.mem_of_getElem? (i := 398) (by decide +kernel))) (by decide +kernel)
theorem tw_399 : (Jvm.Cond.methodLink "BinnedReads" (168 : Nat) ({ cls := "BinnedReads$Finding", name := "baseCount", desc := "(I)I" } : Jvm.MethodName)) ∈ tb := tb_of (List.mem_append_right _ (List.mem_of_getElem? (i := 399) (by decide +kernel))) (by decide +kernel)
theorem tw_400 : (Jvm.Cond.instanceMethod ({ cls := "BinnedReads$Finding", name := "baseCount", desc := "(I)I" } : Jvm.MethodName)) ∈ tb := tb_of (List.mem_append_right _ (List.mem_of_getElem? (i := 400) (by decide +kernel))) (by decide +kernel)
theorem tw_401 : (Jvm.Cond.selects "BinnedReads$Finding" ({ cls := "BinnedReads$Finding", name := "baseCount", desc := "(I)I" } : Jvm.MethodName) ({ cls := "BinnedReads$Finding", name := "baseCount", desc := "(I)I" } : Jvm.MethodName)) ∈ tb := tb_of (List.mem_append_right _ (List.mem_of_getElem? (i := 401) (by decide +kernel))) (by decide +kernel)
theorem tw_402 : (Jvm.Cond.code ({ cls := "BinnedReads$Finding", name := "baseCount", desc := "(I)I" } : Jvm.MethodName) prog_4_method_8_code (2 : Nat) (Option.some Jvm.ClassFile.FieldType.int)) ∈ tb := tb_of (List.mem_append_right _ (List.mem_of_getElem? (i := 402) (by decide +kernel))) (by decide +kernel)
theorem tw_403 : (Jvm.Cond.methodLink "BinnedReadsLaw" (67 : Nat) ({ cls := "BinnedReads", name := "foundOp", desc := "(II)I" } : Jvm.MethodName)) ∈ tb := tb_of (List.mem_append_right _ (List.mem_of_getElem? (i := 403) (by decide +kernel))) (by decide +kernel)
theorem tw_404 : (Jvm.Cond.instanceMethod ({ cls := "BinnedReads", name := "foundOp", desc := "(II)I" } : Jvm.MethodName)) ∈ tb := tb_of (List.mem_append_right _ (List.mem_of_getElem? (i := 404) (by decide +kernel))) (by decide +kernel)
theorem tw_405 : (Jvm.Cond.selects "BinnedReads" ({ cls := "BinnedReads", name := "foundOp", desc := "(II)I" } : Jvm.MethodName) ({ cls := "BinnedReads", name := "foundOp", desc := "(II)I" } : Jvm.MethodName)) ∈ tb := tb_of (List.mem_append_right _ (List.mem_of_getElem? (i := 405) (by decide +kernel))) (by decide +kernel)
theorem tw_406 : (Jvm.Cond.code ({ cls := "BinnedReads", name := "foundOp", desc := "(II)I" } : Jvm.MethodName) prog_1_method_14_code (3 : Nat) (Option.some Jvm.ClassFile.FieldType.int)) ∈ tb := tb_of (List.mem_append_right _ (List.mem_of_getElem? (i := 406) (by decide +kernel))) (by decide +kernel)
theorem tw_407 : (Jvm.Cond.methodLink "BinnedReadsLaw" (71 : Nat) ({ cls := "BinnedReads", name := "foundBase", desc := "(II)I" } : Jvm.MethodName)) ∈ tb := tb_of (List.mem_append_right _ (List.mem_of_getElem? (i := 407) (by decide +kernel))) (by decide +kernel)
theorem tw_408 : (Jvm.Cond.instanceMethod ({ cls := "BinnedReads", name := "foundBase", desc := "(II)I" } : Jvm.MethodName)) ∈ tb := tb_of (List.mem_append_right _ (List.mem_of_getElem? (i := 408) (by decide +kernel))) (by decide +kernel)
theorem tw_409 : (Jvm.Cond.selects "BinnedReads" ({ cls := "BinnedReads", name := "foundBase", desc := "(II)I" } : Jvm.MethodName) ({ cls := "BinnedReads", name := "foundBase", desc := "(II)I" } : Jvm.MethodName)) ∈ tb := tb_of (List.mem_append_right _ (List.mem_of_getElem? (i := 409) (by decide +kernel))) (by decide +kernel)
theorem tw_410 : (Jvm.Cond.code ({ cls := "BinnedReads", name := "foundBase", desc := "(II)I" } : Jvm.MethodName) prog_1_method_15_code (4 : Nat) (Option.some Jvm.ClassFile.FieldType.int)) ∈ tb := tb_of (List.mem_append_right _ (List.mem_of_getElem? (i := 410) (by decide +kernel))) (by decide +kernel)
theorem tw_411 : (Jvm.Cond.classLink "BinnedReadsLaw" (10 : Nat) "BinnedReadsModel") ∈ tb := tb_of (List.mem_append_right _ (List.mem_of_getElem? (i := 411) (by decide +kernel))) (by decide +kernel)
theorem tw_412 : (Jvm.Cond.instantiable "BinnedReadsModel" (23 : Nat)) ∈ tb := tb_of (List.mem_append_right _ (List.mem_of_getElem? (i := 412) (by decide +kernel))) (by decide +kernel)
theorem tw_413 : (Jvm.Cond.methodLink "BinnedReadsLaw" (12 : Nat) ({ cls := "BinnedReadsModel", name := "<init>", desc := "()V" } : Jvm.MethodName)) ∈ tb := tb_of (List.mem_append_right _ (List.mem_of_getElem? (i := 413) (by decide +kernel))) (by decide +kernel)
theorem tw_414 : (Jvm.Cond.instanceMethod ({ cls := "BinnedReadsModel", name := "<init>", desc := "()V" } : Jvm.MethodName)) ∈ tb := tb_of (List.mem_append_right _ (List.mem_of_getElem? (i := 414) (by decide +kernel))) (by decide +kernel)
theorem tw_415 : (Jvm.Cond.code ({ cls := "BinnedReadsModel", name := "<init>", desc := "()V" } : Jvm.MethodName) prog_8_method_1_code (1 : Nat) (Option.none : Option Jvm.ClassFile.FieldType)) ∈ tb := tb_of (List.mem_append_right _ (List.mem_of_getElem? (i := 415) (by decide +kernel))) (by decide +kernel)
theorem tw_416 : (Jvm.Cond.methodLink "BinnedReadsModel" (1 : Nat) ({ cls := "java/lang/Object", name := "<init>", desc := "()V" } : Jvm.MethodName)) ∈ tb := tb_of (List.mem_append_right _ (List.mem_of_getElem? (i := 416) (by decide +kernel))) (by decide +kernel)
theorem tw_417 : (Jvm.Cond.fieldLink "BinnedReadsModel" (60 : Nat) "BinnedReadsModel" "ops" "I") ∈ tb := tb_of (List.mem_append_right _ (List.mem_of_getElem? (i := 417) (by decide +kernel))) (by decide +kernel)
theorem tw_418 : (Jvm.Cond.fieldLink "BinnedReadsModel" (7 : Nat) "BinnedReadsModel" "kinds" "[I") ∈ tb := tb_of (List.mem_append_right _ (List.mem_of_getElem? (i := 418) (by decide +kernel))) (by decide +kernel)
theorem tw_419 : (Jvm.Cond.fieldLink "BinnedReadsModel" (13 : Nat) "BinnedReadsModel" "lengths" "[I") ∈ tb := tb_of (List.mem_append_right _ (List.mem_of_getElem? (i := 419) (by decide +kernel))) (by decide +kernel)
theorem tw_420 : (Jvm.Cond.fieldLink "BinnedReadsModel" (63 : Nat) "BinnedReadsModel" "bases" "I") ∈ tb := tb_of (List.mem_append_right _ (List.mem_of_getElem? (i := 420) (by decide +kernel))) (by decide +kernel)
theorem tw_421 : (Jvm.Cond.fieldLink "BinnedReadsModel" (16 : Nat) "BinnedReadsModel" "codes" "[I") ∈ tb := tb_of (List.mem_append_right _ (List.mem_of_getElem? (i := 421) (by decide +kernel))) (by decide +kernel)
theorem tw_422 : (Jvm.Cond.fieldLink "BinnedReadsModel" (70 : Nat) "BinnedReadsModel" "reads" "I") ∈ tb := tb_of (List.mem_append_right _ (List.mem_of_getElem? (i := 422) (by decide +kernel))) (by decide +kernel)
theorem tw_423 : (Jvm.Cond.fieldLink "BinnedReadsModel" (19 : Nat) "BinnedReadsModel" "reference" "[I") ∈ tb := tb_of (List.mem_append_right _ (List.mem_of_getElem? (i := 423) (by decide +kernel))) (by decide +kernel)
theorem tw_424 : (Jvm.Cond.fieldLink "BinnedReadsModel" (22 : Nat) "BinnedReadsModel" "position" "[I") ∈ tb := tb_of (List.mem_append_right _ (List.mem_of_getElem? (i := 424) (by decide +kernel))) (by decide +kernel)
theorem tw_425 : (Jvm.Cond.fieldLink "BinnedReadsModel" (25 : Nat) "BinnedReadsModel" "ends" "[I") ∈ tb := tb_of (List.mem_append_right _ (List.mem_of_getElem? (i := 425) (by decide +kernel))) (by decide +kernel)
theorem tw_426 : (Jvm.Cond.fieldLink "BinnedReadsModel" (28 : Nat) "BinnedReadsModel" "opCount" "[I") ∈ tb := tb_of (List.mem_append_right _ (List.mem_of_getElem? (i := 426) (by decide +kernel))) (by decide +kernel)
theorem tw_427 : (Jvm.Cond.fieldLink "BinnedReadsModel" (31 : Nat) "BinnedReadsModel" "opBytes" "[I") ∈ tb := tb_of (List.mem_append_right _ (List.mem_of_getElem? (i := 427) (by decide +kernel))) (by decide +kernel)
theorem tw_428 : (Jvm.Cond.fieldLink "BinnedReadsModel" (34 : Nat) "BinnedReadsModel" "baseCount" "[I") ∈ tb := tb_of (List.mem_append_right _ (List.mem_of_getElem? (i := 428) (by decide +kernel))) (by decide +kernel)
theorem tw_429 : (Jvm.Cond.fieldLink "BinnedReadsModel" (37 : Nat) "BinnedReadsModel" "baseCodes" "[I") ∈ tb := tb_of (List.mem_append_right _ (List.mem_of_getElem? (i := 429) (by decide +kernel))) (by decide +kernel)
theorem tw_430 : (Jvm.Cond.fieldLink "BinnedReadsModel" (40 : Nat) "BinnedReadsModel" "begins" "[I") ∈ tb := tb_of (List.mem_append_right _ (List.mem_of_getElem? (i := 430) (by decide +kernel))) (by decide +kernel)
theorem tw_431 : (Jvm.Cond.fieldLink "BinnedReadsModel" (66 : Nat) "BinnedReadsModel" "written" "Z") ∈ tb := tb_of (List.mem_append_right _ (List.mem_of_getElem? (i := 431) (by decide +kernel))) (by decide +kernel)
theorem tw_432 : (Jvm.Cond.fieldLink "BinnedReadsModel" (43 : Nat) "BinnedReadsModel" "stream" "[I") ∈ tb := tb_of (List.mem_append_right _ (List.mem_of_getElem? (i := 432) (by decide +kernel))) (by decide +kernel)
theorem tw_433 : (Jvm.Cond.fieldLink "BinnedReadsModel" (80 : Nat) "BinnedReadsModel" "streamed" "I") ∈ tb := tb_of (List.mem_append_right _ (List.mem_of_getElem? (i := 433) (by decide +kernel))) (by decide +kernel)
theorem tw_434 : (Jvm.Cond.fieldLink "BinnedReadsModel" (46 : Nat) "BinnedReadsModel" "disk" "[I") ∈ tb := tb_of (List.mem_append_right _ (List.mem_of_getElem? (i := 434) (by decide +kernel))) (by decide +kernel)
theorem tw_435 : (Jvm.Cond.fieldLink "BinnedReadsModel" (91 : Nat) "BinnedReadsModel" "size" "I") ∈ tb := tb_of (List.mem_append_right _ (List.mem_of_getElem? (i := 435) (by decide +kernel))) (by decide +kernel)
theorem tw_436 : (Jvm.Cond.fieldLink "BinnedReadsModel" (49 : Nat) "BinnedReadsModel" "turned" "I") ∈ tb := tb_of (List.mem_append_right _ (List.mem_of_getElem? (i := 436) (by decide +kernel))) (by decide +kernel)
theorem tw_437 : (Jvm.Cond.fieldLink "BinnedReadsModel" (105 : Nat) "BinnedReadsModel" "finding" "I") ∈ tb := tb_of (List.mem_append_right _ (List.mem_of_getElem? (i := 437) (by decide +kernel))) (by decide +kernel)
theorem tw_438 : (Jvm.Cond.fieldLink "BinnedReadsModel" (108 : Nat) "BinnedReadsModel" "looks" "I") ∈ tb := tb_of (List.mem_append_right _ (List.mem_of_getElem? (i := 438) (by decide +kernel))) (by decide +kernel)
theorem tw_439 : (Jvm.Cond.fieldLink "BinnedReadsModel" (53 : Nat) "BinnedReadsModel" "finds" "[I") ∈ tb := tb_of (List.mem_append_right _ (List.mem_of_getElem? (i := 439) (by decide +kernel))) (by decide +kernel)
theorem tw_487 : (Jvm.Cond.methodLink "BinnedReadsLaw" (17 : Nat) ({ cls := "BinnedReadsModel", name := "op", desc := "(II)Z" } : Jvm.MethodName)) ∈ tb := tb_of (List.mem_append_right _ (List.mem_of_getElem? (i := 487) (by decide +kernel))) (by decide +kernel)
theorem tw_488 : (Jvm.Cond.instanceMethod ({ cls := "BinnedReadsModel", name := "op", desc := "(II)Z" } : Jvm.MethodName)) ∈ tb := tb_of (List.mem_append_right _ (List.mem_of_getElem? (i := 488) (by decide +kernel))) (by decide +kernel)
theorem tw_489 : (Jvm.Cond.selects "BinnedReadsModel" ({ cls := "BinnedReadsModel", name := "op", desc := "(II)Z" } : Jvm.MethodName) ({ cls := "BinnedReadsModel", name := "op", desc := "(II)Z" } : Jvm.MethodName)) ∈ tb := tb_of (List.mem_append_right _ (List.mem_of_getElem? (i := 489) (by decide +kernel))) (by decide +kernel)
theorem tw_490 : (Jvm.Cond.code ({ cls := "BinnedReadsModel", name := "op", desc := "(II)Z" } : Jvm.MethodName) prog_8_method_3_code (3 : Nat) (Option.some Jvm.ClassFile.FieldType.boolean)) ∈ tb := tb_of (List.mem_append_right _ (List.mem_of_getElem? (i := 490) (by decide +kernel))) (by decide +kernel)
theorem tw_491 : (Jvm.Cond.methodLink "BinnedReadsModel" (56 : Nat) ({ cls := "BinnedReadsModel", name := "within", desc := "(III)Z" } : Jvm.MethodName)) ∈ tb := tb_of (List.mem_append_right _ (List.mem_of_getElem? (i := 491) (by decide +kernel))) (by decide +kernel)
theorem tw_492 : (Jvm.Cond.static ({ cls := "BinnedReadsModel", name := "within", desc := "(III)Z" } : Jvm.MethodName)) ∈ tb := tb_of (List.mem_append_right _ (List.mem_of_getElem? (i := 492) (by decide +kernel))) (by decide +kernel)
theorem tw_493 : (Jvm.Cond.code ({ cls := "BinnedReadsModel", name := "within", desc := "(III)Z" } : Jvm.MethodName) prog_8_method_2_code (3 : Nat) (Option.some Jvm.ClassFile.FieldType.boolean)) ∈ tb := tb_of (List.mem_append_right _ (List.mem_of_getElem? (i := 493) (by decide +kernel))) (by decide +kernel)
theorem tw_494 : (Jvm.Cond.methodLink "BinnedReadsLaw" (22 : Nat) ({ cls := "BinnedReadsModel", name := "base", desc := "(I)Z" } : Jvm.MethodName)) ∈ tb := tb_of (List.mem_append_right _ (List.mem_of_getElem? (i := 494) (by decide +kernel))) (by decide +kernel)
theorem tw_495 : (Jvm.Cond.instanceMethod ({ cls := "BinnedReadsModel", name := "base", desc := "(I)Z" } : Jvm.MethodName)) ∈ tb := tb_of (List.mem_append_right _ (List.mem_of_getElem? (i := 495) (by decide +kernel))) (by decide +kernel)
theorem tw_496 : (Jvm.Cond.selects "BinnedReadsModel" ({ cls := "BinnedReadsModel", name := "base", desc := "(I)Z" } : Jvm.MethodName) ({ cls := "BinnedReadsModel", name := "base", desc := "(I)Z" } : Jvm.MethodName)) ∈ tb := tb_of (List.mem_append_right _ (List.mem_of_getElem? (i := 496) (by decide +kernel))) (by decide +kernel)
theorem tw_497 : (Jvm.Cond.code ({ cls := "BinnedReadsModel", name := "base", desc := "(I)Z" } : Jvm.MethodName) prog_8_method_4_code (2 : Nat) (Option.some Jvm.ClassFile.FieldType.boolean)) ∈ tb := tb_of (List.mem_append_right _ (List.mem_of_getElem? (i := 497) (by decide +kernel))) (by decide +kernel)
theorem tw_498 : (Jvm.Cond.methodLink "BinnedReadsLaw" (26 : Nat) ({ cls := "BinnedReadsModel", name := "scrap", desc := "()V" } : Jvm.MethodName)) ∈ tb := tb_of (List.mem_append_right _ (List.mem_of_getElem? (i := 498) (by decide +kernel))) (by decide +kernel)
theorem tw_499 : (Jvm.Cond.instanceMethod ({ cls := "BinnedReadsModel", name := "scrap", desc := "()V" } : Jvm.MethodName)) ∈ tb := tb_of (List.mem_append_right _ (List.mem_of_getElem? (i := 499) (by decide +kernel))) (by decide +kernel)
theorem tw_500 : (Jvm.Cond.selects "BinnedReadsModel" ({ cls := "BinnedReadsModel", name := "scrap", desc := "()V" } : Jvm.MethodName) ({ cls := "BinnedReadsModel", name := "scrap", desc := "()V" } : Jvm.MethodName)) ∈ tb := tb_of (List.mem_append_right _ (List.mem_of_getElem? (i := 500) (by decide +kernel))) (by decide +kernel)
theorem tw_501 : (Jvm.Cond.code ({ cls := "BinnedReadsModel", name := "scrap", desc := "()V" } : Jvm.MethodName) prog_8_method_5_code (1 : Nat) (Option.none : Option Jvm.ClassFile.FieldType)) ∈ tb := tb_of (List.mem_append_right _ (List.mem_of_getElem? (i := 501) (by decide +kernel))) (by decide +kernel)
theorem tw_502 : (Jvm.Cond.methodLink "BinnedReadsLaw" (31 : Nat) ({ cls := "BinnedReadsModel", name := "add", desc := "(II)I" } : Jvm.MethodName)) ∈ tb := tb_of (List.mem_append_right _ (List.mem_of_getElem? (i := 502) (by decide +kernel))) (by decide +kernel)
theorem tw_503 : (Jvm.Cond.instanceMethod ({ cls := "BinnedReadsModel", name := "add", desc := "(II)I" } : Jvm.MethodName)) ∈ tb := tb_of (List.mem_append_right _ (List.mem_of_getElem? (i := 503) (by decide +kernel))) (by decide +kernel)
theorem tw_504 : (Jvm.Cond.selects "BinnedReadsModel" ({ cls := "BinnedReadsModel", name := "add", desc := "(II)I" } : Jvm.MethodName) ({ cls := "BinnedReadsModel", name := "add", desc := "(II)I" } : Jvm.MethodName)) ∈ tb := tb_of (List.mem_append_right _ (List.mem_of_getElem? (i := 504) (by decide +kernel))) (by decide +kernel)
theorem tw_505 : (Jvm.Cond.code ({ cls := "BinnedReadsModel", name := "add", desc := "(II)I" } : Jvm.MethodName) prog_8_method_7_code (6 : Nat) (Option.some Jvm.ClassFile.FieldType.int)) ∈ tb := tb_of (List.mem_append_right _ (List.mem_of_getElem? (i := 505) (by decide +kernel))) (by decide +kernel)
theorem tw_506 : (Jvm.Cond.methodLink "BinnedReadsModel" (73 : Nat) ({ cls := "BinnedReadsModel", name := "sum", desc := "(III)I" } : Jvm.MethodName)) ∈ tb := tb_of (List.mem_append_right _ (List.mem_of_getElem? (i := 506) (by decide +kernel))) (by decide +kernel)
theorem tw_508 : (Jvm.Cond.instanceMethod ({ cls := "BinnedReadsModel", name := "sum", desc := "(III)I" } : Jvm.MethodName)) ∈ tb := tb_of (List.mem_append_right _ (List.mem_of_getElem? (i := 508) (by decide +kernel))) (by decide +kernel)
theorem tw_509 : (Jvm.Cond.code ({ cls := "BinnedReadsModel", name := "sum", desc := "(III)I" } : Jvm.MethodName) prog_8_method_6_code (6 : Nat) (Option.some Jvm.ClassFile.FieldType.int)) ∈ tb := tb_of (List.mem_append_right _ (List.mem_of_getElem? (i := 509) (by decide +kernel))) (by decide +kernel)
theorem tw_510 : (Jvm.Cond.methodLink "BinnedReadsModel" (77 : Nat) ({ cls := "BinnedReadsModel", name := "scrap", desc := "()V" } : Jvm.MethodName)) ∈ tb := tb_of (List.mem_append_right _ (List.mem_of_getElem? (i := 510) (by decide +kernel))) (by decide +kernel)
theorem tw_511 : (Jvm.Cond.methodLink "BinnedReadsLaw" (36 : Nat) ({ cls := "BinnedReadsModel", name := "finish", desc := "()I" } : Jvm.MethodName)) ∈ tb := tb_of (List.mem_append_right _ (List.mem_of_getElem? (i := 511) (by decide +kernel))) (by decide +kernel)
theorem tw_512 : (Jvm.Cond.instanceMethod ({ cls := "BinnedReadsModel", name := "finish", desc := "()I" } : Jvm.MethodName)) ∈ tb := tb_of (List.mem_append_right _ (List.mem_of_getElem? (i := 512) (by decide +kernel))) (by decide +kernel)
theorem tw_513 : (Jvm.Cond.selects "BinnedReadsModel" ({ cls := "BinnedReadsModel", name := "finish", desc := "()I" } : Jvm.MethodName) ({ cls := "BinnedReadsModel", name := "finish", desc := "()I" } : Jvm.MethodName)) ∈ tb := tb_of (List.mem_append_right _ (List.mem_of_getElem? (i := 513) (by decide +kernel))) (by decide +kernel)
theorem tw_514 : (Jvm.Cond.code ({ cls := "BinnedReadsModel", name := "finish", desc := "()I" } : Jvm.MethodName) prog_8_method_13_code (2 : Nat) (Option.some Jvm.ClassFile.FieldType.int)) ∈ tb := tb_of (List.mem_append_right _ (List.mem_of_getElem? (i := 514) (by decide +kernel))) (by decide +kernel)
theorem tw_515 : (Jvm.Cond.methodLink "BinnedReadsModel" (98 : Nat) ({ cls := "BinnedReadsModel", name := "putRead", desc := "(I)V" } : Jvm.MethodName)) ∈ tb := tb_of (List.mem_append_right _ (List.mem_of_getElem? (i := 515) (by decide +kernel))) (by decide +kernel)
theorem tw_517 : (Jvm.Cond.instanceMethod ({ cls := "BinnedReadsModel", name := "putRead", desc := "(I)V" } : Jvm.MethodName)) ∈ tb := tb_of (List.mem_append_right _ (List.mem_of_getElem? (i := 517) (by decide +kernel))) (by decide +kernel)
theorem tw_518 : (Jvm.Cond.code ({ cls := "BinnedReadsModel", name := "putRead", desc := "(I)V" } : Jvm.MethodName) prog_8_method_10_code (5 : Nat) (Option.none : Option Jvm.ClassFile.FieldType)) ∈ tb := tb_of (List.mem_append_right _ (List.mem_of_getElem? (i := 518) (by decide +kernel))) (by decide +kernel)
theorem tw_519 : (Jvm.Cond.methodLink "BinnedReadsModel" (83 : Nat) ({ cls := "BinnedReadsModel", name := "put", desc := "(I)V" } : Jvm.MethodName)) ∈ tb := tb_of (List.mem_append_right _ (List.mem_of_getElem? (i := 519) (by decide +kernel))) (by decide +kernel)
theorem tw_521 : (Jvm.Cond.instanceMethod ({ cls := "BinnedReadsModel", name := "put", desc := "(I)V" } : Jvm.MethodName)) ∈ tb := tb_of (List.mem_append_right _ (List.mem_of_getElem? (i := 521) (by decide +kernel))) (by decide +kernel)
theorem tw_522 : (Jvm.Cond.code ({ cls := "BinnedReadsModel", name := "put", desc := "(I)V" } : Jvm.MethodName) prog_8_method_9_code (2 : Nat) (Option.none : Option Jvm.ClassFile.FieldType)) ∈ tb := tb_of (List.mem_append_right _ (List.mem_of_getElem? (i := 522) (by decide +kernel))) (by decide +kernel)
theorem tw_523 : (Jvm.Cond.methodLink "BinnedReadsModel" (87 : Nat) ({ cls := "BinnedReadsModel", name := "binOf", desc := "(I)I" } : Jvm.MethodName)) ∈ tb := tb_of (List.mem_append_right _ (List.mem_of_getElem? (i := 523) (by decide +kernel))) (by decide +kernel)
theorem tw_525 : (Jvm.Cond.instanceMethod ({ cls := "BinnedReadsModel", name := "binOf", desc := "(I)I" } : Jvm.MethodName)) ∈ tb := tb_of (List.mem_append_right _ (List.mem_of_getElem? (i := 525) (by decide +kernel))) (by decide +kernel)
theorem tw_526 : (Jvm.Cond.code ({ cls := "BinnedReadsModel", name := "binOf", desc := "(I)I" } : Jvm.MethodName) prog_8_method_8_code (4 : Nat) (Option.some Jvm.ClassFile.FieldType.int)) ∈ tb := tb_of (List.mem_append_right _ (List.mem_of_getElem? (i := 526) (by decide +kernel))) (by decide +kernel)
theorem tw_527 : (Jvm.Cond.methodLink "BinnedReadsModel" (101 : Nat) ({ cls := "BinnedReadsModel", name := "storeBlock", desc := "(II)V" } : Jvm.MethodName)) ∈ tb := tb_of (List.mem_append_right _ (List.mem_of_getElem? (i := 527) (by decide +kernel))) (by decide +kernel)
theorem tw_529 : (Jvm.Cond.instanceMethod ({ cls := "BinnedReadsModel", name := "storeBlock", desc := "(II)V" } : Jvm.MethodName)) ∈ tb := tb_of (List.mem_append_right _ (List.mem_of_getElem? (i := 529) (by decide +kernel))) (by decide +kernel)
theorem tw_530 : (Jvm.Cond.code ({ cls := "BinnedReadsModel", name := "storeBlock", desc := "(II)V" } : Jvm.MethodName) prog_8_method_12_code (7 : Nat) (Option.none : Option Jvm.ClassFile.FieldType)) ∈ tb := tb_of (List.mem_append_right _ (List.mem_of_getElem? (i := 530) (by decide +kernel))) (by decide +kernel)
theorem tw_531 : (Jvm.Cond.methodLink "BinnedReadsModel" (94 : Nat) ({ cls := "BinnedReadsModel", name := "store", desc := "(I)V" } : Jvm.MethodName)) ∈ tb := tb_of (List.mem_append_right _ (List.mem_of_getElem? (i := 531) (by decide +kernel))) (by decide +kernel)
theorem tw_533 : (Jvm.Cond.instanceMethod ({ cls := "BinnedReadsModel", name := "store", desc := "(I)V" } : Jvm.MethodName)) ∈ tb := tb_of (List.mem_append_right _ (List.mem_of_getElem? (i := 533) (by decide +kernel))) (by decide +kernel)
theorem tw_534 : (Jvm.Cond.code ({ cls := "BinnedReadsModel", name := "store", desc := "(I)V" } : Jvm.MethodName) prog_8_method_11_code (2 : Nat) (Option.none : Option Jvm.ClassFile.FieldType)) ∈ tb := tb_of (List.mem_append_right _ (List.mem_of_getElem? (i := 534) (by decide +kernel))) (by decide +kernel)
theorem tw_535 : (Jvm.Cond.constant "BinnedReadsModel" (97 : Nat) (-306674912 : Int32)) ∈ tb := tb_of (List.mem_append_right _ (List.mem_of_getElem? (i := 535) (by decide +kernel))) (by decide +kernel)
theorem tw_536 : (Jvm.Cond.methodLink "BinnedReadsLaw" (40 : Nat) ({ cls := "BinnedReadsModel", name := "clear", desc := "()V" } : Jvm.MethodName)) ∈ tb := tb_of (List.mem_append_right _ (List.mem_of_getElem? (i := 536) (by decide +kernel))) (by decide +kernel)
theorem tw_537 : (Jvm.Cond.instanceMethod ({ cls := "BinnedReadsModel", name := "clear", desc := "()V" } : Jvm.MethodName)) ∈ tb := tb_of (List.mem_append_right _ (List.mem_of_getElem? (i := 537) (by decide +kernel))) (by decide +kernel)
theorem tw_538 : (Jvm.Cond.selects "BinnedReadsModel" ({ cls := "BinnedReadsModel", name := "clear", desc := "()V" } : Jvm.MethodName) ({ cls := "BinnedReadsModel", name := "clear", desc := "()V" } : Jvm.MethodName)) ∈ tb := tb_of (List.mem_append_right _ (List.mem_of_getElem? (i := 538) (by decide +kernel))) (by decide +kernel)
theorem tw_539 : (Jvm.Cond.code ({ cls := "BinnedReadsModel", name := "clear", desc := "()V" } : Jvm.MethodName) prog_8_method_14_code (1 : Nat) (Option.none : Option Jvm.ClassFile.FieldType)) ∈ tb := tb_of (List.mem_append_right _ (List.mem_of_getElem? (i := 539) (by decide +kernel))) (by decide +kernel)
theorem tw_540 : (Jvm.Cond.methodLink "BinnedReadsLaw" (44 : Nat) ({ cls := "BinnedReadsModel", name := "turn", desc := "(II)Z" } : Jvm.MethodName)) ∈ tb := tb_of (List.mem_append_right _ (List.mem_of_getElem? (i := 540) (by decide +kernel))) (by decide +kernel)
theorem tw_541 : (Jvm.Cond.instanceMethod ({ cls := "BinnedReadsModel", name := "turn", desc := "(II)Z" } : Jvm.MethodName)) ∈ tb := tb_of (List.mem_append_right _ (List.mem_of_getElem? (i := 541) (by decide +kernel))) (by decide +kernel)
theorem tw_542 : (Jvm.Cond.selects "BinnedReadsModel" ({ cls := "BinnedReadsModel", name := "turn", desc := "(II)Z" } : Jvm.MethodName) ({ cls := "BinnedReadsModel", name := "turn", desc := "(II)Z" } : Jvm.MethodName)) ∈ tb := tb_of (List.mem_append_right _ (List.mem_of_getElem? (i := 542) (by decide +kernel))) (by decide +kernel)
theorem tw_543 : (Jvm.Cond.code ({ cls := "BinnedReadsModel", name := "turn", desc := "(II)Z" } : Jvm.MethodName) prog_8_method_15_code (3 : Nat) (Option.some Jvm.ClassFile.FieldType.boolean)) ∈ tb := tb_of (List.mem_append_right _ (List.mem_of_getElem? (i := 543) (by decide +kernel))) (by decide +kernel)
theorem tw_544 : (Jvm.Cond.methodLink "BinnedReadsLaw" (49 : Nat) ({ cls := "BinnedReadsModel", name := "byteAt", desc := "(I)I" } : Jvm.MethodName)) ∈ tb := tb_of (List.mem_append_right _ (List.mem_of_getElem? (i := 544) (by decide +kernel))) (by decide +kernel)
theorem tw_545 : (Jvm.Cond.instanceMethod ({ cls := "BinnedReadsModel", name := "byteAt", desc := "(I)I" } : Jvm.MethodName)) ∈ tb := tb_of (List.mem_append_right _ (List.mem_of_getElem? (i := 545) (by decide +kernel))) (by decide +kernel)
theorem tw_546 : (Jvm.Cond.selects "BinnedReadsModel" ({ cls := "BinnedReadsModel", name := "byteAt", desc := "(I)I" } : Jvm.MethodName) ({ cls := "BinnedReadsModel", name := "byteAt", desc := "(I)I" } : Jvm.MethodName)) ∈ tb := tb_of (List.mem_append_right _ (List.mem_of_getElem? (i := 546) (by decide +kernel))) (by decide +kernel)
theorem tw_547 : (Jvm.Cond.code ({ cls := "BinnedReadsModel", name := "byteAt", desc := "(I)I" } : Jvm.MethodName) prog_8_method_16_code (2 : Nat) (Option.some Jvm.ClassFile.FieldType.int)) ∈ tb := tb_of (List.mem_append_right _ (List.mem_of_getElem? (i := 547) (by decide +kernel))) (by decide +kernel)
theorem tw_548 : (Jvm.Cond.methodLink "BinnedReadsLaw" (53 : Nat) ({ cls := "BinnedReadsModel", name := "check", desc := "()I" } : Jvm.MethodName)) ∈ tb := tb_of (List.mem_append_right _ (List.mem_of_getElem? (i := 548) (by decide +kernel))) (by decide +kernel)
theorem tw_549 : (Jvm.Cond.instanceMethod ({ cls := "BinnedReadsModel", name := "check", desc := "()I" } : Jvm.MethodName)) ∈ tb := tb_of (List.mem_append_right _ (List.mem_of_getElem? (i := 549) (by decide +kernel))) (by decide +kernel)
theorem tw_550 : (Jvm.Cond.selects "BinnedReadsModel" ({ cls := "BinnedReadsModel", name := "check", desc := "()I" } : Jvm.MethodName) ({ cls := "BinnedReadsModel", name := "check", desc := "()I" } : Jvm.MethodName)) ∈ tb := tb_of (List.mem_append_right _ (List.mem_of_getElem? (i := 550) (by decide +kernel))) (by decide +kernel)
theorem tw_551 : (Jvm.Cond.code ({ cls := "BinnedReadsModel", name := "check", desc := "()I" } : Jvm.MethodName) prog_8_method_17_code (1 : Nat) (Option.some Jvm.ClassFile.FieldType.int)) ∈ tb := tb_of (List.mem_append_right _ (List.mem_of_getElem? (i := 551) (by decide +kernel))) (by decide +kernel)
theorem tw_552 : (Jvm.Cond.methodLink "BinnedReadsLaw" (58 : Nat) ({ cls := "BinnedReadsModel", name := "query", desc := "(III)I" } : Jvm.MethodName)) ∈ tb := tb_of (List.mem_append_right _ (List.mem_of_getElem? (i := 552) (by decide +kernel))) (by decide +kernel)
theorem tw_553 : (Jvm.Cond.instanceMethod ({ cls := "BinnedReadsModel", name := "query", desc := "(III)I" } : Jvm.MethodName)) ∈ tb := tb_of (List.mem_append_right _ (List.mem_of_getElem? (i := 553) (by decide +kernel))) (by decide +kernel)
theorem tw_554 : (Jvm.Cond.selects "BinnedReadsModel" ({ cls := "BinnedReadsModel", name := "query", desc := "(III)I" } : Jvm.MethodName) ({ cls := "BinnedReadsModel", name := "query", desc := "(III)I" } : Jvm.MethodName)) ∈ tb := tb_of (List.mem_append_right _ (List.mem_of_getElem? (i := 554) (by decide +kernel))) (by decide +kernel)
theorem tw_555 : (Jvm.Cond.code ({ cls := "BinnedReadsModel", name := "query", desc := "(III)I" } : Jvm.MethodName) prog_8_method_21_code (8 : Nat) (Option.some Jvm.ClassFile.FieldType.int)) ∈ tb := tb_of (List.mem_append_right _ (List.mem_of_getElem? (i := 555) (by decide +kernel))) (by decide +kernel)
theorem tw_556 : (Jvm.Cond.methodLink "BinnedReadsModel" (111 : Nat) ({ cls := "BinnedReadsModel", name := "firstBehind", desc := "(II)I" } : Jvm.MethodName)) ∈ tb := tb_of (List.mem_append_right _ (List.mem_of_getElem? (i := 556) (by decide +kernel))) (by decide +kernel)
theorem tw_558 : (Jvm.Cond.instanceMethod ({ cls := "BinnedReadsModel", name := "firstBehind", desc := "(II)I" } : Jvm.MethodName)) ∈ tb := tb_of (List.mem_append_right _ (List.mem_of_getElem? (i := 558) (by decide +kernel))) (by decide +kernel)
theorem tw_559 : (Jvm.Cond.code ({ cls := "BinnedReadsModel", name := "firstBehind", desc := "(II)I" } : Jvm.MethodName) prog_8_method_20_code (4 : Nat) (Option.some Jvm.ClassFile.FieldType.int)) ∈ tb := tb_of (List.mem_append_right _ (List.mem_of_getElem? (i := 559) (by decide +kernel))) (by decide +kernel)
theorem tw_560 : (Jvm.Cond.methodLink "BinnedReadsModel" (115 : Nat) ({ cls := "BinnedReadsModel", name := "touches", desc := "(III)Z" } : Jvm.MethodName)) ∈ tb := tb_of (List.mem_append_right _ (List.mem_of_getElem? (i := 560) (by decide +kernel))) (by decide +kernel)
theorem tw_561 : (Jvm.Cond.static ({ cls := "BinnedReadsModel", name := "touches", desc := "(III)Z" } : Jvm.MethodName)) ∈ tb := tb_of (List.mem_append_right _ (List.mem_of_getElem? (i := 561) (by decide +kernel))) (by decide +kernel)
theorem tw_562 : (Jvm.Cond.code ({ cls := "BinnedReadsModel", name := "touches", desc := "(III)Z" } : Jvm.MethodName) prog_8_method_18_code (5 : Nat) (Option.some Jvm.ClassFile.FieldType.boolean)) ∈ tb := tb_of (List.mem_append_right _ (List.mem_of_getElem? (i := 562) (by decide +kernel))) (by decide +kernel)
theorem tw_563 : (Jvm.Cond.methodLink "BinnedReadsModel" (118 : Nat) ({ cls := "BinnedReadsModel", name := "hurt", desc := "(I)Z" } : Jvm.MethodName)) ∈ tb := tb_of (List.mem_append_right _ (List.mem_of_getElem? (i := 563) (by decide +kernel))) (by decide +kernel)
theorem tw_565 : (Jvm.Cond.instanceMethod ({ cls := "BinnedReadsModel", name := "hurt", desc := "(I)Z" } : Jvm.MethodName)) ∈ tb := tb_of (List.mem_append_right _ (List.mem_of_getElem? (i := 565) (by decide +kernel))) (by decide +kernel)
theorem tw_566 : (Jvm.Cond.code ({ cls := "BinnedReadsModel", name := "hurt", desc := "(I)Z" } : Jvm.MethodName) prog_8_method_19_code (3 : Nat) (Option.some Jvm.ClassFile.FieldType.boolean)) ∈ tb := tb_of (List.mem_append_right _ (List.mem_of_getElem? (i := 566) (by decide +kernel))) (by decide +kernel)
theorem tw_567 : (Jvm.Cond.methodLink "BinnedReadsLaw" (62 : Nat) ({ cls := "BinnedReadsModel", name := "looked", desc := "()I" } : Jvm.MethodName)) ∈ tb := tb_of (List.mem_append_right _ (List.mem_of_getElem? (i := 567) (by decide +kernel))) (by decide +kernel)
theorem tw_568 : (Jvm.Cond.instanceMethod ({ cls := "BinnedReadsModel", name := "looked", desc := "()I" } : Jvm.MethodName)) ∈ tb := tb_of (List.mem_append_right _ (List.mem_of_getElem? (i := 568) (by decide +kernel))) (by decide +kernel)
theorem tw_569 : (Jvm.Cond.selects "BinnedReadsModel" ({ cls := "BinnedReadsModel", name := "looked", desc := "()I" } : Jvm.MethodName) ({ cls := "BinnedReadsModel", name := "looked", desc := "()I" } : Jvm.MethodName)) ∈ tb := tb_of (List.mem_append_right _ (List.mem_of_getElem? (i := 569) (by decide +kernel))) (by decide +kernel)
theorem tw_570 : (Jvm.Cond.code ({ cls := "BinnedReadsModel", name := "looked", desc := "()I" } : Jvm.MethodName) prog_8_method_22_code (1 : Nat) (Option.some Jvm.ClassFile.FieldType.int)) ∈ tb := tb_of (List.mem_append_right _ (List.mem_of_getElem? (i := 570) (by decide +kernel))) (by decide +kernel)
theorem tw_571 : (Jvm.Cond.methodLink "BinnedReadsLaw" (66 : Nat) ({ cls := "BinnedReadsModel", name := "found", desc := "(II)I" } : Jvm.MethodName)) ∈ tb := tb_of (List.mem_append_right _ (List.mem_of_getElem? (i := 571) (by decide +kernel))) (by decide +kernel)
theorem tw_572 : (Jvm.Cond.instanceMethod ({ cls := "BinnedReadsModel", name := "found", desc := "(II)I" } : Jvm.MethodName)) ∈ tb := tb_of (List.mem_append_right _ (List.mem_of_getElem? (i := 572) (by decide +kernel))) (by decide +kernel)
theorem tw_573 : (Jvm.Cond.selects "BinnedReadsModel" ({ cls := "BinnedReadsModel", name := "found", desc := "(II)I" } : Jvm.MethodName) ({ cls := "BinnedReadsModel", name := "found", desc := "(II)I" } : Jvm.MethodName)) ∈ tb := tb_of (List.mem_append_right _ (List.mem_of_getElem? (i := 573) (by decide +kernel))) (by decide +kernel)
theorem tw_574 : (Jvm.Cond.code ({ cls := "BinnedReadsModel", name := "found", desc := "(II)I" } : Jvm.MethodName) prog_8_method_23_code (4 : Nat) (Option.some Jvm.ClassFile.FieldType.int)) ∈ tb := tb_of (List.mem_append_right _ (List.mem_of_getElem? (i := 574) (by decide +kernel))) (by decide +kernel)
theorem tw_575 : (Jvm.Cond.methodLink "BinnedReadsLaw" (70 : Nat) ({ cls := "BinnedReadsModel", name := "foundOp", desc := "(II)I" } : Jvm.MethodName)) ∈ tb := tb_of (List.mem_append_right _ (List.mem_of_getElem? (i := 575) (by decide +kernel))) (by decide +kernel)
theorem tw_576 : (Jvm.Cond.instanceMethod ({ cls := "BinnedReadsModel", name := "foundOp", desc := "(II)I" } : Jvm.MethodName)) ∈ tb := tb_of (List.mem_append_right _ (List.mem_of_getElem? (i := 576) (by decide +kernel))) (by decide +kernel)
theorem tw_577 : (Jvm.Cond.selects "BinnedReadsModel" ({ cls := "BinnedReadsModel", name := "foundOp", desc := "(II)I" } : Jvm.MethodName) ({ cls := "BinnedReadsModel", name := "foundOp", desc := "(II)I" } : Jvm.MethodName)) ∈ tb := tb_of (List.mem_append_right _ (List.mem_of_getElem? (i := 577) (by decide +kernel))) (by decide +kernel)
theorem tw_578 : (Jvm.Cond.code ({ cls := "BinnedReadsModel", name := "foundOp", desc := "(II)I" } : Jvm.MethodName) prog_8_method_24_code (3 : Nat) (Option.some Jvm.ClassFile.FieldType.int)) ∈ tb := tb_of (List.mem_append_right _ (List.mem_of_getElem? (i := 578) (by decide +kernel))) (by decide +kernel)
theorem tw_579 : (Jvm.Cond.methodLink "BinnedReadsLaw" (74 : Nat) ({ cls := "BinnedReadsModel", name := "foundBase", desc := "(II)I" } : Jvm.MethodName)) ∈ tb := tb_of (List.mem_append_right _ (List.mem_of_getElem? (i := 579) (by decide +kernel))) (by decide +kernel)
theorem tw_580 : (Jvm.Cond.instanceMethod ({ cls := "BinnedReadsModel", name := "foundBase", desc := "(II)I" } : Jvm.MethodName)) ∈ tb := tb_of (List.mem_append_right _ (List.mem_of_getElem? (i := 580) (by decide +kernel))) (by decide +kernel)
theorem tw_581 : (Jvm.Cond.selects "BinnedReadsModel" ({ cls := "BinnedReadsModel", name := "foundBase", desc := "(II)I" } : Jvm.MethodName) ({ cls := "BinnedReadsModel", name := "foundBase", desc := "(II)I" } : Jvm.MethodName)) ∈ tb := tb_of (List.mem_append_right _ (List.mem_of_getElem? (i := 581) (by decide +kernel))) (by decide +kernel)
theorem tw_582 : (Jvm.Cond.code ({ cls := "BinnedReadsModel", name := "foundBase", desc := "(II)I" } : Jvm.MethodName) prog_8_method_25_code (3 : Nat) (Option.some Jvm.ClassFile.FieldType.int)) ∈ tb := tb_of (List.mem_append_right _ (List.mem_of_getElem? (i := 582) (by decide +kernel))) (by decide +kernel)
theorem ts_0 : Cond.selects "BinnedReads$Stream" ⟨"BinnedReads$Stream", "appendByte", "(I)V"⟩ ⟨"BinnedReads$Stream", "appendByte", "(I)V"⟩ ∈ tb := tb_of (List.mem_append_left _ (List.mem_of_getElem? (i := 0) (by decide +kernel))) (by decide +kernel)
theorem ts_1 : Cond.selects "BinnedReads$Disk" ⟨"BinnedReads$Disk", "appendBlock", "(LBinnedReads$Stream;II)V"⟩ ⟨"BinnedReads$Disk", "appendBlock", "(LBinnedReads$Stream;II)V"⟩ ∈ tb := tb_of (List.mem_append_left _ (List.mem_of_getElem? (i := 1) (by decide +kernel))) (by decide +kernel)
theorem ts_2 : Cond.selects "BinnedReads$Disk" ⟨"BinnedReads$Disk", "appendByte", "(I)V"⟩ ⟨"BinnedReads$Disk", "appendByte", "(I)V"⟩ ∈ tb := tb_of (List.mem_append_left _ (List.mem_of_getElem? (i := 2) (by decide +kernel))) (by decide +kernel)
theorem ts_3 : Cond.selects "BinnedReads$Disk" ⟨"BinnedReads$Disk", "appendNumber", "(II)V"⟩ ⟨"BinnedReads$Disk", "appendNumber", "(II)V"⟩ ∈ tb := tb_of (List.mem_append_left _ (List.mem_of_getElem? (i := 3) (by decide +kernel))) (by decide +kernel)
theorem ts_4 : Cond.selects "BinnedReads$Disk" ⟨"BinnedReads$Disk", "sumOf", "(II)I"⟩ ⟨"BinnedReads$Disk", "sumOf", "(II)I"⟩ ∈ tb := tb_of (List.mem_append_left _ (List.mem_of_getElem? (i := 4) (by decide +kernel))) (by decide +kernel)
theorem ts_5 : Cond.selects "BinnedReads$Disk" ⟨"BinnedReads$Disk", "isSound", "(I)Z"⟩ ⟨"BinnedReads$Disk", "isSound", "(I)Z"⟩ ∈ tb := tb_of (List.mem_append_left _ (List.mem_of_getElem? (i := 5) (by decide +kernel))) (by decide +kernel)
theorem ts_6 : Cond.selects "BinnedReads$Disk" ⟨"BinnedReads$Disk", "numberAt", "(II)I"⟩ ⟨"BinnedReads$Disk", "numberAt", "(II)I"⟩ ∈ tb := tb_of (List.mem_append_left _ (List.mem_of_getElem? (i := 6) (by decide +kernel))) (by decide +kernel)
theorem ts_7 : Cond.selects "BinnedReads$Index" ⟨"BinnedReads$Index", "firstEndingAfter", "(II)I"⟩ ⟨"BinnedReads$Index", "firstEndingAfter", "(II)I"⟩ ∈ tb := tb_of (List.mem_append_left _ (List.mem_of_getElem? (i := 7) (by decide +kernel))) (by decide +kernel)
theorem ts_8 : Cond.selects "BinnedReads" ⟨"BinnedReads", "areChosenSound", "()Z"⟩ ⟨"BinnedReads", "areChosenSound", "()Z"⟩ ∈ tb := tb_of (List.mem_append_left _ (List.mem_of_getElem? (i := 8) (by decide +kernel))) (by decide +kernel)
theorem ts_9 : Cond.selects "BinnedReadsModel" ⟨"BinnedReadsModel", "sum", "(III)I"⟩ ⟨"BinnedReadsModel", "sum", "(III)I"⟩ ∈ tb := tb_of (List.mem_append_left _ (List.mem_of_getElem? (i := 9) (by decide +kernel))) (by decide +kernel)
theorem ts_10 : Cond.selects "BinnedReadsModel" ⟨"BinnedReadsModel", "putRead", "(I)V"⟩ ⟨"BinnedReadsModel", "putRead", "(I)V"⟩ ∈ tb := tb_of (List.mem_append_left _ (List.mem_of_getElem? (i := 10) (by decide +kernel))) (by decide +kernel)
theorem ts_11 : Cond.selects "BinnedReadsModel" ⟨"BinnedReadsModel", "put", "(I)V"⟩ ⟨"BinnedReadsModel", "put", "(I)V"⟩ ∈ tb := tb_of (List.mem_append_left _ (List.mem_of_getElem? (i := 11) (by decide +kernel))) (by decide +kernel)
theorem ts_12 : Cond.selects "BinnedReadsModel" ⟨"BinnedReadsModel", "binOf", "(I)I"⟩ ⟨"BinnedReadsModel", "binOf", "(I)I"⟩ ∈ tb := tb_of (List.mem_append_left _ (List.mem_of_getElem? (i := 12) (by decide +kernel))) (by decide +kernel)
theorem ts_13 : Cond.selects "BinnedReadsModel" ⟨"BinnedReadsModel", "storeBlock", "(II)V"⟩ ⟨"BinnedReadsModel", "storeBlock", "(II)V"⟩ ∈ tb := tb_of (List.mem_append_left _ (List.mem_of_getElem? (i := 13) (by decide +kernel))) (by decide +kernel)
theorem ts_14 : Cond.selects "BinnedReadsModel" ⟨"BinnedReadsModel", "store", "(I)V"⟩ ⟨"BinnedReadsModel", "store", "(I)V"⟩ ∈ tb := tb_of (List.mem_append_left _ (List.mem_of_getElem? (i := 14) (by decide +kernel))) (by decide +kernel)
theorem ts_15 : Cond.selects "BinnedReadsModel" ⟨"BinnedReadsModel", "firstBehind", "(II)I"⟩ ⟨"BinnedReadsModel", "firstBehind", "(II)I"⟩ ∈ tb := tb_of (List.mem_append_left _ (List.mem_of_getElem? (i := 15) (by decide +kernel))) (by decide +kernel)
theorem ts_16 : Cond.selects "BinnedReadsModel" ⟨"BinnedReadsModel", "hurt", "(I)Z"⟩ ⟨"BinnedReadsModel", "hurt", "(I)Z"⟩ ∈ tb := tb_of (List.mem_append_left _ (List.mem_of_getElem? (i := 16) (by decide +kernel))) (by decide +kernel)
abbrev R_Disk : String := "BinnedReads$Disk"
def F_Disk : u_T := fun k => match k with
  | 0 => ("BinnedReads$Disk", "bytes", "[I", true)
  | 1 => ("BinnedReads$Disk", "blockStarts", "[I", true)
  | 2 => ("BinnedReads$Disk", "size", "I", false)
  | 3 => ("BinnedReads$Disk", "blockCount", "I", false)
  | _ => ("BinnedReads$Disk", "turned", "I", false)
def t_Disk : Nat → FieldType := fun k => match k with
  | 0 => .array .int
  | 1 => .array .int
  | 2 => .int
  | 3 => .int
  | _ => .int
theorem n_Disk : ∀ a, a < 5 → ∀ b, b < 5 → a ≠ b → (F_Disk a).2.1 ≠ (F_Disk b).2.1 := by decide +kernel
theorem to_Disk : ∀ k, k < 5 → parseFieldDescriptor (F_Disk k).2.2.1 = some (t_Disk k) := by decide +kernel
set_option maxRecDepth 100000 in
theorem in_Disk : ∀ w ∈ u_ws R_Disk F_Disk 5, w ∈ tb := by decide +kernel
abbrev R_Draft : String := "BinnedReads$Draft"
def F_Draft : u_T := fun k => match k with
  | 0 => ("BinnedReads$Draft", "ops", "[I", true)
  | 1 => ("BinnedReads$Draft", "bases", "[I", true)
  | 2 => ("BinnedReads$Draft", "opCount", "I", false)
  | _ => ("BinnedReads$Draft", "baseCount", "I", false)
def t_Draft : Nat → FieldType := fun k => match k with
  | 0 => .array .int
  | 1 => .array .int
  | 2 => .int
  | _ => .int
theorem n_Draft : ∀ a, a < 4 → ∀ b, b < 4 → a ≠ b → (F_Draft a).2.1 ≠ (F_Draft b).2.1 := by decide +kernel
theorem to_Draft : ∀ k, k < 4 → parseFieldDescriptor (F_Draft k).2.2.1 = some (t_Draft k) := by decide +kernel
set_option maxRecDepth 100000 in
theorem in_Draft : ∀ w ∈ u_ws R_Draft F_Draft 4, w ∈ tb := by decide +kernel
abbrev R_Find : String := "BinnedReads$Finding"
def F_Find : u_T := fun k => match k with
  | 0 => ("BinnedReads$Finding", "rows", "[[I", true)
  | 1 => ("BinnedReads$Finding", "offsets", "[I", true)
  | 2 => ("BinnedReads$Finding", "count", "I", false)
  | _ => ("BinnedReads$Finding", "lookedAt", "I", false)
def t_Find : Nat → FieldType := fun k => match k with
  | 0 => .array (.array .int)
  | 1 => .array .int
  | 2 => .int
  | _ => .int
theorem n_Find : ∀ a, a < 4 → ∀ b, b < 4 → a ≠ b → (F_Find a).2.1 ≠ (F_Find b).2.1 := by decide +kernel
theorem to_Find : ∀ k, k < 4 → parseFieldDescriptor (F_Find k).2.2.1 = some (t_Find k) := by decide +kernel
set_option maxRecDepth 100000 in
theorem in_Find : ∀ w ∈ u_ws R_Find F_Find 4, w ∈ tb := by decide +kernel
abbrev R_Indx : String := "BinnedReads$Index"
def F_Indx : u_T := fun k => match k with
  | 0 => ("BinnedReads$Index", "references", "[I", true)
  | 1 => ("BinnedReads$Index", "positions", "[I", true)
  | 2 => ("BinnedReads$Index", "ends", "[I", true)
  | 3 => ("BinnedReads$Index", "bins", "[I", true)
  | 4 => ("BinnedReads$Index", "starts", "[I", true)
  | 5 => ("BinnedReads$Index", "count", "I", false)
  | 6 => ("BinnedReads$Index", "chosen", "[I", true)
  | _ => ("BinnedReads$Index", "chosenCount", "I", false)
def t_Indx : Nat → FieldType := fun k => match k with
  | 0 => .array .int
  | 1 => .array .int
  | 2 => .array .int
  | 3 => .array .int
  | 4 => .array .int
  | 5 => .int
  | 6 => .array .int
  | _ => .int
theorem n_Indx : ∀ a, a < 8 → ∀ b, b < 8 → a ≠ b → (F_Indx a).2.1 ≠ (F_Indx b).2.1 := by decide +kernel
theorem to_Indx : ∀ k, k < 8 → parseFieldDescriptor (F_Indx k).2.2.1 = some (t_Indx k) := by decide +kernel
set_option maxRecDepth 100000 in
theorem in_Indx : ∀ w ∈ u_ws R_Indx F_Indx 8, w ∈ tb := by decide +kernel
abbrev R_Strm : String := "BinnedReads$Stream"
def F_Strm : u_T := fun k => match k with
  | 0 => ("BinnedReads$Stream", "bytes", "[I", true)
  | _ => ("BinnedReads$Stream", "length", "I", false)
def t_Strm : Nat → FieldType := fun k => match k with
  | 0 => .array .int
  | _ => .int
theorem n_Strm : ∀ a, a < 2 → ∀ b, b < 2 → a ≠ b → (F_Strm a).2.1 ≠ (F_Strm b).2.1 := by decide +kernel
theorem to_Strm : ∀ k, k < 2 → parseFieldDescriptor (F_Strm k).2.2.1 = some (t_Strm k) := by decide +kernel
set_option maxRecDepth 100000 in
theorem in_Strm : ∀ w ∈ u_ws R_Strm F_Strm 2, w ∈ tb := by decide +kernel
abbrev R_BR : String := "BinnedReads"
def F_BR : u_T := fun k => match k with
  | 0 => ("BinnedReads", "draft", "LBinnedReads$Draft;", true)
  | 1 => ("BinnedReads", "stream", "LBinnedReads$Stream;", true)
  | 2 => ("BinnedReads", "index", "LBinnedReads$Index;", true)
  | 3 => ("BinnedReads", "disk", "LBinnedReads$Disk;", true)
  | _ => ("BinnedReads", "finding", "LBinnedReads$Finding;", true)
def t_BR : Nat → FieldType := fun k => match k with
  | 0 => .object "BinnedReads$Draft"
  | 1 => .object "BinnedReads$Stream"
  | 2 => .object "BinnedReads$Index"
  | 3 => .object "BinnedReads$Disk"
  | _ => .object "BinnedReads$Finding"
theorem n_BR : ∀ a, a < 5 → ∀ b, b < 5 → a ≠ b → (F_BR a).2.1 ≠ (F_BR b).2.1 := by decide +kernel
theorem to_BR : ∀ k, k < 5 → parseFieldDescriptor (F_BR k).2.2.1 = some (t_BR k) := by decide +kernel
set_option maxRecDepth 100000 in
theorem in_BR : ∀ w ∈ u_ws R_BR F_BR 5, w ∈ tb := by decide +kernel
abbrev R_Mod : String := "BinnedReadsModel"
def F_Mod : u_T := fun k => match k with
  | 0 => ("BinnedReadsModel", "ops", "I", false)
  | 1 => ("BinnedReadsModel", "kinds", "[I", true)
  | 2 => ("BinnedReadsModel", "lengths", "[I", true)
  | 3 => ("BinnedReadsModel", "bases", "I", false)
  | 4 => ("BinnedReadsModel", "codes", "[I", true)
  | 5 => ("BinnedReadsModel", "reads", "I", false)
  | 6 => ("BinnedReadsModel", "reference", "[I", true)
  | 7 => ("BinnedReadsModel", "position", "[I", true)
  | 8 => ("BinnedReadsModel", "ends", "[I", true)
  | 9 => ("BinnedReadsModel", "opCount", "[I", true)
  | 10 => ("BinnedReadsModel", "opBytes", "[I", true)
  | 11 => ("BinnedReadsModel", "baseCount", "[I", true)
  | 12 => ("BinnedReadsModel", "baseCodes", "[I", true)
  | 13 => ("BinnedReadsModel", "begins", "[I", true)
  | 14 => ("BinnedReadsModel", "written", "Z", false)
  | 15 => ("BinnedReadsModel", "stream", "[I", true)
  | 16 => ("BinnedReadsModel", "streamed", "I", false)
  | 17 => ("BinnedReadsModel", "disk", "[I", true)
  | 18 => ("BinnedReadsModel", "size", "I", false)
  | 19 => ("BinnedReadsModel", "turned", "I", false)
  | 20 => ("BinnedReadsModel", "finding", "I", false)
  | 21 => ("BinnedReadsModel", "looks", "I", false)
  | _ => ("BinnedReadsModel", "finds", "[I", true)
def t_Mod : Nat → FieldType := fun k => match k with
  | 0 => .int
  | 1 => .array .int
  | 2 => .array .int
  | 3 => .int
  | 4 => .array .int
  | 5 => .int
  | 6 => .array .int
  | 7 => .array .int
  | 8 => .array .int
  | 9 => .array .int
  | 10 => .array .int
  | 11 => .array .int
  | 12 => .array .int
  | 13 => .array .int
  | 14 => .boolean
  | 15 => .array .int
  | 16 => .int
  | 17 => .array .int
  | 18 => .int
  | 19 => .int
  | 20 => .int
  | 21 => .int
  | _ => .array .int
theorem n_Mod : ∀ a, a < 23 → ∀ b, b < 23 → a ≠ b → (F_Mod a).2.1 ≠ (F_Mod b).2.1 := by decide +kernel
theorem to_Mod : ∀ k, k < 23 → parseFieldDescriptor (F_Mod k).2.2.1 = some (t_Mod k) := by decide +kernel
set_option maxRecDepth 100000 in
theorem in_Mod : ∀ w ∈ u_ws R_Mod F_Mod 23, w ∈ tb := by decide +kernel
abbrev classes : List vw_C := [(R_Disk, F_Disk, 5), (R_Draft, F_Draft, 4), (R_Find, F_Find, 4), (R_Indx, F_Indx, 8), (R_Strm, F_Strm, 2), (R_BR, F_BR, 5), (R_Mod, F_Mod, 23)]
abbrev R_Law : String := "BinnedReadsLaw"
abbrev b_Disk_init : ByteArray := prog_2_method_1_code
abbrev y_Disk_init : MethodName := ⟨"BinnedReads$Disk", "<init>", "()V"⟩
abbrev w_Disk_init : List Cond := Cond.code y_Disk_init b_Disk_init 1 none :: tb
abbrev b_Disk_empty : ByteArray := prog_2_method_2_code
abbrev y_Disk_empty : MethodName := ⟨"BinnedReads$Disk", "empty", "()V"⟩
abbrev w_Disk_empty : List Cond := Cond.code y_Disk_empty b_Disk_empty 1 none :: tb
abbrev b_Disk_isWritten : ByteArray := prog_2_method_3_code
abbrev y_Disk_isWritten : MethodName := ⟨"BinnedReads$Disk", "isWritten", "()Z"⟩
abbrev w_Disk_isWritten : List Cond := Cond.code y_Disk_isWritten b_Disk_isWritten 1 (some .boolean) :: tb
abbrev b_Disk_write : ByteArray := prog_2_method_4_code
abbrev y_Disk_write : MethodName := ⟨"BinnedReads$Disk", "write", "(LBinnedReads$Stream;)V"⟩
abbrev w_Disk_write : List Cond := Cond.code y_Disk_write b_Disk_write 3 none :: tb
abbrev b_Disk_at : ByteArray := prog_2_method_5_code
abbrev y_Disk_at : MethodName := ⟨"BinnedReads$Disk", "at", "(I)I"⟩
abbrev w_Disk_at : List Cond := Cond.code y_Disk_at b_Disk_at 2 (some .int) :: tb
abbrev b_Disk_turnBit : ByteArray := prog_2_method_6_code
abbrev y_Disk_turnBit : MethodName := ⟨"BinnedReads$Disk", "turnBit", "(II)Z"⟩
abbrev w_Disk_turnBit : List Cond := Cond.code y_Disk_turnBit b_Disk_turnBit 4 (some .boolean) :: tb
abbrev b_Disk_areSound : ByteArray := prog_2_method_7_code
abbrev y_Disk_areSound : MethodName := ⟨"BinnedReads$Disk", "areSound", "(II)Z"⟩
abbrev w_Disk_areSound : List Cond := Cond.code y_Disk_areSound b_Disk_areSound 4 (some .boolean) :: tb
abbrev b_Disk_streamByte : ByteArray := prog_2_method_8_code
abbrev y_Disk_streamByte : MethodName := ⟨"BinnedReads$Disk", "streamByte", "(I)I"⟩
abbrev w_Disk_streamByte : List Cond := Cond.code y_Disk_streamByte b_Disk_streamByte 3 (some .int) :: tb
abbrev b_Disk_offsetOf : ByteArray := prog_2_method_9_code
abbrev y_Disk_offsetOf : MethodName := ⟨"BinnedReads$Disk", "offsetOf", "(I)I"⟩
abbrev w_Disk_offsetOf : List Cond := Cond.code y_Disk_offsetOf b_Disk_offsetOf 3 (some .int) :: tb
abbrev b_Disk_appendBlock : ByteArray := prog_2_method_10_code
abbrev y_Disk_appendBlock : MethodName := ⟨"BinnedReads$Disk", "appendBlock", "(LBinnedReads$Stream;II)V"⟩
abbrev w_Disk_appendBlock : List Cond := Cond.code y_Disk_appendBlock b_Disk_appendBlock 6 none :: tb
abbrev b_Disk_appendNumber : ByteArray := prog_2_method_11_code
abbrev y_Disk_appendNumber : MethodName := ⟨"BinnedReads$Disk", "appendNumber", "(II)V"⟩
abbrev w_Disk_appendNumber : List Cond := Cond.code y_Disk_appendNumber b_Disk_appendNumber 4 none :: tb
abbrev b_Disk_appendByte : ByteArray := prog_2_method_12_code
abbrev y_Disk_appendByte : MethodName := ⟨"BinnedReads$Disk", "appendByte", "(I)V"⟩
abbrev w_Disk_appendByte : List Cond := Cond.code y_Disk_appendByte b_Disk_appendByte 2 none :: tb
abbrev b_Disk_isSound : ByteArray := prog_2_method_13_code
abbrev y_Disk_isSound : MethodName := ⟨"BinnedReads$Disk", "isSound", "(I)Z"⟩
abbrev w_Disk_isSound : List Cond := Cond.code y_Disk_isSound b_Disk_isSound 5 (some .boolean) :: tb
abbrev b_Disk_numberAt : ByteArray := prog_2_method_14_code
abbrev y_Disk_numberAt : MethodName := ⟨"BinnedReads$Disk", "numberAt", "(II)I"⟩
abbrev w_Disk_numberAt : List Cond := Cond.code y_Disk_numberAt b_Disk_numberAt 5 (some .int) :: tb
abbrev b_Disk_sumOf : ByteArray := prog_2_method_15_code
abbrev y_Disk_sumOf : MethodName := ⟨"BinnedReads$Disk", "sumOf", "(II)I"⟩
abbrev w_Disk_sumOf : List Cond := Cond.code y_Disk_sumOf b_Disk_sumOf 6 (some .int) :: tb
abbrev b_Draft_init : ByteArray := prog_3_method_1_code
abbrev y_Draft_init : MethodName := ⟨"BinnedReads$Draft", "<init>", "()V"⟩
abbrev w_Draft_init : List Cond := Cond.code y_Draft_init b_Draft_init 1 none :: tb
abbrev b_Draft_appendOp : ByteArray := prog_3_method_2_code
abbrev y_Draft_appendOp : MethodName := ⟨"BinnedReads$Draft", "appendOp", "(II)Z"⟩
abbrev w_Draft_appendOp : List Cond := Cond.code y_Draft_appendOp b_Draft_appendOp 3 (some .boolean) :: tb
abbrev b_Draft_appendBase : ByteArray := prog_3_method_3_code
abbrev y_Draft_appendBase : MethodName := ⟨"BinnedReads$Draft", "appendBase", "(I)Z"⟩
abbrev w_Draft_appendBase : List Cond := Cond.code y_Draft_appendBase b_Draft_appendBase 2 (some .boolean) :: tb
abbrev b_Draft_empty : ByteArray := prog_3_method_4_code
abbrev y_Draft_empty : MethodName := ⟨"BinnedReads$Draft", "empty", "()V"⟩
abbrev w_Draft_empty : List Cond := Cond.code y_Draft_empty b_Draft_empty 1 none :: tb
abbrev b_Draft_span : ByteArray := prog_3_method_5_code
abbrev y_Draft_span : MethodName := ⟨"BinnedReads$Draft", "span", "()I"⟩
abbrev w_Draft_span : List Cond := Cond.code y_Draft_span b_Draft_span 1 (some .int) :: tb
abbrev b_Draft_width : ByteArray := prog_3_method_6_code
abbrev y_Draft_width : MethodName := ⟨"BinnedReads$Draft", "width", "()I"⟩
abbrev w_Draft_width : List Cond := Cond.code y_Draft_width b_Draft_width 3 (some .int) :: tb
abbrev b_Draft_isRead : ByteArray := prog_3_method_7_code
abbrev y_Draft_isRead : MethodName := ⟨"BinnedReads$Draft", "isRead", "()Z"⟩
abbrev w_Draft_isRead : List Cond := Cond.code y_Draft_isRead b_Draft_isRead 1 (some .boolean) :: tb
abbrev b_Draft_basePair : ByteArray := prog_3_method_8_code
abbrev y_Draft_basePair : MethodName := ⟨"BinnedReads$Draft", "basePair", "(I)I"⟩
abbrev w_Draft_basePair : List Cond := Cond.code y_Draft_basePair b_Draft_basePair 3 (some .int) :: tb
abbrev b_Find_init : ByteArray := prog_4_method_1_code
abbrev y_Find_init : MethodName := ⟨"BinnedReads$Finding", "<init>", "()V"⟩
abbrev w_Find_init : List Cond := Cond.code y_Find_init b_Find_init 1 none :: tb
abbrev b_Find_empty : ByteArray := prog_4_method_2_code
abbrev y_Find_empty : MethodName := ⟨"BinnedReads$Finding", "empty", "()V"⟩
abbrev w_Find_empty : List Cond := Cond.code y_Find_empty b_Find_empty 1 none :: tb
abbrev b_Find_has : ByteArray := prog_4_method_3_code
abbrev y_Find_has : MethodName := ⟨"BinnedReads$Finding", "has", "(I)Z"⟩
abbrev w_Find_has : List Cond := Cond.code y_Find_has b_Find_has 2 (some .boolean) :: tb
abbrev b_Find_append : ByteArray := prog_4_method_4_code
abbrev y_Find_append : MethodName := ⟨"BinnedReads$Finding", "append", "(LBinnedReads$Disk;I)V"⟩
abbrev w_Find_append : List Cond := Cond.code y_Find_append b_Find_append 6 none :: tb
abbrev b_Find_position : ByteArray := prog_4_method_5_code
abbrev y_Find_position : MethodName := ⟨"BinnedReads$Finding", "position", "(I)I"⟩
abbrev w_Find_position : List Cond := Cond.code y_Find_position b_Find_position 2 (some .int) :: tb
abbrev b_Find_end : ByteArray := prog_4_method_6_code
abbrev y_Find_end : MethodName := ⟨"BinnedReads$Finding", "end", "(I)I"⟩
abbrev w_Find_end : List Cond := Cond.code y_Find_end b_Find_end 2 (some .int) :: tb
abbrev b_Find_opCount : ByteArray := prog_4_method_7_code
abbrev y_Find_opCount : MethodName := ⟨"BinnedReads$Finding", "opCount", "(I)I"⟩
abbrev w_Find_opCount : List Cond := Cond.code y_Find_opCount b_Find_opCount 2 (some .int) :: tb
abbrev b_Find_baseCount : ByteArray := prog_4_method_8_code
abbrev y_Find_baseCount : MethodName := ⟨"BinnedReads$Finding", "baseCount", "(I)I"⟩
abbrev w_Find_baseCount : List Cond := Cond.code y_Find_baseCount b_Find_baseCount 2 (some .int) :: tb
abbrev b_Indx_init : ByteArray := prog_5_method_1_code
abbrev y_Indx_init : MethodName := ⟨"BinnedReads$Index", "<init>", "()V"⟩
abbrev w_Indx_init : List Cond := Cond.code y_Indx_init b_Indx_init 1 none :: tb
abbrev b_Indx_empty : ByteArray := prog_5_method_2_code
abbrev y_Indx_empty : MethodName := ⟨"BinnedReads$Index", "empty", "()V"⟩
abbrev w_Indx_empty : List Cond := Cond.code y_Indx_empty b_Indx_empty 1 none :: tb
abbrev b_Indx_isFull : ByteArray := prog_5_method_3_code
abbrev y_Indx_isFull : MethodName := ⟨"BinnedReads$Index", "isFull", "()Z"⟩
abbrev w_Indx_isFull : List Cond := Cond.code y_Indx_isFull b_Indx_isFull 1 (some .boolean) :: tb
abbrev b_Indx_endsBehind : ByteArray := prog_5_method_4_code
abbrev y_Indx_endsBehind : MethodName := ⟨"BinnedReads$Index", "endsBehind", "(II)Z"⟩
abbrev w_Indx_endsBehind : List Cond := Cond.code y_Indx_endsBehind b_Indx_endsBehind 4 (some .boolean) :: tb
abbrev b_Indx_append : ByteArray := prog_5_method_5_code
abbrev y_Indx_append : MethodName := ⟨"BinnedReads$Index", "append", "(IIIII)I"⟩
abbrev w_Indx_append : List Cond := Cond.code y_Indx_append b_Indx_append 6 (some .int) :: tb
abbrev b_Indx_choose : ByteArray := prog_5_method_6_code
abbrev y_Indx_choose : MethodName := ⟨"BinnedReads$Index", "choose", "(III)V"⟩
abbrev w_Indx_choose : List Cond := Cond.code y_Indx_choose b_Indx_choose 6 none :: tb
abbrev b_Indx_overlaps : ByteArray := prog_5_method_7_code
abbrev y_Indx_overlaps : MethodName := ⟨"BinnedReads$Index", "overlaps", "(III)Z"⟩
abbrev w_Indx_overlaps : List Cond := Cond.code y_Indx_overlaps b_Indx_overlaps 4 (some .boolean) :: tb
abbrev b_Indx_firstEndingAfter : ByteArray := prog_5_method_8_code
abbrev y_Indx_firstEndingAfter : MethodName := ⟨"BinnedReads$Index", "firstEndingAfter", "(II)I"⟩
abbrev w_Indx_firstEndingAfter : List Cond := Cond.code y_Indx_firstEndingAfter b_Indx_firstEndingAfter 4 (some .int) :: tb
abbrev b_Strm_init : ByteArray := prog_6_method_1_code
abbrev y_Strm_init : MethodName := ⟨"BinnedReads$Stream", "<init>", "()V"⟩
abbrev w_Strm_init : List Cond := Cond.code y_Strm_init b_Strm_init 1 none :: tb
abbrev b_Strm_empty : ByteArray := prog_6_method_2_code
abbrev y_Strm_empty : MethodName := ⟨"BinnedReads$Stream", "empty", "()V"⟩
abbrev w_Strm_empty : List Cond := Cond.code y_Strm_empty b_Strm_empty 1 none :: tb
abbrev b_Strm_appendRow : ByteArray := prog_6_method_3_code
abbrev y_Strm_appendRow : MethodName := ⟨"BinnedReads$Stream", "appendRow", "(LBinnedReads$Draft;III)V"⟩
abbrev w_Strm_appendRow : List Cond := Cond.code y_Strm_appendRow b_Strm_appendRow 7 none :: tb
abbrev b_Strm_rowLength : ByteArray := prog_6_method_4_code
abbrev y_Strm_rowLength : MethodName := ⟨"BinnedReads$Stream", "rowLength", "(I)I"⟩
abbrev w_Strm_rowLength : List Cond := Cond.code y_Strm_rowLength b_Strm_rowLength 2 (some .int) :: tb
abbrev b_Strm_appendByte : ByteArray := prog_6_method_5_code
abbrev y_Strm_appendByte : MethodName := ⟨"BinnedReads$Stream", "appendByte", "(I)V"⟩
abbrev w_Strm_appendByte : List Cond := Cond.code y_Strm_appendByte b_Strm_appendByte 2 none :: tb
abbrev b_BR_init : ByteArray := prog_1_method_1_code
abbrev y_BR_init : MethodName := ⟨"BinnedReads", "<init>", "()V"⟩
abbrev w_BR_init : List Cond := Cond.code y_BR_init b_BR_init 1 none :: tb
abbrev b_BR_op : ByteArray := prog_1_method_2_code
abbrev y_BR_op : MethodName := ⟨"BinnedReads", "op", "(II)Z"⟩
abbrev w_BR_op : List Cond := Cond.code y_BR_op b_BR_op 3 (some .boolean) :: tb
abbrev b_BR_base : ByteArray := prog_1_method_3_code
abbrev y_BR_base : MethodName := ⟨"BinnedReads", "base", "(I)Z"⟩
abbrev w_BR_base : List Cond := Cond.code y_BR_base b_BR_base 2 (some .boolean) :: tb
abbrev b_BR_scrap : ByteArray := prog_1_method_4_code
abbrev y_BR_scrap : MethodName := ⟨"BinnedReads", "scrap", "()V"⟩
abbrev w_BR_scrap : List Cond := Cond.code y_BR_scrap b_BR_scrap 1 none :: tb
abbrev b_BR_add : ByteArray := prog_1_method_5_code
abbrev y_BR_add : MethodName := ⟨"BinnedReads", "add", "(II)I"⟩
abbrev w_BR_add : List Cond := Cond.code y_BR_add b_BR_add 6 (some .int) :: tb
abbrev b_BR_finish : ByteArray := prog_1_method_6_code
abbrev y_BR_finish : MethodName := ⟨"BinnedReads", "finish", "()I"⟩
abbrev w_BR_finish : List Cond := Cond.code y_BR_finish b_BR_finish 1 (some .int) :: tb
abbrev b_BR_clear : ByteArray := prog_1_method_7_code
abbrev y_BR_clear : MethodName := ⟨"BinnedReads", "clear", "()V"⟩
abbrev w_BR_clear : List Cond := Cond.code y_BR_clear b_BR_clear 1 none :: tb
abbrev b_BR_turn : ByteArray := prog_1_method_8_code
abbrev y_BR_turn : MethodName := ⟨"BinnedReads", "turn", "(II)Z"⟩
abbrev w_BR_turn : List Cond := Cond.code y_BR_turn b_BR_turn 3 (some .boolean) :: tb
abbrev b_BR_byteAt : ByteArray := prog_1_method_9_code
abbrev y_BR_byteAt : MethodName := ⟨"BinnedReads", "byteAt", "(I)I"⟩
abbrev w_BR_byteAt : List Cond := Cond.code y_BR_byteAt b_BR_byteAt 2 (some .int) :: tb
abbrev b_BR_check : ByteArray := prog_1_method_10_code
abbrev y_BR_check : MethodName := ⟨"BinnedReads", "check", "()I"⟩
abbrev w_BR_check : List Cond := Cond.code y_BR_check b_BR_check 1 (some .int) :: tb
abbrev b_BR_query : ByteArray := prog_1_method_11_code
abbrev y_BR_query : MethodName := ⟨"BinnedReads", "query", "(III)I"⟩
abbrev w_BR_query : List Cond := Cond.code y_BR_query b_BR_query 6 (some .int) :: tb
abbrev b_BR_looked : ByteArray := prog_1_method_12_code
abbrev y_BR_looked : MethodName := ⟨"BinnedReads", "looked", "()I"⟩
abbrev w_BR_looked : List Cond := Cond.code y_BR_looked b_BR_looked 1 (some .int) :: tb
abbrev b_BR_found : ByteArray := prog_1_method_13_code
abbrev y_BR_found : MethodName := ⟨"BinnedReads", "found", "(II)I"⟩
abbrev w_BR_found : List Cond := Cond.code y_BR_found b_BR_found 3 (some .int) :: tb
abbrev b_BR_foundOp : ByteArray := prog_1_method_14_code
abbrev y_BR_foundOp : MethodName := ⟨"BinnedReads", "foundOp", "(II)I"⟩
abbrev w_BR_foundOp : List Cond := Cond.code y_BR_foundOp b_BR_foundOp 3 (some .int) :: tb
abbrev b_BR_foundBase : ByteArray := prog_1_method_15_code
abbrev y_BR_foundBase : MethodName := ⟨"BinnedReads", "foundBase", "(II)I"⟩
abbrev w_BR_foundBase : List Cond := Cond.code y_BR_foundBase b_BR_foundBase 4 (some .int) :: tb
abbrev b_BR_areChosenSound : ByteArray := prog_1_method_16_code
abbrev y_BR_areChosenSound : MethodName := ⟨"BinnedReads", "areChosenSound", "()Z"⟩
abbrev w_BR_areChosenSound : List Cond := Cond.code y_BR_areChosenSound b_BR_areChosenSound 6 (some .boolean) :: tb
abbrev b_BR_isReference : ByteArray := prog_1_method_17_code
abbrev y_BR_isReference : MethodName := ⟨"BinnedReads", "isReference", "(I)Z"⟩
abbrev w_BR_isReference : List Cond := Cond.code y_BR_isReference b_BR_isReference 1 (some .boolean) :: tb
abbrev b_BR_isRegion : ByteArray := prog_1_method_18_code
abbrev y_BR_isRegion : MethodName := ⟨"BinnedReads", "isRegion", "(III)Z"⟩
abbrev w_BR_isRegion : List Cond := Cond.code y_BR_isRegion b_BR_isRegion 3 (some .boolean) :: tb
abbrev b_BR_binOf : ByteArray := prog_1_method_19_code
abbrev y_BR_binOf : MethodName := ⟨"BinnedReads", "binOf", "(II)I"⟩
abbrev w_BR_binOf : List Cond := Cond.code y_BR_binOf b_BR_binOf 3 (some .int) :: tb
abbrev b_BR_binMeets : ByteArray := prog_1_method_20_code
abbrev y_BR_binMeets : MethodName := ⟨"BinnedReads", "binMeets", "(III)Z"⟩
abbrev w_BR_binMeets : List Cond := Cond.code y_BR_binMeets b_BR_binMeets 5 (some .boolean) :: tb
abbrev b_BR_kindOf : ByteArray := prog_1_method_21_code
abbrev y_BR_kindOf : MethodName := ⟨"BinnedReads", "kindOf", "(I)I"⟩
abbrev w_BR_kindOf : List Cond := Cond.code y_BR_kindOf b_BR_kindOf 1 (some .int) :: tb
abbrev b_BR_lengthOf : ByteArray := prog_1_method_22_code
abbrev y_BR_lengthOf : MethodName := ⟨"BinnedReads", "lengthOf", "(I)I"⟩
abbrev w_BR_lengthOf : List Cond := Cond.code y_BR_lengthOf b_BR_lengthOf 1 (some .int) :: tb
abbrev b_BR_spanOf : ByteArray := prog_1_method_23_code
abbrev y_BR_spanOf : MethodName := ⟨"BinnedReads", "spanOf", "([III)I"⟩
abbrev w_BR_spanOf : List Cond := Cond.code y_BR_spanOf b_BR_spanOf 6 (some .int) :: tb
abbrev b_Mod_init : ByteArray := prog_8_method_1_code
abbrev y_Mod_init : MethodName := ⟨"BinnedReadsModel", "<init>", "()V"⟩
abbrev w_Mod_init : List Cond := Cond.code y_Mod_init b_Mod_init 1 none :: tb
abbrev b_Mod_within : ByteArray := prog_8_method_2_code
abbrev y_Mod_within : MethodName := ⟨"BinnedReadsModel", "within", "(III)Z"⟩
abbrev w_Mod_within : List Cond := Cond.code y_Mod_within b_Mod_within 3 (some .boolean) :: tb
abbrev b_Mod_op : ByteArray := prog_8_method_3_code
abbrev y_Mod_op : MethodName := ⟨"BinnedReadsModel", "op", "(II)Z"⟩
abbrev w_Mod_op : List Cond := Cond.code y_Mod_op b_Mod_op 3 (some .boolean) :: tb
abbrev b_Mod_base : ByteArray := prog_8_method_4_code
abbrev y_Mod_base : MethodName := ⟨"BinnedReadsModel", "base", "(I)Z"⟩
abbrev w_Mod_base : List Cond := Cond.code y_Mod_base b_Mod_base 2 (some .boolean) :: tb
abbrev b_Mod_scrap : ByteArray := prog_8_method_5_code
abbrev y_Mod_scrap : MethodName := ⟨"BinnedReadsModel", "scrap", "()V"⟩
abbrev w_Mod_scrap : List Cond := Cond.code y_Mod_scrap b_Mod_scrap 1 none :: tb
abbrev b_Mod_sum : ByteArray := prog_8_method_6_code
abbrev y_Mod_sum : MethodName := ⟨"BinnedReadsModel", "sum", "(III)I"⟩
abbrev w_Mod_sum : List Cond := Cond.code y_Mod_sum b_Mod_sum 6 (some .int) :: tb
abbrev b_Mod_add : ByteArray := prog_8_method_7_code
abbrev y_Mod_add : MethodName := ⟨"BinnedReadsModel", "add", "(II)I"⟩
abbrev w_Mod_add : List Cond := Cond.code y_Mod_add b_Mod_add 6 (some .int) :: tb
abbrev b_Mod_binOf : ByteArray := prog_8_method_8_code
abbrev y_Mod_binOf : MethodName := ⟨"BinnedReadsModel", "binOf", "(I)I"⟩
abbrev w_Mod_binOf : List Cond := Cond.code y_Mod_binOf b_Mod_binOf 4 (some .int) :: tb
abbrev b_Mod_put : ByteArray := prog_8_method_9_code
abbrev y_Mod_put : MethodName := ⟨"BinnedReadsModel", "put", "(I)V"⟩
abbrev w_Mod_put : List Cond := Cond.code y_Mod_put b_Mod_put 2 none :: tb
abbrev b_Mod_putRead : ByteArray := prog_8_method_10_code
abbrev y_Mod_putRead : MethodName := ⟨"BinnedReadsModel", "putRead", "(I)V"⟩
abbrev w_Mod_putRead : List Cond := Cond.code y_Mod_putRead b_Mod_putRead 5 none :: tb
abbrev b_Mod_store : ByteArray := prog_8_method_11_code
abbrev y_Mod_store : MethodName := ⟨"BinnedReadsModel", "store", "(I)V"⟩
abbrev w_Mod_store : List Cond := Cond.code y_Mod_store b_Mod_store 2 none :: tb
abbrev b_Mod_storeBlock : ByteArray := prog_8_method_12_code
abbrev y_Mod_storeBlock : MethodName := ⟨"BinnedReadsModel", "storeBlock", "(II)V"⟩
abbrev w_Mod_storeBlock : List Cond := Cond.code y_Mod_storeBlock b_Mod_storeBlock 7 none :: tb
abbrev b_Mod_finish : ByteArray := prog_8_method_13_code
abbrev y_Mod_finish : MethodName := ⟨"BinnedReadsModel", "finish", "()I"⟩
abbrev w_Mod_finish : List Cond := Cond.code y_Mod_finish b_Mod_finish 2 (some .int) :: tb
abbrev b_Mod_clear : ByteArray := prog_8_method_14_code
abbrev y_Mod_clear : MethodName := ⟨"BinnedReadsModel", "clear", "()V"⟩
abbrev w_Mod_clear : List Cond := Cond.code y_Mod_clear b_Mod_clear 1 none :: tb
abbrev b_Mod_turn : ByteArray := prog_8_method_15_code
abbrev y_Mod_turn : MethodName := ⟨"BinnedReadsModel", "turn", "(II)Z"⟩
abbrev w_Mod_turn : List Cond := Cond.code y_Mod_turn b_Mod_turn 3 (some .boolean) :: tb
abbrev b_Mod_byteAt : ByteArray := prog_8_method_16_code
abbrev y_Mod_byteAt : MethodName := ⟨"BinnedReadsModel", "byteAt", "(I)I"⟩
abbrev w_Mod_byteAt : List Cond := Cond.code y_Mod_byteAt b_Mod_byteAt 2 (some .int) :: tb
abbrev b_Mod_check : ByteArray := prog_8_method_17_code
abbrev y_Mod_check : MethodName := ⟨"BinnedReadsModel", "check", "()I"⟩
abbrev w_Mod_check : List Cond := Cond.code y_Mod_check b_Mod_check 1 (some .int) :: tb
abbrev b_Mod_touches : ByteArray := prog_8_method_18_code
abbrev y_Mod_touches : MethodName := ⟨"BinnedReadsModel", "touches", "(III)Z"⟩
abbrev w_Mod_touches : List Cond := Cond.code y_Mod_touches b_Mod_touches 5 (some .boolean) :: tb
abbrev b_Mod_hurt : ByteArray := prog_8_method_19_code
abbrev y_Mod_hurt : MethodName := ⟨"BinnedReadsModel", "hurt", "(I)Z"⟩
abbrev w_Mod_hurt : List Cond := Cond.code y_Mod_hurt b_Mod_hurt 3 (some .boolean) :: tb
abbrev b_Mod_firstBehind : ByteArray := prog_8_method_20_code
abbrev y_Mod_firstBehind : MethodName := ⟨"BinnedReadsModel", "firstBehind", "(II)I"⟩
abbrev w_Mod_firstBehind : List Cond := Cond.code y_Mod_firstBehind b_Mod_firstBehind 4 (some .int) :: tb
abbrev b_Mod_query : ByteArray := prog_8_method_21_code
abbrev y_Mod_query : MethodName := ⟨"BinnedReadsModel", "query", "(III)I"⟩
abbrev w_Mod_query : List Cond := Cond.code y_Mod_query b_Mod_query 8 (some .int) :: tb
abbrev b_Mod_looked : ByteArray := prog_8_method_22_code
abbrev y_Mod_looked : MethodName := ⟨"BinnedReadsModel", "looked", "()I"⟩
abbrev w_Mod_looked : List Cond := Cond.code y_Mod_looked b_Mod_looked 1 (some .int) :: tb
abbrev b_Mod_found : ByteArray := prog_8_method_23_code
abbrev y_Mod_found : MethodName := ⟨"BinnedReadsModel", "found", "(II)I"⟩
abbrev w_Mod_found : List Cond := Cond.code y_Mod_found b_Mod_found 4 (some .int) :: tb
abbrev b_Mod_foundOp : ByteArray := prog_8_method_24_code
abbrev y_Mod_foundOp : MethodName := ⟨"BinnedReadsModel", "foundOp", "(II)I"⟩
abbrev w_Mod_foundOp : List Cond := Cond.code y_Mod_foundOp b_Mod_foundOp 3 (some .int) :: tb
abbrev b_Mod_foundBase : ByteArray := prog_8_method_25_code
abbrev y_Mod_foundBase : MethodName := ⟨"BinnedReadsModel", "foundBase", "(II)I"⟩
abbrev w_Mod_foundBase : List Cond := Cond.code y_Mod_foundBase b_Mod_foundBase 3 (some .int) :: tb
abbrev b_Law_law : ByteArray := code
abbrev y_Law_law : MethodName := ⟨"BinnedReadsLaw", "law", "([I)Z"⟩
end
section
theorem d_Disk_init_0 : decode b_Disk_init 0 = .ok (.aload_n 0, 1) := by decide +kernel
theorem d_Disk_init_1 : decode b_Disk_init 1 = .ok (.invokespecial 3, 3) := by decide +kernel
theorem d_Disk_init_4 : decode b_Disk_init 4 = .ok (.aload_n 0, 1) := by decide +kernel
theorem d_Disk_init_5 : decode b_Disk_init 5 = .ok (.sipush 693, 3) := by decide +kernel
theorem d_Disk_init_8 : decode b_Disk_init 8 = .ok (.newarray .int, 2) := by decide +kernel
theorem d_Disk_init_10 : decode b_Disk_init 10 = .ok (.putfield 9, 3) := by decide +kernel
theorem d_Disk_init_13 : decode b_Disk_init 13 = .ok (.aload_n 0, 1) := by decide +kernel
theorem d_Disk_init_14 : decode b_Disk_init 14 = .ok (.bipush 15, 2) := by decide +kernel
theorem d_Disk_init_16 : decode b_Disk_init 16 = .ok (.newarray .int, 2) := by decide +kernel
theorem d_Disk_init_18 : decode b_Disk_init 18 = .ok (.putfield 15, 3) := by decide +kernel
theorem d_Disk_init_21 : decode b_Disk_init 21 = .ok (.aload_n 0, 1) := by decide +kernel
theorem d_Disk_init_22 : decode b_Disk_init 22 = .ok (.iconst (-1), 1) := by decide +kernel
theorem d_Disk_init_23 : decode b_Disk_init 23 = .ok (.putfield 18, 3) := by decide +kernel
theorem d_Disk_init_26 : decode b_Disk_init 26 = .ok (.return_, 1) := by decide +kernel
theorem d_Disk_empty_0 : decode b_Disk_empty 0 = .ok (.aload_n 0, 1) := by decide +kernel
theorem d_Disk_empty_1 : decode b_Disk_empty 1 = .ok (.iconst 0, 1) := by decide +kernel
theorem d_Disk_empty_2 : decode b_Disk_empty 2 = .ok (.putfield 22, 3) := by decide +kernel
theorem d_Disk_empty_5 : decode b_Disk_empty 5 = .ok (.aload_n 0, 1) := by decide +kernel
theorem d_Disk_empty_6 : decode b_Disk_empty 6 = .ok (.iconst 0, 1) := by decide +kernel
theorem d_Disk_empty_7 : decode b_Disk_empty 7 = .ok (.putfield 25, 3) := by decide +kernel
theorem d_Disk_empty_10 : decode b_Disk_empty 10 = .ok (.aload_n 0, 1) := by decide +kernel
theorem d_Disk_empty_11 : decode b_Disk_empty 11 = .ok (.iconst (-1), 1) := by decide +kernel
theorem d_Disk_empty_12 : decode b_Disk_empty 12 = .ok (.putfield 18, 3) := by decide +kernel
theorem d_Disk_empty_15 : decode b_Disk_empty 15 = .ok (.return_, 1) := by decide +kernel
theorem d_Disk_isWritten_0 : decode b_Disk_isWritten 0 = .ok (.aload_n 0, 1) := by decide +kernel
theorem d_Disk_isWritten_1 : decode b_Disk_isWritten 1 = .ok (.getfield 22, 3) := by decide +kernel
theorem d_Disk_isWritten_4 : decode b_Disk_isWritten 4 = .ok (.ifCond .le 7, 3) := by decide +kernel
theorem d_Disk_isWritten_7 : decode b_Disk_isWritten 7 = .ok (.iconst 1, 1) := by decide +kernel
theorem d_Disk_isWritten_8 : decode b_Disk_isWritten 8 = .ok (.goto 4, 3) := by decide +kernel
theorem d_Disk_isWritten_11 : decode b_Disk_isWritten 11 = .ok (.iconst 0, 1) := by decide +kernel
theorem d_Disk_isWritten_12 : decode b_Disk_isWritten 12 = .ok (.ireturn, 1) := by decide +kernel
theorem d_Disk_write_0 : decode b_Disk_write 0 = .ok (.iconst 0, 1) := by decide +kernel
theorem d_Disk_write_1 : decode b_Disk_write 1 = .ok (.istore_n 2, 1) := by decide +kernel
theorem d_Disk_write_2 : decode b_Disk_write 2 = .ok (.iload_n 2, 1) := by decide +kernel
theorem d_Disk_write_3 : decode b_Disk_write 3 = .ok (.aload_n 1, 1) := by decide +kernel
theorem d_Disk_write_4 : decode b_Disk_write 4 = .ok (.getfield 28, 3) := by decide +kernel
theorem d_Disk_write_7 : decode b_Disk_write 7 = .ok (.if_icmp .ge 26, 3) := by decide +kernel
theorem d_Disk_write_10 : decode b_Disk_write 10 = .ok (.aload_n 0, 1) := by decide +kernel
theorem d_Disk_write_11 : decode b_Disk_write 11 = .ok (.aload_n 1, 1) := by decide +kernel
theorem d_Disk_write_12 : decode b_Disk_write 12 = .ok (.iload_n 2, 1) := by decide +kernel
theorem d_Disk_write_13 : decode b_Disk_write 13 = .ok (.bipush 40, 2) := by decide +kernel
theorem d_Disk_write_15 : decode b_Disk_write 15 = .ok (.aload_n 1, 1) := by decide +kernel
theorem d_Disk_write_16 : decode b_Disk_write 16 = .ok (.getfield 28, 3) := by decide +kernel
theorem d_Disk_write_19 : decode b_Disk_write 19 = .ok (.iload_n 2, 1) := by decide +kernel
theorem d_Disk_write_20 : decode b_Disk_write 20 = .ok (.isub, 1) := by decide +kernel
theorem d_Disk_write_21 : decode b_Disk_write 21 = .ok (.invokestatic 33, 3) := by decide +kernel
theorem d_Disk_write_24 : decode b_Disk_write 24 = .ok (.invokevirtual 39, 3) := by decide +kernel
theorem d_Disk_write_27 : decode b_Disk_write 27 = .ok (.iinc 2 40, 3) := by decide +kernel
theorem d_Disk_write_30 : decode b_Disk_write 30 = .ok (.goto (-28), 3) := by decide +kernel
theorem d_Disk_write_33 : decode b_Disk_write 33 = .ok (.aload_n 0, 1) := by decide +kernel
theorem d_Disk_write_34 : decode b_Disk_write 34 = .ok (.aload_n 1, 1) := by decide +kernel
theorem d_Disk_write_35 : decode b_Disk_write 35 = .ok (.aload_n 1, 1) := by decide +kernel
theorem d_Disk_write_36 : decode b_Disk_write 36 = .ok (.getfield 28, 3) := by decide +kernel
theorem d_Disk_write_39 : decode b_Disk_write 39 = .ok (.iconst 0, 1) := by decide +kernel
theorem d_Disk_write_40 : decode b_Disk_write 40 = .ok (.invokevirtual 39, 3) := by decide +kernel
theorem d_Disk_write_43 : decode b_Disk_write 43 = .ok (.return_, 1) := by decide +kernel
theorem d_Disk_at_0 : decode b_Disk_at 0 = .ok (.iload_n 1, 1) := by decide +kernel
theorem d_Disk_at_1 : decode b_Disk_at 1 = .ok (.ifCond .lt 11, 3) := by decide +kernel
theorem d_Disk_at_4 : decode b_Disk_at 4 = .ok (.iload_n 1, 1) := by decide +kernel
theorem d_Disk_at_5 : decode b_Disk_at 5 = .ok (.aload_n 0, 1) := by decide +kernel
theorem d_Disk_at_6 : decode b_Disk_at 6 = .ok (.getfield 22, 3) := by decide +kernel
theorem d_Disk_at_9 : decode b_Disk_at 9 = .ok (.if_icmp .lt 7, 3) := by decide +kernel
theorem d_Disk_at_12 : decode b_Disk_at 12 = .ok (.iconst (-1), 1) := by decide +kernel
theorem d_Disk_at_13 : decode b_Disk_at 13 = .ok (.goto 9, 3) := by decide +kernel
theorem d_Disk_at_16 : decode b_Disk_at 16 = .ok (.aload_n 0, 1) := by decide +kernel
theorem d_Disk_at_17 : decode b_Disk_at 17 = .ok (.getfield 9, 3) := by decide +kernel
theorem d_Disk_at_20 : decode b_Disk_at 20 = .ok (.iload_n 1, 1) := by decide +kernel
theorem d_Disk_at_21 : decode b_Disk_at 21 = .ok (.iaload, 1) := by decide +kernel
theorem d_Disk_at_22 : decode b_Disk_at 22 = .ok (.ireturn, 1) := by decide +kernel
theorem d_Disk_turnBit_0 : decode b_Disk_turnBit 0 = .ok (.iload_n 1, 1) := by decide +kernel
theorem d_Disk_turnBit_1 : decode b_Disk_turnBit 1 = .ok (.ifCond .lt 21, 3) := by decide +kernel
theorem d_Disk_turnBit_4 : decode b_Disk_turnBit 4 = .ok (.iload_n 1, 1) := by decide +kernel
theorem d_Disk_turnBit_5 : decode b_Disk_turnBit 5 = .ok (.aload_n 0, 1) := by decide +kernel
theorem d_Disk_turnBit_6 : decode b_Disk_turnBit 6 = .ok (.getfield 22, 3) := by decide +kernel
theorem d_Disk_turnBit_9 : decode b_Disk_turnBit 9 = .ok (.if_icmp .ge 13, 3) := by decide +kernel
theorem d_Disk_turnBit_12 : decode b_Disk_turnBit 12 = .ok (.iload_n 2, 1) := by decide +kernel
theorem d_Disk_turnBit_13 : decode b_Disk_turnBit 13 = .ok (.ifCond .lt 9, 3) := by decide +kernel
theorem d_Disk_turnBit_16 : decode b_Disk_turnBit 16 = .ok (.iload_n 2, 1) := by decide +kernel
theorem d_Disk_turnBit_17 : decode b_Disk_turnBit 17 = .ok (.bipush 7, 2) := by decide +kernel
theorem d_Disk_turnBit_19 : decode b_Disk_turnBit 19 = .ok (.if_icmp .le 5, 3) := by decide +kernel
theorem d_Disk_turnBit_22 : decode b_Disk_turnBit 22 = .ok (.iconst 0, 1) := by decide +kernel
theorem d_Disk_turnBit_23 : decode b_Disk_turnBit 23 = .ok (.ireturn, 1) := by decide +kernel
theorem d_Disk_turnBit_24 : decode b_Disk_turnBit 24 = .ok (.bipush 8, 2) := by decide +kernel
theorem d_Disk_turnBit_26 : decode b_Disk_turnBit 26 = .ok (.iload_n 1, 1) := by decide +kernel
theorem d_Disk_turnBit_27 : decode b_Disk_turnBit 27 = .ok (.imul, 1) := by decide +kernel
theorem d_Disk_turnBit_28 : decode b_Disk_turnBit 28 = .ok (.iload_n 2, 1) := by decide +kernel
theorem d_Disk_turnBit_29 : decode b_Disk_turnBit 29 = .ok (.iadd, 1) := by decide +kernel
theorem d_Disk_turnBit_30 : decode b_Disk_turnBit 30 = .ok (.istore_n 3, 1) := by decide +kernel
theorem d_Disk_turnBit_31 : decode b_Disk_turnBit 31 = .ok (.aload_n 0, 1) := by decide +kernel
theorem d_Disk_turnBit_32 : decode b_Disk_turnBit 32 = .ok (.getfield 18, 3) := by decide +kernel
theorem d_Disk_turnBit_35 : decode b_Disk_turnBit 35 = .ok (.iconst (-1), 1) := by decide +kernel
theorem d_Disk_turnBit_36 : decode b_Disk_turnBit 36 = .ok (.if_icmp .eq 13, 3) := by decide +kernel
theorem d_Disk_turnBit_39 : decode b_Disk_turnBit 39 = .ok (.aload_n 0, 1) := by decide +kernel
theorem d_Disk_turnBit_40 : decode b_Disk_turnBit 40 = .ok (.getfield 18, 3) := by decide +kernel
theorem d_Disk_turnBit_43 : decode b_Disk_turnBit 43 = .ok (.iload_n 3, 1) := by decide +kernel
theorem d_Disk_turnBit_44 : decode b_Disk_turnBit 44 = .ok (.if_icmp .eq 5, 3) := by decide +kernel
theorem d_Disk_turnBit_47 : decode b_Disk_turnBit 47 = .ok (.iconst 0, 1) := by decide +kernel
theorem d_Disk_turnBit_48 : decode b_Disk_turnBit 48 = .ok (.ireturn, 1) := by decide +kernel
theorem d_Disk_turnBit_49 : decode b_Disk_turnBit 49 = .ok (.aload_n 0, 1) := by decide +kernel
theorem d_Disk_turnBit_50 : decode b_Disk_turnBit 50 = .ok (.getfield 9, 3) := by decide +kernel
theorem d_Disk_turnBit_53 : decode b_Disk_turnBit 53 = .ok (.iload_n 1, 1) := by decide +kernel
theorem d_Disk_turnBit_54 : decode b_Disk_turnBit 54 = .ok (.dup2, 1) := by decide +kernel
theorem d_Disk_turnBit_55 : decode b_Disk_turnBit 55 = .ok (.iaload, 1) := by decide +kernel
theorem d_Disk_turnBit_56 : decode b_Disk_turnBit 56 = .ok (.iconst 1, 1) := by decide +kernel
theorem d_Disk_turnBit_57 : decode b_Disk_turnBit 57 = .ok (.iload_n 2, 1) := by decide +kernel
theorem d_Disk_turnBit_58 : decode b_Disk_turnBit 58 = .ok (.ishl, 1) := by decide +kernel
theorem d_Disk_turnBit_59 : decode b_Disk_turnBit 59 = .ok (.ixor, 1) := by decide +kernel
theorem d_Disk_turnBit_60 : decode b_Disk_turnBit 60 = .ok (.iastore, 1) := by decide +kernel
theorem d_Disk_turnBit_61 : decode b_Disk_turnBit 61 = .ok (.aload_n 0, 1) := by decide +kernel
theorem d_Disk_turnBit_62 : decode b_Disk_turnBit 62 = .ok (.aload_n 0, 1) := by decide +kernel
theorem d_Disk_turnBit_63 : decode b_Disk_turnBit 63 = .ok (.getfield 18, 3) := by decide +kernel
theorem d_Disk_turnBit_66 : decode b_Disk_turnBit 66 = .ok (.iconst (-1), 1) := by decide +kernel
theorem d_Disk_turnBit_67 : decode b_Disk_turnBit 67 = .ok (.if_icmp .ne 7, 3) := by decide +kernel
theorem d_Disk_turnBit_70 : decode b_Disk_turnBit 70 = .ok (.iload_n 3, 1) := by decide +kernel
theorem d_Disk_turnBit_71 : decode b_Disk_turnBit 71 = .ok (.goto 4, 3) := by decide +kernel
theorem d_Disk_turnBit_74 : decode b_Disk_turnBit 74 = .ok (.iconst (-1), 1) := by decide +kernel
theorem d_Disk_turnBit_75 : decode b_Disk_turnBit 75 = .ok (.putfield 18, 3) := by decide +kernel
theorem d_Disk_turnBit_78 : decode b_Disk_turnBit 78 = .ok (.iconst 1, 1) := by decide +kernel
theorem d_Disk_turnBit_79 : decode b_Disk_turnBit 79 = .ok (.ireturn, 1) := by decide +kernel
theorem d_Disk_areSound_0 : decode b_Disk_areSound 0 = .ok (.iload_n 1, 1) := by decide +kernel
theorem d_Disk_areSound_1 : decode b_Disk_areSound 1 = .ok (.istore_n 3, 1) := by decide +kernel
theorem d_Disk_areSound_2 : decode b_Disk_areSound 2 = .ok (.iload_n 3, 1) := by decide +kernel
theorem d_Disk_areSound_3 : decode b_Disk_areSound 3 = .ok (.iload_n 2, 1) := by decide +kernel
theorem d_Disk_areSound_4 : decode b_Disk_areSound 4 = .ok (.if_icmp .gt 19, 3) := by decide +kernel
theorem d_Disk_areSound_7 : decode b_Disk_areSound 7 = .ok (.aload_n 0, 1) := by decide +kernel
theorem d_Disk_areSound_8 : decode b_Disk_areSound 8 = .ok (.iload_n 3, 1) := by decide +kernel
theorem d_Disk_areSound_9 : decode b_Disk_areSound 9 = .ok (.invokevirtual 43, 3) := by decide +kernel
theorem d_Disk_areSound_12 : decode b_Disk_areSound 12 = .ok (.ifCond .ne 5, 3) := by decide +kernel
theorem d_Disk_areSound_15 : decode b_Disk_areSound 15 = .ok (.iconst 0, 1) := by decide +kernel
theorem d_Disk_areSound_16 : decode b_Disk_areSound 16 = .ok (.ireturn, 1) := by decide +kernel
theorem d_Disk_areSound_17 : decode b_Disk_areSound 17 = .ok (.iinc 3 1, 3) := by decide +kernel
theorem d_Disk_areSound_20 : decode b_Disk_areSound 20 = .ok (.goto (-18), 3) := by decide +kernel
theorem d_Disk_areSound_23 : decode b_Disk_areSound 23 = .ok (.iconst 1, 1) := by decide +kernel
theorem d_Disk_areSound_24 : decode b_Disk_areSound 24 = .ok (.ireturn, 1) := by decide +kernel
theorem d_Disk_streamByte_0 : decode b_Disk_streamByte 0 = .ok (.iload_n 1, 1) := by decide +kernel
theorem d_Disk_streamByte_1 : decode b_Disk_streamByte 1 = .ok (.bipush 40, 2) := by decide +kernel
theorem d_Disk_streamByte_3 : decode b_Disk_streamByte 3 = .ok (.idiv, 1) := by decide +kernel
theorem d_Disk_streamByte_4 : decode b_Disk_streamByte 4 = .ok (.istore_n 2, 1) := by decide +kernel
theorem d_Disk_streamByte_5 : decode b_Disk_streamByte 5 = .ok (.iload_n 1, 1) := by decide +kernel
theorem d_Disk_streamByte_6 : decode b_Disk_streamByte 6 = .ok (.ifCond .lt 11, 3) := by decide +kernel
theorem d_Disk_streamByte_9 : decode b_Disk_streamByte 9 = .ok (.iload_n 2, 1) := by decide +kernel
theorem d_Disk_streamByte_10 : decode b_Disk_streamByte 10 = .ok (.aload_n 0, 1) := by decide +kernel
theorem d_Disk_streamByte_11 : decode b_Disk_streamByte 11 = .ok (.getfield 25, 3) := by decide +kernel
theorem d_Disk_streamByte_14 : decode b_Disk_streamByte 14 = .ok (.if_icmp .lt 5, 3) := by decide +kernel
theorem d_Disk_streamByte_17 : decode b_Disk_streamByte 17 = .ok (.iconst 0, 1) := by decide +kernel
theorem d_Disk_streamByte_18 : decode b_Disk_streamByte 18 = .ok (.ireturn, 1) := by decide +kernel
theorem d_Disk_streamByte_19 : decode b_Disk_streamByte 19 = .ok (.iconst 0, 1) := by decide +kernel
theorem d_Disk_streamByte_20 : decode b_Disk_streamByte 20 = .ok (.aload_n 0, 1) := by decide +kernel
theorem d_Disk_streamByte_21 : decode b_Disk_streamByte 21 = .ok (.aload_n 0, 1) := by decide +kernel
theorem d_Disk_streamByte_22 : decode b_Disk_streamByte 22 = .ok (.getfield 15, 3) := by decide +kernel
theorem d_Disk_streamByte_25 : decode b_Disk_streamByte 25 = .ok (.iload_n 2, 1) := by decide +kernel
theorem d_Disk_streamByte_26 : decode b_Disk_streamByte 26 = .ok (.iaload, 1) := by decide +kernel
theorem d_Disk_streamByte_27 : decode b_Disk_streamByte 27 = .ok (.bipush 7, 2) := by decide +kernel
theorem d_Disk_streamByte_29 : decode b_Disk_streamByte 29 = .ok (.iadd, 1) := by decide +kernel
theorem d_Disk_streamByte_30 : decode b_Disk_streamByte 30 = .ok (.iload_n 1, 1) := by decide +kernel
theorem d_Disk_streamByte_31 : decode b_Disk_streamByte 31 = .ok (.bipush 40, 2) := by decide +kernel
theorem d_Disk_streamByte_33 : decode b_Disk_streamByte 33 = .ok (.irem, 1) := by decide +kernel
theorem d_Disk_streamByte_34 : decode b_Disk_streamByte 34 = .ok (.iadd, 1) := by decide +kernel
theorem d_Disk_streamByte_35 : decode b_Disk_streamByte 35 = .ok (.invokevirtual 47, 3) := by decide +kernel
theorem d_Disk_streamByte_38 : decode b_Disk_streamByte 38 = .ok (.invokestatic 51, 3) := by decide +kernel
theorem d_Disk_streamByte_41 : decode b_Disk_streamByte 41 = .ok (.ireturn, 1) := by decide +kernel
theorem d_Disk_offsetOf_0 : decode b_Disk_offsetOf 0 = .ok (.iload_n 1, 1) := by decide +kernel
theorem d_Disk_offsetOf_1 : decode b_Disk_offsetOf 1 = .ok (.bipush 40, 2) := by decide +kernel
theorem d_Disk_offsetOf_3 : decode b_Disk_offsetOf 3 = .ok (.idiv, 1) := by decide +kernel
theorem d_Disk_offsetOf_4 : decode b_Disk_offsetOf 4 = .ok (.istore_n 2, 1) := by decide +kernel
theorem d_Disk_offsetOf_5 : decode b_Disk_offsetOf 5 = .ok (.iload_n 1, 1) := by decide +kernel
theorem d_Disk_offsetOf_6 : decode b_Disk_offsetOf 6 = .ok (.ifCond .lt 11, 3) := by decide +kernel
theorem d_Disk_offsetOf_9 : decode b_Disk_offsetOf 9 = .ok (.iload_n 2, 1) := by decide +kernel
theorem d_Disk_offsetOf_10 : decode b_Disk_offsetOf 10 = .ok (.aload_n 0, 1) := by decide +kernel
theorem d_Disk_offsetOf_11 : decode b_Disk_offsetOf 11 = .ok (.getfield 25, 3) := by decide +kernel
theorem d_Disk_offsetOf_14 : decode b_Disk_offsetOf 14 = .ok (.if_icmp .lt 5, 3) := by decide +kernel
theorem d_Disk_offsetOf_17 : decode b_Disk_offsetOf 17 = .ok (.iconst (-1), 1) := by decide +kernel
theorem d_Disk_offsetOf_18 : decode b_Disk_offsetOf 18 = .ok (.ireturn, 1) := by decide +kernel
theorem d_Disk_offsetOf_19 : decode b_Disk_offsetOf 19 = .ok (.bipush 64, 2) := by decide +kernel
theorem d_Disk_offsetOf_21 : decode b_Disk_offsetOf 21 = .ok (.aload_n 0, 1) := by decide +kernel
theorem d_Disk_offsetOf_22 : decode b_Disk_offsetOf 22 = .ok (.getfield 15, 3) := by decide +kernel
theorem d_Disk_offsetOf_25 : decode b_Disk_offsetOf 25 = .ok (.iload_n 2, 1) := by decide +kernel
theorem d_Disk_offsetOf_26 : decode b_Disk_offsetOf 26 = .ok (.iaload, 1) := by decide +kernel
theorem d_Disk_offsetOf_27 : decode b_Disk_offsetOf 27 = .ok (.imul, 1) := by decide +kernel
theorem d_Disk_offsetOf_28 : decode b_Disk_offsetOf 28 = .ok (.iload_n 1, 1) := by decide +kernel
theorem d_Disk_offsetOf_29 : decode b_Disk_offsetOf 29 = .ok (.bipush 40, 2) := by decide +kernel
theorem d_Disk_offsetOf_31 : decode b_Disk_offsetOf 31 = .ok (.irem, 1) := by decide +kernel
theorem d_Disk_offsetOf_32 : decode b_Disk_offsetOf 32 = .ok (.iadd, 1) := by decide +kernel
theorem d_Disk_offsetOf_33 : decode b_Disk_offsetOf 33 = .ok (.ireturn, 1) := by decide +kernel
theorem d_Disk_appendBlock_0 : decode b_Disk_appendBlock 0 = .ok (.aload_n 0, 1) := by decide +kernel
theorem d_Disk_appendBlock_1 : decode b_Disk_appendBlock 1 = .ok (.getfield 25, 3) := by decide +kernel
theorem d_Disk_appendBlock_4 : decode b_Disk_appendBlock 4 = .ok (.aload_n 0, 1) := by decide +kernel
theorem d_Disk_appendBlock_5 : decode b_Disk_appendBlock 5 = .ok (.getfield 15, 3) := by decide +kernel
theorem d_Disk_appendBlock_8 : decode b_Disk_appendBlock 8 = .ok (.arraylength, 1) := by decide +kernel
theorem d_Disk_appendBlock_9 : decode b_Disk_appendBlock 9 = .ok (.if_icmp .ge 23, 3) := by decide +kernel
theorem d_Disk_appendBlock_12 : decode b_Disk_appendBlock 12 = .ok (.aload_n 0, 1) := by decide +kernel
theorem d_Disk_appendBlock_13 : decode b_Disk_appendBlock 13 = .ok (.getfield 15, 3) := by decide +kernel
theorem d_Disk_appendBlock_16 : decode b_Disk_appendBlock 16 = .ok (.aload_n 0, 1) := by decide +kernel
theorem d_Disk_appendBlock_17 : decode b_Disk_appendBlock 17 = .ok (.dup, 1) := by decide +kernel
theorem d_Disk_appendBlock_18 : decode b_Disk_appendBlock 18 = .ok (.getfield 25, 3) := by decide +kernel
theorem d_Disk_appendBlock_21 : decode b_Disk_appendBlock 21 = .ok (.dup_x1, 1) := by decide +kernel
theorem d_Disk_appendBlock_22 : decode b_Disk_appendBlock 22 = .ok (.iconst 1, 1) := by decide +kernel
theorem d_Disk_appendBlock_23 : decode b_Disk_appendBlock 23 = .ok (.iadd, 1) := by decide +kernel
theorem d_Disk_appendBlock_24 : decode b_Disk_appendBlock 24 = .ok (.putfield 25, 3) := by decide +kernel
theorem d_Disk_appendBlock_27 : decode b_Disk_appendBlock 27 = .ok (.aload_n 0, 1) := by decide +kernel
theorem d_Disk_appendBlock_28 : decode b_Disk_appendBlock 28 = .ok (.getfield 22, 3) := by decide +kernel
theorem d_Disk_appendBlock_31 : decode b_Disk_appendBlock 31 = .ok (.iastore, 1) := by decide +kernel
theorem d_Disk_appendBlock_32 : decode b_Disk_appendBlock 32 = .ok (.aload_n 0, 1) := by decide +kernel
theorem d_Disk_appendBlock_33 : decode b_Disk_appendBlock 33 = .ok (.bipush 31, 2) := by decide +kernel
theorem d_Disk_appendBlock_35 : decode b_Disk_appendBlock 35 = .ok (.invokevirtual 54, 3) := by decide +kernel
theorem d_Disk_appendBlock_38 : decode b_Disk_appendBlock 38 = .ok (.aload_n 0, 1) := by decide +kernel
theorem d_Disk_appendBlock_39 : decode b_Disk_appendBlock 39 = .ok (.sipush 139, 3) := by decide +kernel
theorem d_Disk_appendBlock_42 : decode b_Disk_appendBlock 42 = .ok (.invokevirtual 54, 3) := by decide +kernel
theorem d_Disk_appendBlock_45 : decode b_Disk_appendBlock 45 = .ok (.aload_n 0, 1) := by decide +kernel
theorem d_Disk_appendBlock_46 : decode b_Disk_appendBlock 46 = .ok (.iconst 1, 1) := by decide +kernel
theorem d_Disk_appendBlock_47 : decode b_Disk_appendBlock 47 = .ok (.invokevirtual 54, 3) := by decide +kernel
theorem d_Disk_appendBlock_50 : decode b_Disk_appendBlock 50 = .ok (.aload_n 0, 1) := by decide +kernel
theorem d_Disk_appendBlock_51 : decode b_Disk_appendBlock 51 = .ok (.iload_n 3, 1) := by decide +kernel
theorem d_Disk_appendBlock_52 : decode b_Disk_appendBlock 52 = .ok (.iconst 2, 1) := by decide +kernel
theorem d_Disk_appendBlock_53 : decode b_Disk_appendBlock 53 = .ok (.invokevirtual 58, 3) := by decide +kernel
theorem d_Disk_appendBlock_56 : decode b_Disk_appendBlock 56 = .ok (.aload_n 0, 1) := by decide +kernel
theorem d_Disk_appendBlock_57 : decode b_Disk_appendBlock 57 = .ok (.iload_n 3, 1) := by decide +kernel
theorem d_Disk_appendBlock_58 : decode b_Disk_appendBlock 58 = .ok (.iconst (-1), 1) := by decide +kernel
theorem d_Disk_appendBlock_59 : decode b_Disk_appendBlock 59 = .ok (.ixor, 1) := by decide +kernel
theorem d_Disk_appendBlock_60 : decode b_Disk_appendBlock 60 = .ok (.iconst 2, 1) := by decide +kernel
theorem d_Disk_appendBlock_61 : decode b_Disk_appendBlock 61 = .ok (.invokevirtual 58, 3) := by decide +kernel
theorem d_Disk_appendBlock_64 : decode b_Disk_appendBlock 64 = .ok (.aload_n 0, 1) := by decide +kernel
theorem d_Disk_appendBlock_65 : decode b_Disk_appendBlock 65 = .ok (.getfield 22, 3) := by decide +kernel
theorem d_Disk_appendBlock_68 : decode b_Disk_appendBlock 68 = .ok (.istore 4, 2) := by decide +kernel
theorem d_Disk_appendBlock_70 : decode b_Disk_appendBlock 70 = .ok (.iload_n 2, 1) := by decide +kernel
theorem d_Disk_appendBlock_71 : decode b_Disk_appendBlock 71 = .ok (.istore 5, 2) := by decide +kernel
theorem d_Disk_appendBlock_73 : decode b_Disk_appendBlock 73 = .ok (.iload 5, 2) := by decide +kernel
theorem d_Disk_appendBlock_75 : decode b_Disk_appendBlock 75 = .ok (.iload_n 2, 1) := by decide +kernel
theorem d_Disk_appendBlock_76 : decode b_Disk_appendBlock 76 = .ok (.iload_n 3, 1) := by decide +kernel
theorem d_Disk_appendBlock_77 : decode b_Disk_appendBlock 77 = .ok (.iadd, 1) := by decide +kernel
theorem d_Disk_appendBlock_78 : decode b_Disk_appendBlock 78 = .ok (.if_icmp .ge 29, 3) := by decide +kernel
theorem d_Disk_appendBlock_81 : decode b_Disk_appendBlock 81 = .ok (.iload 5, 2) := by decide +kernel
theorem d_Disk_appendBlock_83 : decode b_Disk_appendBlock 83 = .ok (.aload_n 1, 1) := by decide +kernel
theorem d_Disk_appendBlock_84 : decode b_Disk_appendBlock 84 = .ok (.getfield 28, 3) := by decide +kernel
theorem d_Disk_appendBlock_87 : decode b_Disk_appendBlock 87 = .ok (.if_icmp .ge 20, 3) := by decide +kernel
theorem d_Disk_appendBlock_90 : decode b_Disk_appendBlock 90 = .ok (.aload_n 0, 1) := by decide +kernel
theorem d_Disk_appendBlock_91 : decode b_Disk_appendBlock 91 = .ok (.aload_n 1, 1) := by decide +kernel
theorem d_Disk_appendBlock_92 : decode b_Disk_appendBlock 92 = .ok (.getfield 62, 3) := by decide +kernel
theorem d_Disk_appendBlock_95 : decode b_Disk_appendBlock 95 = .ok (.iload 5, 2) := by decide +kernel
theorem d_Disk_appendBlock_97 : decode b_Disk_appendBlock 97 = .ok (.iaload, 1) := by decide +kernel
theorem d_Disk_appendBlock_98 : decode b_Disk_appendBlock 98 = .ok (.invokevirtual 54, 3) := by decide +kernel
theorem d_Disk_appendBlock_101 : decode b_Disk_appendBlock 101 = .ok (.iinc 5 1, 3) := by decide +kernel
theorem d_Disk_appendBlock_104 : decode b_Disk_appendBlock 104 = .ok (.goto (-31), 3) := by decide +kernel
theorem d_Disk_appendBlock_107 : decode b_Disk_appendBlock 107 = .ok (.aload_n 0, 1) := by decide +kernel
theorem d_Disk_appendBlock_108 : decode b_Disk_appendBlock 108 = .ok (.aload_n 0, 1) := by decide +kernel
theorem d_Disk_appendBlock_109 : decode b_Disk_appendBlock 109 = .ok (.iload 4, 2) := by decide +kernel
theorem d_Disk_appendBlock_111 : decode b_Disk_appendBlock 111 = .ok (.iload_n 3, 1) := by decide +kernel
theorem d_Disk_appendBlock_112 : decode b_Disk_appendBlock 112 = .ok (.invokevirtual 63, 3) := by decide +kernel
theorem d_Disk_appendBlock_115 : decode b_Disk_appendBlock 115 = .ok (.iconst 4, 1) := by decide +kernel
theorem d_Disk_appendBlock_116 : decode b_Disk_appendBlock 116 = .ok (.invokevirtual 58, 3) := by decide +kernel
theorem d_Disk_appendBlock_119 : decode b_Disk_appendBlock 119 = .ok (.return_, 1) := by decide +kernel
theorem d_Disk_appendNumber_0 : decode b_Disk_appendNumber 0 = .ok (.iconst 0, 1) := by decide +kernel
theorem d_Disk_appendNumber_1 : decode b_Disk_appendNumber 1 = .ok (.istore_n 3, 1) := by decide +kernel
theorem d_Disk_appendNumber_2 : decode b_Disk_appendNumber 2 = .ok (.iload_n 3, 1) := by decide +kernel
theorem d_Disk_appendNumber_3 : decode b_Disk_appendNumber 3 = .ok (.iload_n 2, 1) := by decide +kernel
theorem d_Disk_appendNumber_4 : decode b_Disk_appendNumber 4 = .ok (.if_icmp .ge 23, 3) := by decide +kernel
theorem d_Disk_appendNumber_7 : decode b_Disk_appendNumber 7 = .ok (.aload_n 0, 1) := by decide +kernel
theorem d_Disk_appendNumber_8 : decode b_Disk_appendNumber 8 = .ok (.iload_n 1, 1) := by decide +kernel
theorem d_Disk_appendNumber_9 : decode b_Disk_appendNumber 9 = .ok (.bipush 8, 2) := by decide +kernel
theorem d_Disk_appendNumber_11 : decode b_Disk_appendNumber 11 = .ok (.iload_n 3, 1) := by decide +kernel
theorem d_Disk_appendNumber_12 : decode b_Disk_appendNumber 12 = .ok (.imul, 1) := by decide +kernel
theorem d_Disk_appendNumber_13 : decode b_Disk_appendNumber 13 = .ok (.iushr, 1) := by decide +kernel
theorem d_Disk_appendNumber_14 : decode b_Disk_appendNumber 14 = .ok (.sipush 255, 3) := by decide +kernel
theorem d_Disk_appendNumber_17 : decode b_Disk_appendNumber 17 = .ok (.iand, 1) := by decide +kernel
theorem d_Disk_appendNumber_18 : decode b_Disk_appendNumber 18 = .ok (.invokevirtual 54, 3) := by decide +kernel
theorem d_Disk_appendNumber_21 : decode b_Disk_appendNumber 21 = .ok (.iinc 3 1, 3) := by decide +kernel
theorem d_Disk_appendNumber_24 : decode b_Disk_appendNumber 24 = .ok (.goto (-22), 3) := by decide +kernel
theorem d_Disk_appendNumber_27 : decode b_Disk_appendNumber 27 = .ok (.return_, 1) := by decide +kernel
theorem d_Disk_appendByte_0 : decode b_Disk_appendByte 0 = .ok (.aload_n 0, 1) := by decide +kernel
theorem d_Disk_appendByte_1 : decode b_Disk_appendByte 1 = .ok (.getfield 22, 3) := by decide +kernel
theorem d_Disk_appendByte_4 : decode b_Disk_appendByte 4 = .ok (.aload_n 0, 1) := by decide +kernel
theorem d_Disk_appendByte_5 : decode b_Disk_appendByte 5 = .ok (.getfield 9, 3) := by decide +kernel
theorem d_Disk_appendByte_8 : decode b_Disk_appendByte 8 = .ok (.arraylength, 1) := by decide +kernel
theorem d_Disk_appendByte_9 : decode b_Disk_appendByte 9 = .ok (.if_icmp .ge 20, 3) := by decide +kernel
theorem d_Disk_appendByte_12 : decode b_Disk_appendByte 12 = .ok (.aload_n 0, 1) := by decide +kernel
theorem d_Disk_appendByte_13 : decode b_Disk_appendByte 13 = .ok (.getfield 9, 3) := by decide +kernel
theorem d_Disk_appendByte_16 : decode b_Disk_appendByte 16 = .ok (.aload_n 0, 1) := by decide +kernel
theorem d_Disk_appendByte_17 : decode b_Disk_appendByte 17 = .ok (.dup, 1) := by decide +kernel
theorem d_Disk_appendByte_18 : decode b_Disk_appendByte 18 = .ok (.getfield 22, 3) := by decide +kernel
theorem d_Disk_appendByte_21 : decode b_Disk_appendByte 21 = .ok (.dup_x1, 1) := by decide +kernel
theorem d_Disk_appendByte_22 : decode b_Disk_appendByte 22 = .ok (.iconst 1, 1) := by decide +kernel
theorem d_Disk_appendByte_23 : decode b_Disk_appendByte 23 = .ok (.iadd, 1) := by decide +kernel
theorem d_Disk_appendByte_24 : decode b_Disk_appendByte 24 = .ok (.putfield 22, 3) := by decide +kernel
theorem d_Disk_appendByte_27 : decode b_Disk_appendByte 27 = .ok (.iload_n 1, 1) := by decide +kernel
theorem d_Disk_appendByte_28 : decode b_Disk_appendByte 28 = .ok (.iastore, 1) := by decide +kernel
theorem d_Disk_appendByte_29 : decode b_Disk_appendByte 29 = .ok (.return_, 1) := by decide +kernel
theorem d_Disk_isSound_0 : decode b_Disk_isSound 0 = .ok (.iload_n 1, 1) := by decide +kernel
theorem d_Disk_isSound_1 : decode b_Disk_isSound 1 = .ok (.ifCond .lt 11, 3) := by decide +kernel
theorem d_Disk_isSound_4 : decode b_Disk_isSound 4 = .ok (.iload_n 1, 1) := by decide +kernel
theorem d_Disk_isSound_5 : decode b_Disk_isSound 5 = .ok (.aload_n 0, 1) := by decide +kernel
theorem d_Disk_isSound_6 : decode b_Disk_isSound 6 = .ok (.getfield 25, 3) := by decide +kernel
theorem d_Disk_isSound_9 : decode b_Disk_isSound 9 = .ok (.if_icmp .lt 5, 3) := by decide +kernel
theorem d_Disk_isSound_12 : decode b_Disk_isSound 12 = .ok (.iconst 0, 1) := by decide +kernel
theorem d_Disk_isSound_13 : decode b_Disk_isSound 13 = .ok (.ireturn, 1) := by decide +kernel
theorem d_Disk_isSound_14 : decode b_Disk_isSound 14 = .ok (.aload_n 0, 1) := by decide +kernel
theorem d_Disk_isSound_15 : decode b_Disk_isSound 15 = .ok (.getfield 15, 3) := by decide +kernel
theorem d_Disk_isSound_18 : decode b_Disk_isSound 18 = .ok (.iload_n 1, 1) := by decide +kernel
theorem d_Disk_isSound_19 : decode b_Disk_isSound 19 = .ok (.iaload, 1) := by decide +kernel
theorem d_Disk_isSound_20 : decode b_Disk_isSound 20 = .ok (.istore_n 2, 1) := by decide +kernel
theorem d_Disk_isSound_21 : decode b_Disk_isSound 21 = .ok (.aload_n 0, 1) := by decide +kernel
theorem d_Disk_isSound_22 : decode b_Disk_isSound 22 = .ok (.iload_n 2, 1) := by decide +kernel
theorem d_Disk_isSound_23 : decode b_Disk_isSound 23 = .ok (.invokevirtual 47, 3) := by decide +kernel
theorem d_Disk_isSound_26 : decode b_Disk_isSound 26 = .ok (.bipush 31, 2) := by decide +kernel
theorem d_Disk_isSound_28 : decode b_Disk_isSound 28 = .ok (.if_icmp .ne 27, 3) := by decide +kernel
theorem d_Disk_isSound_31 : decode b_Disk_isSound 31 = .ok (.aload_n 0, 1) := by decide +kernel
theorem d_Disk_isSound_32 : decode b_Disk_isSound 32 = .ok (.iload_n 2, 1) := by decide +kernel
theorem d_Disk_isSound_33 : decode b_Disk_isSound 33 = .ok (.iconst 1, 1) := by decide +kernel
theorem d_Disk_isSound_34 : decode b_Disk_isSound 34 = .ok (.iadd, 1) := by decide +kernel
theorem d_Disk_isSound_35 : decode b_Disk_isSound 35 = .ok (.invokevirtual 47, 3) := by decide +kernel
theorem d_Disk_isSound_38 : decode b_Disk_isSound 38 = .ok (.sipush 139, 3) := by decide +kernel
theorem d_Disk_isSound_41 : decode b_Disk_isSound 41 = .ok (.if_icmp .ne 14, 3) := by decide +kernel
theorem d_Disk_isSound_44 : decode b_Disk_isSound 44 = .ok (.aload_n 0, 1) := by decide +kernel
theorem d_Disk_isSound_45 : decode b_Disk_isSound 45 = .ok (.iload_n 2, 1) := by decide +kernel
theorem d_Disk_isSound_46 : decode b_Disk_isSound 46 = .ok (.iconst 2, 1) := by decide +kernel
theorem d_Disk_isSound_47 : decode b_Disk_isSound 47 = .ok (.iadd, 1) := by decide +kernel
theorem d_Disk_isSound_48 : decode b_Disk_isSound 48 = .ok (.invokevirtual 47, 3) := by decide +kernel
theorem d_Disk_isSound_51 : decode b_Disk_isSound 51 = .ok (.iconst 1, 1) := by decide +kernel
theorem d_Disk_isSound_52 : decode b_Disk_isSound 52 = .ok (.if_icmp .eq 5, 3) := by decide +kernel
theorem d_Disk_isSound_55 : decode b_Disk_isSound 55 = .ok (.iconst 0, 1) := by decide +kernel
theorem d_Disk_isSound_56 : decode b_Disk_isSound 56 = .ok (.ireturn, 1) := by decide +kernel
theorem d_Disk_isSound_57 : decode b_Disk_isSound 57 = .ok (.aload_n 0, 1) := by decide +kernel
theorem d_Disk_isSound_58 : decode b_Disk_isSound 58 = .ok (.iload_n 2, 1) := by decide +kernel
theorem d_Disk_isSound_59 : decode b_Disk_isSound 59 = .ok (.iconst 3, 1) := by decide +kernel
theorem d_Disk_isSound_60 : decode b_Disk_isSound 60 = .ok (.iadd, 1) := by decide +kernel
theorem d_Disk_isSound_61 : decode b_Disk_isSound 61 = .ok (.iconst 2, 1) := by decide +kernel
theorem d_Disk_isSound_62 : decode b_Disk_isSound 62 = .ok (.invokevirtual 66, 3) := by decide +kernel
theorem d_Disk_isSound_65 : decode b_Disk_isSound 65 = .ok (.istore_n 3, 1) := by decide +kernel
theorem d_Disk_isSound_66 : decode b_Disk_isSound 66 = .ok (.aload_n 0, 1) := by decide +kernel
theorem d_Disk_isSound_67 : decode b_Disk_isSound 67 = .ok (.iload_n 2, 1) := by decide +kernel
theorem d_Disk_isSound_68 : decode b_Disk_isSound 68 = .ok (.iconst 5, 1) := by decide +kernel
theorem d_Disk_isSound_69 : decode b_Disk_isSound 69 = .ok (.iadd, 1) := by decide +kernel
theorem d_Disk_isSound_70 : decode b_Disk_isSound 70 = .ok (.iconst 2, 1) := by decide +kernel
theorem d_Disk_isSound_71 : decode b_Disk_isSound 71 = .ok (.invokevirtual 66, 3) := by decide +kernel
theorem d_Disk_isSound_74 : decode b_Disk_isSound 74 = .ok (.iload_n 3, 1) := by decide +kernel
theorem d_Disk_isSound_75 : decode b_Disk_isSound 75 = .ok (.iconst (-1), 1) := by decide +kernel
theorem d_Disk_isSound_76 : decode b_Disk_isSound 76 = .ok (.ixor, 1) := by decide +kernel
theorem d_Disk_isSound_77 : decode b_Disk_isSound 77 = .ok (.ldc 69, 2) := by decide +kernel
theorem d_Disk_isSound_79 : decode b_Disk_isSound 79 = .ok (.iand, 1) := by decide +kernel
theorem d_Disk_isSound_80 : decode b_Disk_isSound 80 = .ok (.if_icmp .eq 5, 3) := by decide +kernel
theorem d_Disk_isSound_83 : decode b_Disk_isSound 83 = .ok (.iconst 0, 1) := by decide +kernel
theorem d_Disk_isSound_84 : decode b_Disk_isSound 84 = .ok (.ireturn, 1) := by decide +kernel
theorem d_Disk_isSound_85 : decode b_Disk_isSound 85 = .ok (.iload_n 2, 1) := by decide +kernel
theorem d_Disk_isSound_86 : decode b_Disk_isSound 86 = .ok (.bipush 7, 2) := by decide +kernel
theorem d_Disk_isSound_88 : decode b_Disk_isSound 88 = .ok (.iadd, 1) := by decide +kernel
theorem d_Disk_isSound_89 : decode b_Disk_isSound 89 = .ok (.istore 4, 2) := by decide +kernel
theorem d_Disk_isSound_91 : decode b_Disk_isSound 91 = .ok (.iload 4, 2) := by decide +kernel
theorem d_Disk_isSound_93 : decode b_Disk_isSound 93 = .ok (.iload_n 3, 1) := by decide +kernel
theorem d_Disk_isSound_94 : decode b_Disk_isSound 94 = .ok (.iadd, 1) := by decide +kernel
theorem d_Disk_isSound_95 : decode b_Disk_isSound 95 = .ok (.iconst 4, 1) := by decide +kernel
theorem d_Disk_isSound_96 : decode b_Disk_isSound 96 = .ok (.iadd, 1) := by decide +kernel
theorem d_Disk_isSound_97 : decode b_Disk_isSound 97 = .ok (.aload_n 0, 1) := by decide +kernel
theorem d_Disk_isSound_98 : decode b_Disk_isSound 98 = .ok (.getfield 22, 3) := by decide +kernel
theorem d_Disk_isSound_101 : decode b_Disk_isSound 101 = .ok (.if_icmp .gt 26, 3) := by decide +kernel
theorem d_Disk_isSound_104 : decode b_Disk_isSound 104 = .ok (.aload_n 0, 1) := by decide +kernel
theorem d_Disk_isSound_105 : decode b_Disk_isSound 105 = .ok (.iload 4, 2) := by decide +kernel
theorem d_Disk_isSound_107 : decode b_Disk_isSound 107 = .ok (.iload_n 3, 1) := by decide +kernel
theorem d_Disk_isSound_108 : decode b_Disk_isSound 108 = .ok (.iadd, 1) := by decide +kernel
theorem d_Disk_isSound_109 : decode b_Disk_isSound 109 = .ok (.iconst 4, 1) := by decide +kernel
theorem d_Disk_isSound_110 : decode b_Disk_isSound 110 = .ok (.invokevirtual 66, 3) := by decide +kernel
theorem d_Disk_isSound_113 : decode b_Disk_isSound 113 = .ok (.aload_n 0, 1) := by decide +kernel
theorem d_Disk_isSound_114 : decode b_Disk_isSound 114 = .ok (.iload 4, 2) := by decide +kernel
theorem d_Disk_isSound_116 : decode b_Disk_isSound 116 = .ok (.iload_n 3, 1) := by decide +kernel
theorem d_Disk_isSound_117 : decode b_Disk_isSound 117 = .ok (.invokevirtual 63, 3) := by decide +kernel
theorem d_Disk_isSound_120 : decode b_Disk_isSound 120 = .ok (.if_icmp .ne 7, 3) := by decide +kernel
theorem d_Disk_isSound_123 : decode b_Disk_isSound 123 = .ok (.iconst 1, 1) := by decide +kernel
theorem d_Disk_isSound_124 : decode b_Disk_isSound 124 = .ok (.goto 4, 3) := by decide +kernel
theorem d_Disk_isSound_127 : decode b_Disk_isSound 127 = .ok (.iconst 0, 1) := by decide +kernel
theorem d_Disk_isSound_128 : decode b_Disk_isSound 128 = .ok (.ireturn, 1) := by decide +kernel
theorem d_Disk_numberAt_0 : decode b_Disk_numberAt 0 = .ok (.iconst 0, 1) := by decide +kernel
theorem d_Disk_numberAt_1 : decode b_Disk_numberAt 1 = .ok (.istore_n 3, 1) := by decide +kernel
theorem d_Disk_numberAt_2 : decode b_Disk_numberAt 2 = .ok (.iconst 0, 1) := by decide +kernel
theorem d_Disk_numberAt_3 : decode b_Disk_numberAt 3 = .ok (.istore 4, 2) := by decide +kernel
theorem d_Disk_numberAt_5 : decode b_Disk_numberAt 5 = .ok (.iload 4, 2) := by decide +kernel
theorem d_Disk_numberAt_7 : decode b_Disk_numberAt 7 = .ok (.iload_n 2, 1) := by decide +kernel
theorem d_Disk_numberAt_8 : decode b_Disk_numberAt 8 = .ok (.if_icmp .ge 30, 3) := by decide +kernel
theorem d_Disk_numberAt_11 : decode b_Disk_numberAt 11 = .ok (.iload_n 3, 1) := by decide +kernel
theorem d_Disk_numberAt_12 : decode b_Disk_numberAt 12 = .ok (.aload_n 0, 1) := by decide +kernel
theorem d_Disk_numberAt_13 : decode b_Disk_numberAt 13 = .ok (.iload_n 1, 1) := by decide +kernel
theorem d_Disk_numberAt_14 : decode b_Disk_numberAt 14 = .ok (.iload 4, 2) := by decide +kernel
theorem d_Disk_numberAt_16 : decode b_Disk_numberAt 16 = .ok (.iadd, 1) := by decide +kernel
theorem d_Disk_numberAt_17 : decode b_Disk_numberAt 17 = .ok (.invokevirtual 47, 3) := by decide +kernel
theorem d_Disk_numberAt_20 : decode b_Disk_numberAt 20 = .ok (.sipush 255, 3) := by decide +kernel
theorem d_Disk_numberAt_23 : decode b_Disk_numberAt 23 = .ok (.iand, 1) := by decide +kernel
theorem d_Disk_numberAt_24 : decode b_Disk_numberAt 24 = .ok (.bipush 8, 2) := by decide +kernel
theorem d_Disk_numberAt_26 : decode b_Disk_numberAt 26 = .ok (.iload 4, 2) := by decide +kernel
theorem d_Disk_numberAt_28 : decode b_Disk_numberAt 28 = .ok (.imul, 1) := by decide +kernel
theorem d_Disk_numberAt_29 : decode b_Disk_numberAt 29 = .ok (.ishl, 1) := by decide +kernel
theorem d_Disk_numberAt_30 : decode b_Disk_numberAt 30 = .ok (.ior, 1) := by decide +kernel
theorem d_Disk_numberAt_31 : decode b_Disk_numberAt 31 = .ok (.istore_n 3, 1) := by decide +kernel
theorem d_Disk_numberAt_32 : decode b_Disk_numberAt 32 = .ok (.iinc 4 1, 3) := by decide +kernel
theorem d_Disk_numberAt_35 : decode b_Disk_numberAt 35 = .ok (.goto (-30), 3) := by decide +kernel
theorem d_Disk_numberAt_38 : decode b_Disk_numberAt 38 = .ok (.iload_n 3, 1) := by decide +kernel
theorem d_Disk_numberAt_39 : decode b_Disk_numberAt 39 = .ok (.ireturn, 1) := by decide +kernel
theorem d_Disk_sumOf_0 : decode b_Disk_sumOf 0 = .ok (.iconst (-1), 1) := by decide +kernel
theorem d_Disk_sumOf_1 : decode b_Disk_sumOf 1 = .ok (.istore_n 3, 1) := by decide +kernel
theorem d_Disk_sumOf_2 : decode b_Disk_sumOf 2 = .ok (.iload_n 1, 1) := by decide +kernel
theorem d_Disk_sumOf_3 : decode b_Disk_sumOf 3 = .ok (.istore 4, 2) := by decide +kernel
theorem d_Disk_sumOf_5 : decode b_Disk_sumOf 5 = .ok (.iload 4, 2) := by decide +kernel
theorem d_Disk_sumOf_7 : decode b_Disk_sumOf 7 = .ok (.iload_n 1, 1) := by decide +kernel
theorem d_Disk_sumOf_8 : decode b_Disk_sumOf 8 = .ok (.iload_n 2, 1) := by decide +kernel
theorem d_Disk_sumOf_9 : decode b_Disk_sumOf 9 = .ok (.iadd, 1) := by decide +kernel
theorem d_Disk_sumOf_10 : decode b_Disk_sumOf 10 = .ok (.if_icmp .ge 58, 3) := by decide +kernel
theorem d_Disk_sumOf_13 : decode b_Disk_sumOf 13 = .ok (.iload_n 3, 1) := by decide +kernel
theorem d_Disk_sumOf_14 : decode b_Disk_sumOf 14 = .ok (.aload_n 0, 1) := by decide +kernel
theorem d_Disk_sumOf_15 : decode b_Disk_sumOf 15 = .ok (.iload 4, 2) := by decide +kernel
theorem d_Disk_sumOf_17 : decode b_Disk_sumOf 17 = .ok (.invokevirtual 47, 3) := by decide +kernel
theorem d_Disk_sumOf_20 : decode b_Disk_sumOf 20 = .ok (.sipush 255, 3) := by decide +kernel
theorem d_Disk_sumOf_23 : decode b_Disk_sumOf 23 = .ok (.iand, 1) := by decide +kernel
theorem d_Disk_sumOf_24 : decode b_Disk_sumOf 24 = .ok (.ixor, 1) := by decide +kernel
theorem d_Disk_sumOf_25 : decode b_Disk_sumOf 25 = .ok (.istore_n 3, 1) := by decide +kernel
theorem d_Disk_sumOf_26 : decode b_Disk_sumOf 26 = .ok (.iconst 0, 1) := by decide +kernel
theorem d_Disk_sumOf_27 : decode b_Disk_sumOf 27 = .ok (.istore 5, 2) := by decide +kernel
theorem d_Disk_sumOf_29 : decode b_Disk_sumOf 29 = .ok (.iload 5, 2) := by decide +kernel
theorem d_Disk_sumOf_31 : decode b_Disk_sumOf 31 = .ok (.bipush 8, 2) := by decide +kernel
theorem d_Disk_sumOf_33 : decode b_Disk_sumOf 33 = .ok (.if_icmp .ge 29, 3) := by decide +kernel
theorem d_Disk_sumOf_36 : decode b_Disk_sumOf 36 = .ok (.iload_n 3, 1) := by decide +kernel
theorem d_Disk_sumOf_37 : decode b_Disk_sumOf 37 = .ok (.iconst 1, 1) := by decide +kernel
theorem d_Disk_sumOf_38 : decode b_Disk_sumOf 38 = .ok (.iand, 1) := by decide +kernel
theorem d_Disk_sumOf_39 : decode b_Disk_sumOf 39 = .ok (.iconst 1, 1) := by decide +kernel
theorem d_Disk_sumOf_40 : decode b_Disk_sumOf 40 = .ok (.if_icmp .ne 12, 3) := by decide +kernel
theorem d_Disk_sumOf_43 : decode b_Disk_sumOf 43 = .ok (.iload_n 3, 1) := by decide +kernel
theorem d_Disk_sumOf_44 : decode b_Disk_sumOf 44 = .ok (.iconst 1, 1) := by decide +kernel
theorem d_Disk_sumOf_45 : decode b_Disk_sumOf 45 = .ok (.iushr, 1) := by decide +kernel
theorem d_Disk_sumOf_46 : decode b_Disk_sumOf 46 = .ok (.ldc 70, 2) := by decide +kernel
theorem d_Disk_sumOf_48 : decode b_Disk_sumOf 48 = .ok (.ixor, 1) := by decide +kernel
theorem d_Disk_sumOf_49 : decode b_Disk_sumOf 49 = .ok (.goto 6, 3) := by decide +kernel
theorem d_Disk_sumOf_52 : decode b_Disk_sumOf 52 = .ok (.iload_n 3, 1) := by decide +kernel
theorem d_Disk_sumOf_53 : decode b_Disk_sumOf 53 = .ok (.iconst 1, 1) := by decide +kernel
theorem d_Disk_sumOf_54 : decode b_Disk_sumOf 54 = .ok (.iushr, 1) := by decide +kernel
theorem d_Disk_sumOf_55 : decode b_Disk_sumOf 55 = .ok (.istore_n 3, 1) := by decide +kernel
theorem d_Disk_sumOf_56 : decode b_Disk_sumOf 56 = .ok (.iinc 5 1, 3) := by decide +kernel
theorem d_Disk_sumOf_59 : decode b_Disk_sumOf 59 = .ok (.goto (-30), 3) := by decide +kernel
theorem d_Disk_sumOf_62 : decode b_Disk_sumOf 62 = .ok (.iinc 4 1, 3) := by decide +kernel
theorem d_Disk_sumOf_65 : decode b_Disk_sumOf 65 = .ok (.goto (-60), 3) := by decide +kernel
theorem d_Disk_sumOf_68 : decode b_Disk_sumOf 68 = .ok (.iload_n 3, 1) := by decide +kernel
theorem d_Disk_sumOf_69 : decode b_Disk_sumOf 69 = .ok (.iconst (-1), 1) := by decide +kernel
theorem d_Disk_sumOf_70 : decode b_Disk_sumOf 70 = .ok (.ixor, 1) := by decide +kernel
theorem d_Disk_sumOf_71 : decode b_Disk_sumOf 71 = .ok (.ireturn, 1) := by decide +kernel
theorem d_Draft_init_0 : decode b_Draft_init 0 = .ok (.aload_n 0, 1) := by decide +kernel
theorem d_Draft_init_1 : decode b_Draft_init 1 = .ok (.invokespecial 3, 3) := by decide +kernel
theorem d_Draft_init_4 : decode b_Draft_init 4 = .ok (.aload_n 0, 1) := by decide +kernel
theorem d_Draft_init_5 : decode b_Draft_init 5 = .ok (.iconst 3, 1) := by decide +kernel
theorem d_Draft_init_6 : decode b_Draft_init 6 = .ok (.newarray .int, 2) := by decide +kernel
theorem d_Draft_init_8 : decode b_Draft_init 8 = .ok (.putfield 9, 3) := by decide +kernel
theorem d_Draft_init_11 : decode b_Draft_init 11 = .ok (.aload_n 0, 1) := by decide +kernel
theorem d_Draft_init_12 : decode b_Draft_init 12 = .ok (.bipush 24, 2) := by decide +kernel
theorem d_Draft_init_14 : decode b_Draft_init 14 = .ok (.newarray .int, 2) := by decide +kernel
theorem d_Draft_init_16 : decode b_Draft_init 16 = .ok (.putfield 15, 3) := by decide +kernel
theorem d_Draft_init_19 : decode b_Draft_init 19 = .ok (.return_, 1) := by decide +kernel
theorem d_Draft_appendOp_0 : decode b_Draft_appendOp 0 = .ok (.iload_n 1, 1) := by decide +kernel
theorem d_Draft_appendOp_1 : decode b_Draft_appendOp 1 = .ok (.ifCond .lt 27, 3) := by decide +kernel
theorem d_Draft_appendOp_4 : decode b_Draft_appendOp 4 = .ok (.iload_n 1, 1) := by decide +kernel
theorem d_Draft_appendOp_5 : decode b_Draft_appendOp 5 = .ok (.iconst 4, 1) := by decide +kernel
theorem d_Draft_appendOp_6 : decode b_Draft_appendOp 6 = .ok (.if_icmp .ge 22, 3) := by decide +kernel
theorem d_Draft_appendOp_9 : decode b_Draft_appendOp 9 = .ok (.iload_n 2, 1) := by decide +kernel
theorem d_Draft_appendOp_10 : decode b_Draft_appendOp 10 = .ok (.iconst 1, 1) := by decide +kernel
theorem d_Draft_appendOp_11 : decode b_Draft_appendOp 11 = .ok (.if_icmp .lt 17, 3) := by decide +kernel
theorem d_Draft_appendOp_14 : decode b_Draft_appendOp 14 = .ok (.iload_n 2, 1) := by decide +kernel
theorem d_Draft_appendOp_15 : decode b_Draft_appendOp 15 = .ok (.bipush 63, 2) := by decide +kernel
theorem d_Draft_appendOp_17 : decode b_Draft_appendOp 17 = .ok (.if_icmp .gt 11, 3) := by decide +kernel
theorem d_Draft_appendOp_20 : decode b_Draft_appendOp 20 = .ok (.aload_n 0, 1) := by decide +kernel
theorem d_Draft_appendOp_21 : decode b_Draft_appendOp 21 = .ok (.getfield 18, 3) := by decide +kernel
theorem d_Draft_appendOp_24 : decode b_Draft_appendOp 24 = .ok (.iconst 3, 1) := by decide +kernel
theorem d_Draft_appendOp_25 : decode b_Draft_appendOp 25 = .ok (.if_icmp .lt 5, 3) := by decide +kernel
theorem d_Draft_appendOp_28 : decode b_Draft_appendOp 28 = .ok (.iconst 0, 1) := by decide +kernel
theorem d_Draft_appendOp_29 : decode b_Draft_appendOp 29 = .ok (.ireturn, 1) := by decide +kernel
theorem d_Draft_appendOp_30 : decode b_Draft_appendOp 30 = .ok (.aload_n 0, 1) := by decide +kernel
theorem d_Draft_appendOp_31 : decode b_Draft_appendOp 31 = .ok (.getfield 9, 3) := by decide +kernel
theorem d_Draft_appendOp_34 : decode b_Draft_appendOp 34 = .ok (.aload_n 0, 1) := by decide +kernel
theorem d_Draft_appendOp_35 : decode b_Draft_appendOp 35 = .ok (.dup, 1) := by decide +kernel
theorem d_Draft_appendOp_36 : decode b_Draft_appendOp 36 = .ok (.getfield 18, 3) := by decide +kernel
theorem d_Draft_appendOp_39 : decode b_Draft_appendOp 39 = .ok (.dup_x1, 1) := by decide +kernel
theorem d_Draft_appendOp_40 : decode b_Draft_appendOp 40 = .ok (.iconst 1, 1) := by decide +kernel
theorem d_Draft_appendOp_41 : decode b_Draft_appendOp 41 = .ok (.iadd, 1) := by decide +kernel
theorem d_Draft_appendOp_42 : decode b_Draft_appendOp 42 = .ok (.putfield 18, 3) := by decide +kernel
theorem d_Draft_appendOp_45 : decode b_Draft_appendOp 45 = .ok (.iconst 4, 1) := by decide +kernel
theorem d_Draft_appendOp_46 : decode b_Draft_appendOp 46 = .ok (.iload_n 2, 1) := by decide +kernel
theorem d_Draft_appendOp_47 : decode b_Draft_appendOp 47 = .ok (.imul, 1) := by decide +kernel
theorem d_Draft_appendOp_48 : decode b_Draft_appendOp 48 = .ok (.iload_n 1, 1) := by decide +kernel
theorem d_Draft_appendOp_49 : decode b_Draft_appendOp 49 = .ok (.iadd, 1) := by decide +kernel
theorem d_Draft_appendOp_50 : decode b_Draft_appendOp 50 = .ok (.iastore, 1) := by decide +kernel
theorem d_Draft_appendOp_51 : decode b_Draft_appendOp 51 = .ok (.iconst 1, 1) := by decide +kernel
theorem d_Draft_appendOp_52 : decode b_Draft_appendOp 52 = .ok (.ireturn, 1) := by decide +kernel
theorem d_Draft_appendBase_0 : decode b_Draft_appendBase 0 = .ok (.iload_n 1, 1) := by decide +kernel
theorem d_Draft_appendBase_1 : decode b_Draft_appendBase 1 = .ok (.ifCond .lt 18, 3) := by decide +kernel
theorem d_Draft_appendBase_4 : decode b_Draft_appendBase 4 = .ok (.iload_n 1, 1) := by decide +kernel
theorem d_Draft_appendBase_5 : decode b_Draft_appendBase 5 = .ok (.bipush 15, 2) := by decide +kernel
theorem d_Draft_appendBase_7 : decode b_Draft_appendBase 7 = .ok (.if_icmp .gt 12, 3) := by decide +kernel
theorem d_Draft_appendBase_10 : decode b_Draft_appendBase 10 = .ok (.aload_n 0, 1) := by decide +kernel
theorem d_Draft_appendBase_11 : decode b_Draft_appendBase 11 = .ok (.getfield 22, 3) := by decide +kernel
theorem d_Draft_appendBase_14 : decode b_Draft_appendBase 14 = .ok (.bipush 24, 2) := by decide +kernel
theorem d_Draft_appendBase_16 : decode b_Draft_appendBase 16 = .ok (.if_icmp .lt 5, 3) := by decide +kernel
theorem d_Draft_appendBase_19 : decode b_Draft_appendBase 19 = .ok (.iconst 0, 1) := by decide +kernel
theorem d_Draft_appendBase_20 : decode b_Draft_appendBase 20 = .ok (.ireturn, 1) := by decide +kernel
theorem d_Draft_appendBase_21 : decode b_Draft_appendBase 21 = .ok (.aload_n 0, 1) := by decide +kernel
theorem d_Draft_appendBase_22 : decode b_Draft_appendBase 22 = .ok (.getfield 15, 3) := by decide +kernel
theorem d_Draft_appendBase_25 : decode b_Draft_appendBase 25 = .ok (.aload_n 0, 1) := by decide +kernel
theorem d_Draft_appendBase_26 : decode b_Draft_appendBase 26 = .ok (.dup, 1) := by decide +kernel
theorem d_Draft_appendBase_27 : decode b_Draft_appendBase 27 = .ok (.getfield 22, 3) := by decide +kernel
theorem d_Draft_appendBase_30 : decode b_Draft_appendBase 30 = .ok (.dup_x1, 1) := by decide +kernel
theorem d_Draft_appendBase_31 : decode b_Draft_appendBase 31 = .ok (.iconst 1, 1) := by decide +kernel
theorem d_Draft_appendBase_32 : decode b_Draft_appendBase 32 = .ok (.iadd, 1) := by decide +kernel
theorem d_Draft_appendBase_33 : decode b_Draft_appendBase 33 = .ok (.putfield 22, 3) := by decide +kernel
theorem d_Draft_appendBase_36 : decode b_Draft_appendBase 36 = .ok (.iload_n 1, 1) := by decide +kernel
theorem d_Draft_appendBase_37 : decode b_Draft_appendBase 37 = .ok (.iastore, 1) := by decide +kernel
theorem d_Draft_appendBase_38 : decode b_Draft_appendBase 38 = .ok (.iconst 1, 1) := by decide +kernel
theorem d_Draft_appendBase_39 : decode b_Draft_appendBase 39 = .ok (.ireturn, 1) := by decide +kernel
theorem d_Draft_empty_0 : decode b_Draft_empty 0 = .ok (.aload_n 0, 1) := by decide +kernel
theorem d_Draft_empty_1 : decode b_Draft_empty 1 = .ok (.iconst 0, 1) := by decide +kernel
theorem d_Draft_empty_2 : decode b_Draft_empty 2 = .ok (.putfield 18, 3) := by decide +kernel
theorem d_Draft_empty_5 : decode b_Draft_empty 5 = .ok (.aload_n 0, 1) := by decide +kernel
theorem d_Draft_empty_6 : decode b_Draft_empty 6 = .ok (.iconst 0, 1) := by decide +kernel
theorem d_Draft_empty_7 : decode b_Draft_empty 7 = .ok (.putfield 22, 3) := by decide +kernel
theorem d_Draft_empty_10 : decode b_Draft_empty 10 = .ok (.return_, 1) := by decide +kernel
theorem d_Draft_span_0 : decode b_Draft_span 0 = .ok (.aload_n 0, 1) := by decide +kernel
theorem d_Draft_span_1 : decode b_Draft_span 1 = .ok (.getfield 9, 3) := by decide +kernel
theorem d_Draft_span_4 : decode b_Draft_span 4 = .ok (.iconst 0, 1) := by decide +kernel
theorem d_Draft_span_5 : decode b_Draft_span 5 = .ok (.aload_n 0, 1) := by decide +kernel
theorem d_Draft_span_6 : decode b_Draft_span 6 = .ok (.getfield 18, 3) := by decide +kernel
theorem d_Draft_span_9 : decode b_Draft_span 9 = .ok (.invokestatic 25, 3) := by decide +kernel
theorem d_Draft_span_12 : decode b_Draft_span 12 = .ok (.ireturn, 1) := by decide +kernel
theorem d_Draft_width_0 : decode b_Draft_width 0 = .ok (.iconst 0, 1) := by decide +kernel
theorem d_Draft_width_1 : decode b_Draft_width 1 = .ok (.istore_n 1, 1) := by decide +kernel
theorem d_Draft_width_2 : decode b_Draft_width 2 = .ok (.iconst 0, 1) := by decide +kernel
theorem d_Draft_width_3 : decode b_Draft_width 3 = .ok (.istore_n 2, 1) := by decide +kernel
theorem d_Draft_width_4 : decode b_Draft_width 4 = .ok (.iload_n 2, 1) := by decide +kernel
theorem d_Draft_width_5 : decode b_Draft_width 5 = .ok (.aload_n 0, 1) := by decide +kernel
theorem d_Draft_width_6 : decode b_Draft_width 6 = .ok (.getfield 18, 3) := by decide +kernel
theorem d_Draft_width_9 : decode b_Draft_width 9 = .ok (.if_icmp .ge 46, 3) := by decide +kernel
theorem d_Draft_width_12 : decode b_Draft_width 12 = .ok (.aload_n 0, 1) := by decide +kernel
theorem d_Draft_width_13 : decode b_Draft_width 13 = .ok (.getfield 9, 3) := by decide +kernel
theorem d_Draft_width_16 : decode b_Draft_width 16 = .ok (.iload_n 2, 1) := by decide +kernel
theorem d_Draft_width_17 : decode b_Draft_width 17 = .ok (.iaload, 1) := by decide +kernel
theorem d_Draft_width_18 : decode b_Draft_width 18 = .ok (.invokestatic 29, 3) := by decide +kernel
theorem d_Draft_width_21 : decode b_Draft_width 21 = .ok (.ifCond .eq 16, 3) := by decide +kernel
theorem d_Draft_width_24 : decode b_Draft_width 24 = .ok (.aload_n 0, 1) := by decide +kernel
theorem d_Draft_width_25 : decode b_Draft_width 25 = .ok (.getfield 9, 3) := by decide +kernel
theorem d_Draft_width_28 : decode b_Draft_width 28 = .ok (.iload_n 2, 1) := by decide +kernel
theorem d_Draft_width_29 : decode b_Draft_width 29 = .ok (.iaload, 1) := by decide +kernel
theorem d_Draft_width_30 : decode b_Draft_width 30 = .ok (.invokestatic 29, 3) := by decide +kernel
theorem d_Draft_width_33 : decode b_Draft_width 33 = .ok (.iconst 1, 1) := by decide +kernel
theorem d_Draft_width_34 : decode b_Draft_width 34 = .ok (.if_icmp .ne 15, 3) := by decide +kernel
theorem d_Draft_width_37 : decode b_Draft_width 37 = .ok (.iload_n 1, 1) := by decide +kernel
theorem d_Draft_width_38 : decode b_Draft_width 38 = .ok (.aload_n 0, 1) := by decide +kernel
theorem d_Draft_width_39 : decode b_Draft_width 39 = .ok (.getfield 9, 3) := by decide +kernel
theorem d_Draft_width_42 : decode b_Draft_width 42 = .ok (.iload_n 2, 1) := by decide +kernel
theorem d_Draft_width_43 : decode b_Draft_width 43 = .ok (.iaload, 1) := by decide +kernel
theorem d_Draft_width_44 : decode b_Draft_width 44 = .ok (.invokestatic 33, 3) := by decide +kernel
theorem d_Draft_width_47 : decode b_Draft_width 47 = .ok (.iadd, 1) := by decide +kernel
theorem d_Draft_width_48 : decode b_Draft_width 48 = .ok (.istore_n 1, 1) := by decide +kernel
theorem d_Draft_width_49 : decode b_Draft_width 49 = .ok (.iinc 2 1, 3) := by decide +kernel
theorem d_Draft_width_52 : decode b_Draft_width 52 = .ok (.goto (-48), 3) := by decide +kernel
theorem d_Draft_width_55 : decode b_Draft_width 55 = .ok (.iload_n 1, 1) := by decide +kernel
theorem d_Draft_width_56 : decode b_Draft_width 56 = .ok (.ireturn, 1) := by decide +kernel
theorem d_Draft_isRead_0 : decode b_Draft_isRead 0 = .ok (.aload_n 0, 1) := by decide +kernel
theorem d_Draft_isRead_1 : decode b_Draft_isRead 1 = .ok (.getfield 18, 3) := by decide +kernel
theorem d_Draft_isRead_4 : decode b_Draft_isRead 4 = .ok (.ifCond .le 25, 3) := by decide +kernel
theorem d_Draft_isRead_7 : decode b_Draft_isRead 7 = .ok (.aload_n 0, 1) := by decide +kernel
theorem d_Draft_isRead_8 : decode b_Draft_isRead 8 = .ok (.invokevirtual 36, 3) := by decide +kernel
theorem d_Draft_isRead_11 : decode b_Draft_isRead 11 = .ok (.ifCond .le 18, 3) := by decide +kernel
theorem d_Draft_isRead_14 : decode b_Draft_isRead 14 = .ok (.aload_n 0, 1) := by decide +kernel
theorem d_Draft_isRead_15 : decode b_Draft_isRead 15 = .ok (.invokevirtual 40, 3) := by decide +kernel
theorem d_Draft_isRead_18 : decode b_Draft_isRead 18 = .ok (.aload_n 0, 1) := by decide +kernel
theorem d_Draft_isRead_19 : decode b_Draft_isRead 19 = .ok (.getfield 22, 3) := by decide +kernel
theorem d_Draft_isRead_22 : decode b_Draft_isRead 22 = .ok (.if_icmp .ne 7, 3) := by decide +kernel
theorem d_Draft_isRead_25 : decode b_Draft_isRead 25 = .ok (.iconst 1, 1) := by decide +kernel
theorem d_Draft_isRead_26 : decode b_Draft_isRead 26 = .ok (.goto 4, 3) := by decide +kernel
theorem d_Draft_isRead_29 : decode b_Draft_isRead 29 = .ok (.iconst 0, 1) := by decide +kernel
theorem d_Draft_isRead_30 : decode b_Draft_isRead 30 = .ok (.ireturn, 1) := by decide +kernel
theorem d_Draft_basePair_0 : decode b_Draft_basePair 0 = .ok (.iload_n 1, 1) := by decide +kernel
theorem d_Draft_basePair_1 : decode b_Draft_basePair 1 = .ok (.iconst 1, 1) := by decide +kernel
theorem d_Draft_basePair_2 : decode b_Draft_basePair 2 = .ok (.iadd, 1) := by decide +kernel
theorem d_Draft_basePair_3 : decode b_Draft_basePair 3 = .ok (.aload_n 0, 1) := by decide +kernel
theorem d_Draft_basePair_4 : decode b_Draft_basePair 4 = .ok (.getfield 22, 3) := by decide +kernel
theorem d_Draft_basePair_7 : decode b_Draft_basePair 7 = .ok (.if_icmp .ge 14, 3) := by decide +kernel
theorem d_Draft_basePair_10 : decode b_Draft_basePair 10 = .ok (.aload_n 0, 1) := by decide +kernel
theorem d_Draft_basePair_11 : decode b_Draft_basePair 11 = .ok (.getfield 15, 3) := by decide +kernel
theorem d_Draft_basePair_14 : decode b_Draft_basePair 14 = .ok (.iload_n 1, 1) := by decide +kernel
theorem d_Draft_basePair_15 : decode b_Draft_basePair 15 = .ok (.iconst 1, 1) := by decide +kernel
theorem d_Draft_basePair_16 : decode b_Draft_basePair 16 = .ok (.iadd, 1) := by decide +kernel
theorem d_Draft_basePair_17 : decode b_Draft_basePair 17 = .ok (.iaload, 1) := by decide +kernel
theorem d_Draft_basePair_18 : decode b_Draft_basePair 18 = .ok (.goto 4, 3) := by decide +kernel
theorem d_Draft_basePair_21 : decode b_Draft_basePair 21 = .ok (.iconst 0, 1) := by decide +kernel
theorem d_Draft_basePair_22 : decode b_Draft_basePair 22 = .ok (.istore_n 2, 1) := by decide +kernel
theorem d_Draft_basePair_23 : decode b_Draft_basePair 23 = .ok (.bipush 16, 2) := by decide +kernel
theorem d_Draft_basePair_25 : decode b_Draft_basePair 25 = .ok (.aload_n 0, 1) := by decide +kernel
theorem d_Draft_basePair_26 : decode b_Draft_basePair 26 = .ok (.getfield 15, 3) := by decide +kernel
theorem d_Draft_basePair_29 : decode b_Draft_basePair 29 = .ok (.iload_n 1, 1) := by decide +kernel
theorem d_Draft_basePair_30 : decode b_Draft_basePair 30 = .ok (.iaload, 1) := by decide +kernel
theorem d_Draft_basePair_31 : decode b_Draft_basePair 31 = .ok (.imul, 1) := by decide +kernel
theorem d_Draft_basePair_32 : decode b_Draft_basePair 32 = .ok (.iload_n 2, 1) := by decide +kernel
theorem d_Draft_basePair_33 : decode b_Draft_basePair 33 = .ok (.iadd, 1) := by decide +kernel
theorem d_Draft_basePair_34 : decode b_Draft_basePair 34 = .ok (.ireturn, 1) := by decide +kernel
theorem d_Find_init_0 : decode b_Find_init 0 = .ok (.aload_n 0, 1) := by decide +kernel
theorem d_Find_init_1 : decode b_Find_init 1 = .ok (.invokespecial 3, 3) := by decide +kernel
theorem d_Find_init_4 : decode b_Find_init 4 = .ok (.aload_n 0, 1) := by decide +kernel
theorem d_Find_init_5 : decode b_Find_init 5 = .ok (.bipush 24, 2) := by decide +kernel
theorem d_Find_init_7 : decode b_Find_init 7 = .ok (.bipush 22, 2) := by decide +kernel
theorem d_Find_init_9 : decode b_Find_init 9 = .ok (.multianewarray 9 2, 4) := by decide +kernel
theorem d_Find_init_13 : decode b_Find_init 13 = .ok (.putfield 11, 3) := by decide +kernel
theorem d_Find_init_16 : decode b_Find_init 16 = .ok (.aload_n 0, 1) := by decide +kernel
theorem d_Find_init_17 : decode b_Find_init 17 = .ok (.bipush 24, 2) := by decide +kernel
theorem d_Find_init_19 : decode b_Find_init 19 = .ok (.newarray .int, 2) := by decide +kernel
theorem d_Find_init_21 : decode b_Find_init 21 = .ok (.putfield 16, 3) := by decide +kernel
theorem d_Find_init_24 : decode b_Find_init 24 = .ok (.return_, 1) := by decide +kernel
theorem d_Find_empty_0 : decode b_Find_empty 0 = .ok (.aload_n 0, 1) := by decide +kernel
theorem d_Find_empty_1 : decode b_Find_empty 1 = .ok (.iconst 0, 1) := by decide +kernel
theorem d_Find_empty_2 : decode b_Find_empty 2 = .ok (.putfield 20, 3) := by decide +kernel
theorem d_Find_empty_5 : decode b_Find_empty 5 = .ok (.aload_n 0, 1) := by decide +kernel
theorem d_Find_empty_6 : decode b_Find_empty 6 = .ok (.iconst 0, 1) := by decide +kernel
theorem d_Find_empty_7 : decode b_Find_empty 7 = .ok (.putfield 24, 3) := by decide +kernel
theorem d_Find_empty_10 : decode b_Find_empty 10 = .ok (.return_, 1) := by decide +kernel
theorem d_Find_has_0 : decode b_Find_has 0 = .ok (.iload_n 1, 1) := by decide +kernel
theorem d_Find_has_1 : decode b_Find_has 1 = .ok (.ifCond .lt 15, 3) := by decide +kernel
theorem d_Find_has_4 : decode b_Find_has 4 = .ok (.iload_n 1, 1) := by decide +kernel
theorem d_Find_has_5 : decode b_Find_has 5 = .ok (.aload_n 0, 1) := by decide +kernel
theorem d_Find_has_6 : decode b_Find_has 6 = .ok (.getfield 20, 3) := by decide +kernel
theorem d_Find_has_9 : decode b_Find_has 9 = .ok (.if_icmp .ge 7, 3) := by decide +kernel
theorem d_Find_has_12 : decode b_Find_has 12 = .ok (.iconst 1, 1) := by decide +kernel
theorem d_Find_has_13 : decode b_Find_has 13 = .ok (.goto 4, 3) := by decide +kernel
theorem d_Find_has_16 : decode b_Find_has 16 = .ok (.iconst 0, 1) := by decide +kernel
theorem d_Find_has_17 : decode b_Find_has 17 = .ok (.ireturn, 1) := by decide +kernel
theorem d_Find_append_0 : decode b_Find_append 0 = .ok (.aload_n 0, 1) := by decide +kernel
theorem d_Find_append_1 : decode b_Find_append 1 = .ok (.getfield 20, 3) := by decide +kernel
theorem d_Find_append_4 : decode b_Find_append 4 = .ok (.bipush 24, 2) := by decide +kernel
theorem d_Find_append_6 : decode b_Find_append 6 = .ok (.if_icmp .lt 4, 3) := by decide +kernel
theorem d_Find_append_9 : decode b_Find_append 9 = .ok (.return_, 1) := by decide +kernel
theorem d_Find_append_10 : decode b_Find_append 10 = .ok (.aload_n 0, 1) := by decide +kernel
theorem d_Find_append_11 : decode b_Find_append 11 = .ok (.getfield 11, 3) := by decide +kernel
theorem d_Find_append_14 : decode b_Find_append 14 = .ok (.aload_n 0, 1) := by decide +kernel
theorem d_Find_append_15 : decode b_Find_append 15 = .ok (.getfield 20, 3) := by decide +kernel
theorem d_Find_append_18 : decode b_Find_append 18 = .ok (.aaload, 1) := by decide +kernel
theorem d_Find_append_19 : decode b_Find_append 19 = .ok (.astore_n 3, 1) := by decide +kernel
theorem d_Find_append_20 : decode b_Find_append 20 = .ok (.bipush 22, 2) := by decide +kernel
theorem d_Find_append_22 : decode b_Find_append 22 = .ok (.aload_n 1, 1) := by decide +kernel
theorem d_Find_append_23 : decode b_Find_append 23 = .ok (.iload_n 2, 1) := by decide +kernel
theorem d_Find_append_24 : decode b_Find_append 24 = .ok (.invokevirtual 27, 3) := by decide +kernel
theorem d_Find_append_27 : decode b_Find_append 27 = .ok (.iconst 1, 1) := by decide +kernel
theorem d_Find_append_28 : decode b_Find_append 28 = .ok (.iadd, 1) := by decide +kernel
theorem d_Find_append_29 : decode b_Find_append 29 = .ok (.invokestatic 33, 3) := by decide +kernel
theorem d_Find_append_32 : decode b_Find_append 32 = .ok (.istore 4, 2) := by decide +kernel
theorem d_Find_append_34 : decode b_Find_append 34 = .ok (.iconst 0, 1) := by decide +kernel
theorem d_Find_append_35 : decode b_Find_append 35 = .ok (.istore 5, 2) := by decide +kernel
theorem d_Find_append_37 : decode b_Find_append 37 = .ok (.iload 5, 2) := by decide +kernel
theorem d_Find_append_39 : decode b_Find_append 39 = .ok (.iload 4, 2) := by decide +kernel
theorem d_Find_append_41 : decode b_Find_append 41 = .ok (.if_icmp .ge 21, 3) := by decide +kernel
theorem d_Find_append_44 : decode b_Find_append 44 = .ok (.aload_n 3, 1) := by decide +kernel
theorem d_Find_append_45 : decode b_Find_append 45 = .ok (.iload 5, 2) := by decide +kernel
theorem d_Find_append_47 : decode b_Find_append 47 = .ok (.aload_n 1, 1) := by decide +kernel
theorem d_Find_append_48 : decode b_Find_append 48 = .ok (.iload_n 2, 1) := by decide +kernel
theorem d_Find_append_49 : decode b_Find_append 49 = .ok (.iload 5, 2) := by decide +kernel
theorem d_Find_append_51 : decode b_Find_append 51 = .ok (.iadd, 1) := by decide +kernel
theorem d_Find_append_52 : decode b_Find_append 52 = .ok (.invokevirtual 27, 3) := by decide +kernel
theorem d_Find_append_55 : decode b_Find_append 55 = .ok (.iastore, 1) := by decide +kernel
theorem d_Find_append_56 : decode b_Find_append 56 = .ok (.iinc 5 1, 3) := by decide +kernel
theorem d_Find_append_59 : decode b_Find_append 59 = .ok (.goto (-22), 3) := by decide +kernel
theorem d_Find_append_62 : decode b_Find_append 62 = .ok (.aload_n 0, 1) := by decide +kernel
theorem d_Find_append_63 : decode b_Find_append 63 = .ok (.getfield 16, 3) := by decide +kernel
theorem d_Find_append_66 : decode b_Find_append 66 = .ok (.aload_n 0, 1) := by decide +kernel
theorem d_Find_append_67 : decode b_Find_append 67 = .ok (.getfield 20, 3) := by decide +kernel
theorem d_Find_append_70 : decode b_Find_append 70 = .ok (.aload_n 1, 1) := by decide +kernel
theorem d_Find_append_71 : decode b_Find_append 71 = .ok (.iload_n 2, 1) := by decide +kernel
theorem d_Find_append_72 : decode b_Find_append 72 = .ok (.invokevirtual 39, 3) := by decide +kernel
theorem d_Find_append_75 : decode b_Find_append 75 = .ok (.iastore, 1) := by decide +kernel
theorem d_Find_append_76 : decode b_Find_append 76 = .ok (.aload_n 0, 1) := by decide +kernel
theorem d_Find_append_77 : decode b_Find_append 77 = .ok (.dup, 1) := by decide +kernel
theorem d_Find_append_78 : decode b_Find_append 78 = .ok (.getfield 20, 3) := by decide +kernel
theorem d_Find_append_81 : decode b_Find_append 81 = .ok (.iconst 1, 1) := by decide +kernel
theorem d_Find_append_82 : decode b_Find_append 82 = .ok (.iadd, 1) := by decide +kernel
theorem d_Find_append_83 : decode b_Find_append 83 = .ok (.putfield 20, 3) := by decide +kernel
theorem d_Find_append_86 : decode b_Find_append 86 = .ok (.return_, 1) := by decide +kernel
theorem d_Find_position_0 : decode b_Find_position 0 = .ok (.aload_n 0, 1) := by decide +kernel
theorem d_Find_position_1 : decode b_Find_position 1 = .ok (.getfield 11, 3) := by decide +kernel
theorem d_Find_position_4 : decode b_Find_position 4 = .ok (.iload_n 1, 1) := by decide +kernel
theorem d_Find_position_5 : decode b_Find_position 5 = .ok (.aaload, 1) := by decide +kernel
theorem d_Find_position_6 : decode b_Find_position 6 = .ok (.iconst 2, 1) := by decide +kernel
theorem d_Find_position_7 : decode b_Find_position 7 = .ok (.iaload, 1) := by decide +kernel
theorem d_Find_position_8 : decode b_Find_position 8 = .ok (.sipush 256, 3) := by decide +kernel
theorem d_Find_position_11 : decode b_Find_position 11 = .ok (.aload_n 0, 1) := by decide +kernel
theorem d_Find_position_12 : decode b_Find_position 12 = .ok (.getfield 11, 3) := by decide +kernel
theorem d_Find_position_15 : decode b_Find_position 15 = .ok (.iload_n 1, 1) := by decide +kernel
theorem d_Find_position_16 : decode b_Find_position 16 = .ok (.aaload, 1) := by decide +kernel
theorem d_Find_position_17 : decode b_Find_position 17 = .ok (.iconst 3, 1) := by decide +kernel
theorem d_Find_position_18 : decode b_Find_position 18 = .ok (.iaload, 1) := by decide +kernel
theorem d_Find_position_19 : decode b_Find_position 19 = .ok (.imul, 1) := by decide +kernel
theorem d_Find_position_20 : decode b_Find_position 20 = .ok (.iadd, 1) := by decide +kernel
theorem d_Find_position_21 : decode b_Find_position 21 = .ok (.ireturn, 1) := by decide +kernel
theorem d_Find_end_0 : decode b_Find_end 0 = .ok (.aload_n 0, 1) := by decide +kernel
theorem d_Find_end_1 : decode b_Find_end 1 = .ok (.iload_n 1, 1) := by decide +kernel
theorem d_Find_end_2 : decode b_Find_end 2 = .ok (.invokevirtual 42, 3) := by decide +kernel
theorem d_Find_end_5 : decode b_Find_end 5 = .ok (.aload_n 0, 1) := by decide +kernel
theorem d_Find_end_6 : decode b_Find_end 6 = .ok (.getfield 11, 3) := by decide +kernel
theorem d_Find_end_9 : decode b_Find_end 9 = .ok (.iload_n 1, 1) := by decide +kernel
theorem d_Find_end_10 : decode b_Find_end 10 = .ok (.aaload, 1) := by decide +kernel
theorem d_Find_end_11 : decode b_Find_end 11 = .ok (.bipush 7, 2) := by decide +kernel
theorem d_Find_end_13 : decode b_Find_end 13 = .ok (.aload_n 0, 1) := by decide +kernel
theorem d_Find_end_14 : decode b_Find_end 14 = .ok (.iload_n 1, 1) := by decide +kernel
theorem d_Find_end_15 : decode b_Find_end 15 = .ok (.invokevirtual 45, 3) := by decide +kernel
theorem d_Find_end_18 : decode b_Find_end 18 = .ok (.invokestatic 48, 3) := by decide +kernel
theorem d_Find_end_21 : decode b_Find_end 21 = .ok (.iadd, 1) := by decide +kernel
theorem d_Find_end_22 : decode b_Find_end 22 = .ok (.ireturn, 1) := by decide +kernel
theorem d_Find_opCount_0 : decode b_Find_opCount 0 = .ok (.aload_n 0, 1) := by decide +kernel
theorem d_Find_opCount_1 : decode b_Find_opCount 1 = .ok (.getfield 11, 3) := by decide +kernel
theorem d_Find_opCount_4 : decode b_Find_opCount 4 = .ok (.iload_n 1, 1) := by decide +kernel
theorem d_Find_opCount_5 : decode b_Find_opCount 5 = .ok (.aaload, 1) := by decide +kernel
theorem d_Find_opCount_6 : decode b_Find_opCount 6 = .ok (.iconst 5, 1) := by decide +kernel
theorem d_Find_opCount_7 : decode b_Find_opCount 7 = .ok (.iaload, 1) := by decide +kernel
theorem d_Find_opCount_8 : decode b_Find_opCount 8 = .ok (.ireturn, 1) := by decide +kernel
theorem d_Find_baseCount_0 : decode b_Find_baseCount 0 = .ok (.aload_n 0, 1) := by decide +kernel
theorem d_Find_baseCount_1 : decode b_Find_baseCount 1 = .ok (.getfield 11, 3) := by decide +kernel
theorem d_Find_baseCount_4 : decode b_Find_baseCount 4 = .ok (.iload_n 1, 1) := by decide +kernel
theorem d_Find_baseCount_5 : decode b_Find_baseCount 5 = .ok (.aaload, 1) := by decide +kernel
theorem d_Find_baseCount_6 : decode b_Find_baseCount 6 = .ok (.bipush 6, 2) := by decide +kernel
theorem d_Find_baseCount_8 : decode b_Find_baseCount 8 = .ok (.iaload, 1) := by decide +kernel
theorem d_Find_baseCount_9 : decode b_Find_baseCount 9 = .ok (.ireturn, 1) := by decide +kernel
theorem d_Indx_init_0 : decode b_Indx_init 0 = .ok (.aload_n 0, 1) := by decide +kernel
theorem d_Indx_init_1 : decode b_Indx_init 1 = .ok (.invokespecial 3, 3) := by decide +kernel
theorem d_Indx_init_4 : decode b_Indx_init 4 = .ok (.aload_n 0, 1) := by decide +kernel
theorem d_Indx_init_5 : decode b_Indx_init 5 = .ok (.bipush 24, 2) := by decide +kernel
theorem d_Indx_init_7 : decode b_Indx_init 7 = .ok (.newarray .int, 2) := by decide +kernel
theorem d_Indx_init_9 : decode b_Indx_init 9 = .ok (.putfield 9, 3) := by decide +kernel
theorem d_Indx_init_12 : decode b_Indx_init 12 = .ok (.aload_n 0, 1) := by decide +kernel
theorem d_Indx_init_13 : decode b_Indx_init 13 = .ok (.bipush 24, 2) := by decide +kernel
theorem d_Indx_init_15 : decode b_Indx_init 15 = .ok (.newarray .int, 2) := by decide +kernel
theorem d_Indx_init_17 : decode b_Indx_init 17 = .ok (.putfield 15, 3) := by decide +kernel
theorem d_Indx_init_20 : decode b_Indx_init 20 = .ok (.aload_n 0, 1) := by decide +kernel
theorem d_Indx_init_21 : decode b_Indx_init 21 = .ok (.bipush 24, 2) := by decide +kernel
theorem d_Indx_init_23 : decode b_Indx_init 23 = .ok (.newarray .int, 2) := by decide +kernel
theorem d_Indx_init_25 : decode b_Indx_init 25 = .ok (.putfield 18, 3) := by decide +kernel
theorem d_Indx_init_28 : decode b_Indx_init 28 = .ok (.aload_n 0, 1) := by decide +kernel
theorem d_Indx_init_29 : decode b_Indx_init 29 = .ok (.bipush 24, 2) := by decide +kernel
theorem d_Indx_init_31 : decode b_Indx_init 31 = .ok (.newarray .int, 2) := by decide +kernel
theorem d_Indx_init_33 : decode b_Indx_init 33 = .ok (.putfield 21, 3) := by decide +kernel
theorem d_Indx_init_36 : decode b_Indx_init 36 = .ok (.aload_n 0, 1) := by decide +kernel
theorem d_Indx_init_37 : decode b_Indx_init 37 = .ok (.bipush 24, 2) := by decide +kernel
theorem d_Indx_init_39 : decode b_Indx_init 39 = .ok (.newarray .int, 2) := by decide +kernel
theorem d_Indx_init_41 : decode b_Indx_init 41 = .ok (.putfield 24, 3) := by decide +kernel
theorem d_Indx_init_44 : decode b_Indx_init 44 = .ok (.aload_n 0, 1) := by decide +kernel
theorem d_Indx_init_45 : decode b_Indx_init 45 = .ok (.bipush 24, 2) := by decide +kernel
theorem d_Indx_init_47 : decode b_Indx_init 47 = .ok (.newarray .int, 2) := by decide +kernel
theorem d_Indx_init_49 : decode b_Indx_init 49 = .ok (.putfield 27, 3) := by decide +kernel
theorem d_Indx_init_52 : decode b_Indx_init 52 = .ok (.return_, 1) := by decide +kernel
theorem d_Indx_empty_0 : decode b_Indx_empty 0 = .ok (.aload_n 0, 1) := by decide +kernel
theorem d_Indx_empty_1 : decode b_Indx_empty 1 = .ok (.iconst 0, 1) := by decide +kernel
theorem d_Indx_empty_2 : decode b_Indx_empty 2 = .ok (.putfield 30, 3) := by decide +kernel
theorem d_Indx_empty_5 : decode b_Indx_empty 5 = .ok (.aload_n 0, 1) := by decide +kernel
theorem d_Indx_empty_6 : decode b_Indx_empty 6 = .ok (.iconst 0, 1) := by decide +kernel
theorem d_Indx_empty_7 : decode b_Indx_empty 7 = .ok (.putfield 34, 3) := by decide +kernel
theorem d_Indx_empty_10 : decode b_Indx_empty 10 = .ok (.return_, 1) := by decide +kernel
theorem d_Indx_isFull_0 : decode b_Indx_isFull 0 = .ok (.aload_n 0, 1) := by decide +kernel
theorem d_Indx_isFull_1 : decode b_Indx_isFull 1 = .ok (.getfield 30, 3) := by decide +kernel
theorem d_Indx_isFull_4 : decode b_Indx_isFull 4 = .ok (.bipush 24, 2) := by decide +kernel
theorem d_Indx_isFull_6 : decode b_Indx_isFull 6 = .ok (.if_icmp .lt 7, 3) := by decide +kernel
theorem d_Indx_isFull_9 : decode b_Indx_isFull 9 = .ok (.iconst 1, 1) := by decide +kernel
theorem d_Indx_isFull_10 : decode b_Indx_isFull 10 = .ok (.goto 4, 3) := by decide +kernel
theorem d_Indx_isFull_13 : decode b_Indx_isFull 13 = .ok (.iconst 0, 1) := by decide +kernel
theorem d_Indx_isFull_14 : decode b_Indx_isFull 14 = .ok (.ireturn, 1) := by decide +kernel
theorem d_Indx_endsBehind_0 : decode b_Indx_endsBehind 0 = .ok (.aload_n 0, 1) := by decide +kernel
theorem d_Indx_endsBehind_1 : decode b_Indx_endsBehind 1 = .ok (.getfield 30, 3) := by decide +kernel
theorem d_Indx_endsBehind_4 : decode b_Indx_endsBehind 4 = .ok (.ifCond .ne 5, 3) := by decide +kernel
theorem d_Indx_endsBehind_7 : decode b_Indx_endsBehind 7 = .ok (.iconst 0, 1) := by decide +kernel
theorem d_Indx_endsBehind_8 : decode b_Indx_endsBehind 8 = .ok (.ireturn, 1) := by decide +kernel
theorem d_Indx_endsBehind_9 : decode b_Indx_endsBehind 9 = .ok (.aload_n 0, 1) := by decide +kernel
theorem d_Indx_endsBehind_10 : decode b_Indx_endsBehind 10 = .ok (.getfield 30, 3) := by decide +kernel
theorem d_Indx_endsBehind_13 : decode b_Indx_endsBehind 13 = .ok (.iconst 1, 1) := by decide +kernel
theorem d_Indx_endsBehind_14 : decode b_Indx_endsBehind 14 = .ok (.isub, 1) := by decide +kernel
theorem d_Indx_endsBehind_15 : decode b_Indx_endsBehind 15 = .ok (.istore_n 3, 1) := by decide +kernel
theorem d_Indx_endsBehind_16 : decode b_Indx_endsBehind 16 = .ok (.iload_n 1, 1) := by decide +kernel
theorem d_Indx_endsBehind_17 : decode b_Indx_endsBehind 17 = .ok (.aload_n 0, 1) := by decide +kernel
theorem d_Indx_endsBehind_18 : decode b_Indx_endsBehind 18 = .ok (.getfield 9, 3) := by decide +kernel
theorem d_Indx_endsBehind_21 : decode b_Indx_endsBehind 21 = .ok (.iload_n 3, 1) := by decide +kernel
theorem d_Indx_endsBehind_22 : decode b_Indx_endsBehind 22 = .ok (.iaload, 1) := by decide +kernel
theorem d_Indx_endsBehind_23 : decode b_Indx_endsBehind 23 = .ok (.if_icmp .lt 23, 3) := by decide +kernel
theorem d_Indx_endsBehind_26 : decode b_Indx_endsBehind 26 = .ok (.iload_n 1, 1) := by decide +kernel
theorem d_Indx_endsBehind_27 : decode b_Indx_endsBehind 27 = .ok (.aload_n 0, 1) := by decide +kernel
theorem d_Indx_endsBehind_28 : decode b_Indx_endsBehind 28 = .ok (.getfield 9, 3) := by decide +kernel
theorem d_Indx_endsBehind_31 : decode b_Indx_endsBehind 31 = .ok (.iload_n 3, 1) := by decide +kernel
theorem d_Indx_endsBehind_32 : decode b_Indx_endsBehind 32 = .ok (.iaload, 1) := by decide +kernel
theorem d_Indx_endsBehind_33 : decode b_Indx_endsBehind 33 = .ok (.if_icmp .ne 17, 3) := by decide +kernel
theorem d_Indx_endsBehind_36 : decode b_Indx_endsBehind 36 = .ok (.iload_n 2, 1) := by decide +kernel
theorem d_Indx_endsBehind_37 : decode b_Indx_endsBehind 37 = .ok (.aload_n 0, 1) := by decide +kernel
theorem d_Indx_endsBehind_38 : decode b_Indx_endsBehind 38 = .ok (.getfield 15, 3) := by decide +kernel
theorem d_Indx_endsBehind_41 : decode b_Indx_endsBehind 41 = .ok (.iload_n 3, 1) := by decide +kernel
theorem d_Indx_endsBehind_42 : decode b_Indx_endsBehind 42 = .ok (.iaload, 1) := by decide +kernel
theorem d_Indx_endsBehind_43 : decode b_Indx_endsBehind 43 = .ok (.if_icmp .ge 7, 3) := by decide +kernel
theorem d_Indx_endsBehind_46 : decode b_Indx_endsBehind 46 = .ok (.iconst 1, 1) := by decide +kernel
theorem d_Indx_endsBehind_47 : decode b_Indx_endsBehind 47 = .ok (.goto 4, 3) := by decide +kernel
theorem d_Indx_endsBehind_50 : decode b_Indx_endsBehind 50 = .ok (.iconst 0, 1) := by decide +kernel
theorem d_Indx_endsBehind_51 : decode b_Indx_endsBehind 51 = .ok (.ireturn, 1) := by decide +kernel
theorem d_Indx_append_0 : decode b_Indx_append 0 = .ok (.aload_n 0, 1) := by decide +kernel
theorem d_Indx_append_1 : decode b_Indx_append 1 = .ok (.invokevirtual 37, 3) := by decide +kernel
theorem d_Indx_append_4 : decode b_Indx_append 4 = .ok (.ifCond .eq 5, 3) := by decide +kernel
theorem d_Indx_append_7 : decode b_Indx_append 7 = .ok (.iconst (-1), 1) := by decide +kernel
theorem d_Indx_append_8 : decode b_Indx_append 8 = .ok (.ireturn, 1) := by decide +kernel
theorem d_Indx_append_9 : decode b_Indx_append 9 = .ok (.aload_n 0, 1) := by decide +kernel
theorem d_Indx_append_10 : decode b_Indx_append 10 = .ok (.getfield 9, 3) := by decide +kernel
theorem d_Indx_append_13 : decode b_Indx_append 13 = .ok (.aload_n 0, 1) := by decide +kernel
theorem d_Indx_append_14 : decode b_Indx_append 14 = .ok (.getfield 30, 3) := by decide +kernel
theorem d_Indx_append_17 : decode b_Indx_append 17 = .ok (.iload_n 1, 1) := by decide +kernel
theorem d_Indx_append_18 : decode b_Indx_append 18 = .ok (.iastore, 1) := by decide +kernel
theorem d_Indx_append_19 : decode b_Indx_append 19 = .ok (.aload_n 0, 1) := by decide +kernel
theorem d_Indx_append_20 : decode b_Indx_append 20 = .ok (.getfield 15, 3) := by decide +kernel
theorem d_Indx_append_23 : decode b_Indx_append 23 = .ok (.aload_n 0, 1) := by decide +kernel
theorem d_Indx_append_24 : decode b_Indx_append 24 = .ok (.getfield 30, 3) := by decide +kernel
theorem d_Indx_append_27 : decode b_Indx_append 27 = .ok (.iload_n 2, 1) := by decide +kernel
theorem d_Indx_append_28 : decode b_Indx_append 28 = .ok (.iastore, 1) := by decide +kernel
theorem d_Indx_append_29 : decode b_Indx_append 29 = .ok (.aload_n 0, 1) := by decide +kernel
theorem d_Indx_append_30 : decode b_Indx_append 30 = .ok (.getfield 18, 3) := by decide +kernel
theorem d_Indx_append_33 : decode b_Indx_append 33 = .ok (.aload_n 0, 1) := by decide +kernel
theorem d_Indx_append_34 : decode b_Indx_append 34 = .ok (.getfield 30, 3) := by decide +kernel
theorem d_Indx_append_37 : decode b_Indx_append 37 = .ok (.iload_n 3, 1) := by decide +kernel
theorem d_Indx_append_38 : decode b_Indx_append 38 = .ok (.iastore, 1) := by decide +kernel
theorem d_Indx_append_39 : decode b_Indx_append 39 = .ok (.aload_n 0, 1) := by decide +kernel
theorem d_Indx_append_40 : decode b_Indx_append 40 = .ok (.getfield 21, 3) := by decide +kernel
theorem d_Indx_append_43 : decode b_Indx_append 43 = .ok (.aload_n 0, 1) := by decide +kernel
theorem d_Indx_append_44 : decode b_Indx_append 44 = .ok (.getfield 30, 3) := by decide +kernel
theorem d_Indx_append_47 : decode b_Indx_append 47 = .ok (.iload 4, 2) := by decide +kernel
theorem d_Indx_append_49 : decode b_Indx_append 49 = .ok (.iastore, 1) := by decide +kernel
theorem d_Indx_append_50 : decode b_Indx_append 50 = .ok (.aload_n 0, 1) := by decide +kernel
theorem d_Indx_append_51 : decode b_Indx_append 51 = .ok (.getfield 24, 3) := by decide +kernel
theorem d_Indx_append_54 : decode b_Indx_append 54 = .ok (.aload_n 0, 1) := by decide +kernel
theorem d_Indx_append_55 : decode b_Indx_append 55 = .ok (.getfield 30, 3) := by decide +kernel
theorem d_Indx_append_58 : decode b_Indx_append 58 = .ok (.iload 5, 2) := by decide +kernel
theorem d_Indx_append_60 : decode b_Indx_append 60 = .ok (.iastore, 1) := by decide +kernel
theorem d_Indx_append_61 : decode b_Indx_append 61 = .ok (.aload_n 0, 1) := by decide +kernel
theorem d_Indx_append_62 : decode b_Indx_append 62 = .ok (.dup, 1) := by decide +kernel
theorem d_Indx_append_63 : decode b_Indx_append 63 = .ok (.getfield 30, 3) := by decide +kernel
theorem d_Indx_append_66 : decode b_Indx_append 66 = .ok (.dup_x1, 1) := by decide +kernel
theorem d_Indx_append_67 : decode b_Indx_append 67 = .ok (.iconst 1, 1) := by decide +kernel
theorem d_Indx_append_68 : decode b_Indx_append 68 = .ok (.iadd, 1) := by decide +kernel
theorem d_Indx_append_69 : decode b_Indx_append 69 = .ok (.putfield 30, 3) := by decide +kernel
theorem d_Indx_append_72 : decode b_Indx_append 72 = .ok (.ireturn, 1) := by decide +kernel
theorem d_Indx_choose_0 : decode b_Indx_choose 0 = .ok (.aload_n 0, 1) := by decide +kernel
theorem d_Indx_choose_1 : decode b_Indx_choose 1 = .ok (.iconst 0, 1) := by decide +kernel
theorem d_Indx_choose_2 : decode b_Indx_choose 2 = .ok (.putfield 34, 3) := by decide +kernel
theorem d_Indx_choose_5 : decode b_Indx_choose 5 = .ok (.aload_n 0, 1) := by decide +kernel
theorem d_Indx_choose_6 : decode b_Indx_choose 6 = .ok (.iload_n 1, 1) := by decide +kernel
theorem d_Indx_choose_7 : decode b_Indx_choose 7 = .ok (.bipush 64, 2) := by decide +kernel
theorem d_Indx_choose_9 : decode b_Indx_choose 9 = .ok (.iload_n 2, 1) := by decide +kernel
theorem d_Indx_choose_10 : decode b_Indx_choose 10 = .ok (.bipush 64, 2) := by decide +kernel
theorem d_Indx_choose_12 : decode b_Indx_choose 12 = .ok (.idiv, 1) := by decide +kernel
theorem d_Indx_choose_13 : decode b_Indx_choose 13 = .ok (.imul, 1) := by decide +kernel
theorem d_Indx_choose_14 : decode b_Indx_choose 14 = .ok (.invokevirtual 41, 3) := by decide +kernel
theorem d_Indx_choose_17 : decode b_Indx_choose 17 = .ok (.istore 4, 2) := by decide +kernel
theorem d_Indx_choose_19 : decode b_Indx_choose 19 = .ok (.iload 4, 2) := by decide +kernel
theorem d_Indx_choose_21 : decode b_Indx_choose 21 = .ok (.istore 5, 2) := by decide +kernel
theorem d_Indx_choose_23 : decode b_Indx_choose 23 = .ok (.iload 5, 2) := by decide +kernel
theorem d_Indx_choose_25 : decode b_Indx_choose 25 = .ok (.aload_n 0, 1) := by decide +kernel
theorem d_Indx_choose_26 : decode b_Indx_choose 26 = .ok (.getfield 30, 3) := by decide +kernel
theorem d_Indx_choose_29 : decode b_Indx_choose 29 = .ok (.if_icmp .ge 53, 3) := by decide +kernel
theorem d_Indx_choose_32 : decode b_Indx_choose 32 = .ok (.aload_n 0, 1) := by decide +kernel
theorem d_Indx_choose_33 : decode b_Indx_choose 33 = .ok (.getfield 9, 3) := by decide +kernel
theorem d_Indx_choose_36 : decode b_Indx_choose 36 = .ok (.iload 5, 2) := by decide +kernel
theorem d_Indx_choose_38 : decode b_Indx_choose 38 = .ok (.iaload, 1) := by decide +kernel
theorem d_Indx_choose_39 : decode b_Indx_choose 39 = .ok (.iload_n 1, 1) := by decide +kernel
theorem d_Indx_choose_40 : decode b_Indx_choose 40 = .ok (.if_icmp .ne 36, 3) := by decide +kernel
theorem d_Indx_choose_43 : decode b_Indx_choose 43 = .ok (.aload_n 0, 1) := by decide +kernel
theorem d_Indx_choose_44 : decode b_Indx_choose 44 = .ok (.getfield 21, 3) := by decide +kernel
theorem d_Indx_choose_47 : decode b_Indx_choose 47 = .ok (.iload 5, 2) := by decide +kernel
theorem d_Indx_choose_49 : decode b_Indx_choose 49 = .ok (.iaload, 1) := by decide +kernel
theorem d_Indx_choose_50 : decode b_Indx_choose 50 = .ok (.iload_n 2, 1) := by decide +kernel
theorem d_Indx_choose_51 : decode b_Indx_choose 51 = .ok (.iload_n 3, 1) := by decide +kernel
theorem d_Indx_choose_52 : decode b_Indx_choose 52 = .ok (.invokestatic 45, 3) := by decide +kernel
theorem d_Indx_choose_55 : decode b_Indx_choose 55 = .ok (.ifCond .eq 21, 3) := by decide +kernel
theorem d_Indx_choose_58 : decode b_Indx_choose 58 = .ok (.aload_n 0, 1) := by decide +kernel
theorem d_Indx_choose_59 : decode b_Indx_choose 59 = .ok (.getfield 27, 3) := by decide +kernel
theorem d_Indx_choose_62 : decode b_Indx_choose 62 = .ok (.aload_n 0, 1) := by decide +kernel
theorem d_Indx_choose_63 : decode b_Indx_choose 63 = .ok (.dup, 1) := by decide +kernel
theorem d_Indx_choose_64 : decode b_Indx_choose 64 = .ok (.getfield 34, 3) := by decide +kernel
theorem d_Indx_choose_67 : decode b_Indx_choose 67 = .ok (.dup_x1, 1) := by decide +kernel
theorem d_Indx_choose_68 : decode b_Indx_choose 68 = .ok (.iconst 1, 1) := by decide +kernel
theorem d_Indx_choose_69 : decode b_Indx_choose 69 = .ok (.iadd, 1) := by decide +kernel
theorem d_Indx_choose_70 : decode b_Indx_choose 70 = .ok (.putfield 34, 3) := by decide +kernel
theorem d_Indx_choose_73 : decode b_Indx_choose 73 = .ok (.iload 5, 2) := by decide +kernel
theorem d_Indx_choose_75 : decode b_Indx_choose 75 = .ok (.iastore, 1) := by decide +kernel
theorem d_Indx_choose_76 : decode b_Indx_choose 76 = .ok (.iinc 5 1, 3) := by decide +kernel
theorem d_Indx_choose_79 : decode b_Indx_choose 79 = .ok (.goto (-56), 3) := by decide +kernel
theorem d_Indx_choose_82 : decode b_Indx_choose 82 = .ok (.return_, 1) := by decide +kernel
theorem d_Indx_overlaps_0 : decode b_Indx_overlaps 0 = .ok (.aload_n 0, 1) := by decide +kernel
theorem d_Indx_overlaps_1 : decode b_Indx_overlaps 1 = .ok (.getfield 15, 3) := by decide +kernel
theorem d_Indx_overlaps_4 : decode b_Indx_overlaps 4 = .ok (.iload_n 1, 1) := by decide +kernel
theorem d_Indx_overlaps_5 : decode b_Indx_overlaps 5 = .ok (.iaload, 1) := by decide +kernel
theorem d_Indx_overlaps_6 : decode b_Indx_overlaps 6 = .ok (.iload_n 3, 1) := by decide +kernel
theorem d_Indx_overlaps_7 : decode b_Indx_overlaps 7 = .ok (.if_icmp .ge 17, 3) := by decide +kernel
theorem d_Indx_overlaps_10 : decode b_Indx_overlaps 10 = .ok (.iload_n 2, 1) := by decide +kernel
theorem d_Indx_overlaps_11 : decode b_Indx_overlaps 11 = .ok (.aload_n 0, 1) := by decide +kernel
theorem d_Indx_overlaps_12 : decode b_Indx_overlaps 12 = .ok (.getfield 18, 3) := by decide +kernel
theorem d_Indx_overlaps_15 : decode b_Indx_overlaps 15 = .ok (.iload_n 1, 1) := by decide +kernel
theorem d_Indx_overlaps_16 : decode b_Indx_overlaps 16 = .ok (.iaload, 1) := by decide +kernel
theorem d_Indx_overlaps_17 : decode b_Indx_overlaps 17 = .ok (.if_icmp .ge 7, 3) := by decide +kernel
theorem d_Indx_overlaps_20 : decode b_Indx_overlaps 20 = .ok (.iconst 1, 1) := by decide +kernel
theorem d_Indx_overlaps_21 : decode b_Indx_overlaps 21 = .ok (.goto 4, 3) := by decide +kernel
theorem d_Indx_overlaps_24 : decode b_Indx_overlaps 24 = .ok (.iconst 0, 1) := by decide +kernel
theorem d_Indx_overlaps_25 : decode b_Indx_overlaps 25 = .ok (.ireturn, 1) := by decide +kernel
theorem d_Indx_firstEndingAfter_0 : decode b_Indx_firstEndingAfter 0 = .ok (.iconst 0, 1) := by decide +kernel
theorem d_Indx_firstEndingAfter_1 : decode b_Indx_firstEndingAfter 1 = .ok (.istore_n 3, 1) := by decide +kernel
theorem d_Indx_firstEndingAfter_2 : decode b_Indx_firstEndingAfter 2 = .ok (.iload_n 3, 1) := by decide +kernel
theorem d_Indx_firstEndingAfter_3 : decode b_Indx_firstEndingAfter 3 = .ok (.aload_n 0, 1) := by decide +kernel
theorem d_Indx_firstEndingAfter_4 : decode b_Indx_firstEndingAfter 4 = .ok (.getfield 30, 3) := by decide +kernel
theorem d_Indx_firstEndingAfter_7 : decode b_Indx_firstEndingAfter 7 = .ok (.if_icmp .ge 31, 3) := by decide +kernel
theorem d_Indx_firstEndingAfter_10 : decode b_Indx_firstEndingAfter 10 = .ok (.aload_n 0, 1) := by decide +kernel
theorem d_Indx_firstEndingAfter_11 : decode b_Indx_firstEndingAfter 11 = .ok (.getfield 9, 3) := by decide +kernel
theorem d_Indx_firstEndingAfter_14 : decode b_Indx_firstEndingAfter 14 = .ok (.iload_n 3, 1) := by decide +kernel
theorem d_Indx_firstEndingAfter_15 : decode b_Indx_firstEndingAfter 15 = .ok (.iaload, 1) := by decide +kernel
theorem d_Indx_firstEndingAfter_16 : decode b_Indx_firstEndingAfter 16 = .ok (.iload_n 1, 1) := by decide +kernel
theorem d_Indx_firstEndingAfter_17 : decode b_Indx_firstEndingAfter 17 = .ok (.if_icmp .ne 15, 3) := by decide +kernel
theorem d_Indx_firstEndingAfter_20 : decode b_Indx_firstEndingAfter 20 = .ok (.aload_n 0, 1) := by decide +kernel
theorem d_Indx_firstEndingAfter_21 : decode b_Indx_firstEndingAfter 21 = .ok (.getfield 18, 3) := by decide +kernel
theorem d_Indx_firstEndingAfter_24 : decode b_Indx_firstEndingAfter 24 = .ok (.iload_n 3, 1) := by decide +kernel
theorem d_Indx_firstEndingAfter_25 : decode b_Indx_firstEndingAfter 25 = .ok (.iaload, 1) := by decide +kernel
theorem d_Indx_firstEndingAfter_26 : decode b_Indx_firstEndingAfter 26 = .ok (.iload_n 2, 1) := by decide +kernel
theorem d_Indx_firstEndingAfter_27 : decode b_Indx_firstEndingAfter 27 = .ok (.if_icmp .le 5, 3) := by decide +kernel
theorem d_Indx_firstEndingAfter_30 : decode b_Indx_firstEndingAfter 30 = .ok (.iload_n 3, 1) := by decide +kernel
theorem d_Indx_firstEndingAfter_31 : decode b_Indx_firstEndingAfter 31 = .ok (.ireturn, 1) := by decide +kernel
theorem d_Indx_firstEndingAfter_32 : decode b_Indx_firstEndingAfter 32 = .ok (.iinc 3 1, 3) := by decide +kernel
theorem d_Indx_firstEndingAfter_35 : decode b_Indx_firstEndingAfter 35 = .ok (.goto (-33), 3) := by decide +kernel
theorem d_Indx_firstEndingAfter_38 : decode b_Indx_firstEndingAfter 38 = .ok (.aload_n 0, 1) := by decide +kernel
theorem d_Indx_firstEndingAfter_39 : decode b_Indx_firstEndingAfter 39 = .ok (.getfield 30, 3) := by decide +kernel
theorem d_Indx_firstEndingAfter_42 : decode b_Indx_firstEndingAfter 42 = .ok (.ireturn, 1) := by decide +kernel
theorem d_Strm_init_0 : decode b_Strm_init 0 = .ok (.aload_n 0, 1) := by decide +kernel
theorem d_Strm_init_1 : decode b_Strm_init 1 = .ok (.invokespecial 3, 3) := by decide +kernel
theorem d_Strm_init_4 : decode b_Strm_init 4 = .ok (.aload_n 0, 1) := by decide +kernel
theorem d_Strm_init_5 : decode b_Strm_init 5 = .ok (.sipush 528, 3) := by decide +kernel
theorem d_Strm_init_8 : decode b_Strm_init 8 = .ok (.newarray .int, 2) := by decide +kernel
theorem d_Strm_init_10 : decode b_Strm_init 10 = .ok (.putfield 9, 3) := by decide +kernel
theorem d_Strm_init_13 : decode b_Strm_init 13 = .ok (.return_, 1) := by decide +kernel
theorem d_Strm_empty_0 : decode b_Strm_empty 0 = .ok (.aload_n 0, 1) := by decide +kernel
theorem d_Strm_empty_1 : decode b_Strm_empty 1 = .ok (.iconst 0, 1) := by decide +kernel
theorem d_Strm_empty_2 : decode b_Strm_empty 2 = .ok (.putfield 15, 3) := by decide +kernel
theorem d_Strm_empty_5 : decode b_Strm_empty 5 = .ok (.return_, 1) := by decide +kernel
theorem d_Strm_appendRow_0 : decode b_Strm_appendRow 0 = .ok (.aload_n 0, 1) := by decide +kernel
theorem d_Strm_appendRow_1 : decode b_Strm_appendRow 1 = .ok (.getfield 15, 3) := by decide +kernel
theorem d_Strm_appendRow_4 : decode b_Strm_appendRow 4 = .ok (.istore 5, 2) := by decide +kernel
theorem d_Strm_appendRow_6 : decode b_Strm_appendRow 6 = .ok (.aload_n 0, 1) := by decide +kernel
theorem d_Strm_appendRow_7 : decode b_Strm_appendRow 7 = .ok (.iconst 0, 1) := by decide +kernel
theorem d_Strm_appendRow_8 : decode b_Strm_appendRow 8 = .ok (.invokevirtual 19, 3) := by decide +kernel
theorem d_Strm_appendRow_11 : decode b_Strm_appendRow 11 = .ok (.aload_n 0, 1) := by decide +kernel
theorem d_Strm_appendRow_12 : decode b_Strm_appendRow 12 = .ok (.iload_n 2, 1) := by decide +kernel
theorem d_Strm_appendRow_13 : decode b_Strm_appendRow 13 = .ok (.invokevirtual 19, 3) := by decide +kernel
theorem d_Strm_appendRow_16 : decode b_Strm_appendRow 16 = .ok (.aload_n 0, 1) := by decide +kernel
theorem d_Strm_appendRow_17 : decode b_Strm_appendRow 17 = .ok (.iload_n 3, 1) := by decide +kernel
theorem d_Strm_appendRow_18 : decode b_Strm_appendRow 18 = .ok (.sipush 255, 3) := by decide +kernel
theorem d_Strm_appendRow_21 : decode b_Strm_appendRow 21 = .ok (.iand, 1) := by decide +kernel
theorem d_Strm_appendRow_22 : decode b_Strm_appendRow 22 = .ok (.invokevirtual 19, 3) := by decide +kernel
theorem d_Strm_appendRow_25 : decode b_Strm_appendRow 25 = .ok (.aload_n 0, 1) := by decide +kernel
theorem d_Strm_appendRow_26 : decode b_Strm_appendRow 26 = .ok (.iload_n 3, 1) := by decide +kernel
theorem d_Strm_appendRow_27 : decode b_Strm_appendRow 27 = .ok (.bipush 8, 2) := by decide +kernel
theorem d_Strm_appendRow_29 : decode b_Strm_appendRow 29 = .ok (.iushr, 1) := by decide +kernel
theorem d_Strm_appendRow_30 : decode b_Strm_appendRow 30 = .ok (.invokevirtual 19, 3) := by decide +kernel
theorem d_Strm_appendRow_33 : decode b_Strm_appendRow 33 = .ok (.aload_n 0, 1) := by decide +kernel
theorem d_Strm_appendRow_34 : decode b_Strm_appendRow 34 = .ok (.iload 4, 2) := by decide +kernel
theorem d_Strm_appendRow_36 : decode b_Strm_appendRow 36 = .ok (.invokevirtual 19, 3) := by decide +kernel
theorem d_Strm_appendRow_39 : decode b_Strm_appendRow 39 = .ok (.aload_n 0, 1) := by decide +kernel
theorem d_Strm_appendRow_40 : decode b_Strm_appendRow 40 = .ok (.aload_n 1, 1) := by decide +kernel
theorem d_Strm_appendRow_41 : decode b_Strm_appendRow 41 = .ok (.getfield 23, 3) := by decide +kernel
theorem d_Strm_appendRow_44 : decode b_Strm_appendRow 44 = .ok (.invokevirtual 19, 3) := by decide +kernel
theorem d_Strm_appendRow_47 : decode b_Strm_appendRow 47 = .ok (.aload_n 0, 1) := by decide +kernel
theorem d_Strm_appendRow_48 : decode b_Strm_appendRow 48 = .ok (.aload_n 1, 1) := by decide +kernel
theorem d_Strm_appendRow_49 : decode b_Strm_appendRow 49 = .ok (.getfield 28, 3) := by decide +kernel
theorem d_Strm_appendRow_52 : decode b_Strm_appendRow 52 = .ok (.invokevirtual 19, 3) := by decide +kernel
theorem d_Strm_appendRow_55 : decode b_Strm_appendRow 55 = .ok (.iconst 0, 1) := by decide +kernel
theorem d_Strm_appendRow_56 : decode b_Strm_appendRow 56 = .ok (.istore 6, 2) := by decide +kernel
theorem d_Strm_appendRow_58 : decode b_Strm_appendRow 58 = .ok (.iload 6, 2) := by decide +kernel
theorem d_Strm_appendRow_60 : decode b_Strm_appendRow 60 = .ok (.aload_n 1, 1) := by decide +kernel
theorem d_Strm_appendRow_61 : decode b_Strm_appendRow 61 = .ok (.getfield 23, 3) := by decide +kernel
theorem d_Strm_appendRow_64 : decode b_Strm_appendRow 64 = .ok (.if_icmp .ge 20, 3) := by decide +kernel
theorem d_Strm_appendRow_67 : decode b_Strm_appendRow 67 = .ok (.aload_n 0, 1) := by decide +kernel
theorem d_Strm_appendRow_68 : decode b_Strm_appendRow 68 = .ok (.aload_n 1, 1) := by decide +kernel
theorem d_Strm_appendRow_69 : decode b_Strm_appendRow 69 = .ok (.getfield 31, 3) := by decide +kernel
theorem d_Strm_appendRow_72 : decode b_Strm_appendRow 72 = .ok (.iload 6, 2) := by decide +kernel
theorem d_Strm_appendRow_74 : decode b_Strm_appendRow 74 = .ok (.iaload, 1) := by decide +kernel
theorem d_Strm_appendRow_75 : decode b_Strm_appendRow 75 = .ok (.invokevirtual 19, 3) := by decide +kernel
theorem d_Strm_appendRow_78 : decode b_Strm_appendRow 78 = .ok (.iinc 6 1, 3) := by decide +kernel
theorem d_Strm_appendRow_81 : decode b_Strm_appendRow 81 = .ok (.goto (-23), 3) := by decide +kernel
theorem d_Strm_appendRow_84 : decode b_Strm_appendRow 84 = .ok (.iconst 0, 1) := by decide +kernel
theorem d_Strm_appendRow_85 : decode b_Strm_appendRow 85 = .ok (.istore 6, 2) := by decide +kernel
theorem d_Strm_appendRow_87 : decode b_Strm_appendRow 87 = .ok (.iload 6, 2) := by decide +kernel
theorem d_Strm_appendRow_89 : decode b_Strm_appendRow 89 = .ok (.aload_n 1, 1) := by decide +kernel
theorem d_Strm_appendRow_90 : decode b_Strm_appendRow 90 = .ok (.getfield 28, 3) := by decide +kernel
theorem d_Strm_appendRow_93 : decode b_Strm_appendRow 93 = .ok (.if_icmp .ge 19, 3) := by decide +kernel
theorem d_Strm_appendRow_96 : decode b_Strm_appendRow 96 = .ok (.aload_n 0, 1) := by decide +kernel
theorem d_Strm_appendRow_97 : decode b_Strm_appendRow 97 = .ok (.aload_n 1, 1) := by decide +kernel
theorem d_Strm_appendRow_98 : decode b_Strm_appendRow 98 = .ok (.iload 6, 2) := by decide +kernel
theorem d_Strm_appendRow_100 : decode b_Strm_appendRow 100 = .ok (.invokevirtual 34, 3) := by decide +kernel
theorem d_Strm_appendRow_103 : decode b_Strm_appendRow 103 = .ok (.invokevirtual 19, 3) := by decide +kernel
theorem d_Strm_appendRow_106 : decode b_Strm_appendRow 106 = .ok (.iinc 6 2, 3) := by decide +kernel
theorem d_Strm_appendRow_109 : decode b_Strm_appendRow 109 = .ok (.goto (-22), 3) := by decide +kernel
theorem d_Strm_appendRow_112 : decode b_Strm_appendRow 112 = .ok (.iload 5, 2) := by decide +kernel
theorem d_Strm_appendRow_114 : decode b_Strm_appendRow 114 = .ok (.aload_n 0, 1) := by decide +kernel
theorem d_Strm_appendRow_115 : decode b_Strm_appendRow 115 = .ok (.getfield 9, 3) := by decide +kernel
theorem d_Strm_appendRow_118 : decode b_Strm_appendRow 118 = .ok (.arraylength, 1) := by decide +kernel
theorem d_Strm_appendRow_119 : decode b_Strm_appendRow 119 = .ok (.if_icmp .ge 19, 3) := by decide +kernel
theorem d_Strm_appendRow_122 : decode b_Strm_appendRow 122 = .ok (.aload_n 0, 1) := by decide +kernel
theorem d_Strm_appendRow_123 : decode b_Strm_appendRow 123 = .ok (.getfield 9, 3) := by decide +kernel
theorem d_Strm_appendRow_126 : decode b_Strm_appendRow 126 = .ok (.iload 5, 2) := by decide +kernel
theorem d_Strm_appendRow_128 : decode b_Strm_appendRow 128 = .ok (.aload_n 0, 1) := by decide +kernel
theorem d_Strm_appendRow_129 : decode b_Strm_appendRow 129 = .ok (.getfield 15, 3) := by decide +kernel
theorem d_Strm_appendRow_132 : decode b_Strm_appendRow 132 = .ok (.iload 5, 2) := by decide +kernel
theorem d_Strm_appendRow_134 : decode b_Strm_appendRow 134 = .ok (.isub, 1) := by decide +kernel
theorem d_Strm_appendRow_135 : decode b_Strm_appendRow 135 = .ok (.iconst 1, 1) := by decide +kernel
theorem d_Strm_appendRow_136 : decode b_Strm_appendRow 136 = .ok (.isub, 1) := by decide +kernel
theorem d_Strm_appendRow_137 : decode b_Strm_appendRow 137 = .ok (.iastore, 1) := by decide +kernel
theorem d_Strm_appendRow_138 : decode b_Strm_appendRow 138 = .ok (.return_, 1) := by decide +kernel
theorem d_Strm_rowLength_0 : decode b_Strm_rowLength 0 = .ok (.iload_n 1, 1) := by decide +kernel
theorem d_Strm_rowLength_1 : decode b_Strm_rowLength 1 = .ok (.ifCond .lt 11, 3) := by decide +kernel
theorem d_Strm_rowLength_4 : decode b_Strm_rowLength 4 = .ok (.iload_n 1, 1) := by decide +kernel
theorem d_Strm_rowLength_5 : decode b_Strm_rowLength 5 = .ok (.aload_n 0, 1) := by decide +kernel
theorem d_Strm_rowLength_6 : decode b_Strm_rowLength 6 = .ok (.getfield 15, 3) := by decide +kernel
theorem d_Strm_rowLength_9 : decode b_Strm_rowLength 9 = .ok (.if_icmp .lt 7, 3) := by decide +kernel
theorem d_Strm_rowLength_12 : decode b_Strm_rowLength 12 = .ok (.iconst 0, 1) := by decide +kernel
theorem d_Strm_rowLength_13 : decode b_Strm_rowLength 13 = .ok (.goto 11, 3) := by decide +kernel
theorem d_Strm_rowLength_16 : decode b_Strm_rowLength 16 = .ok (.aload_n 0, 1) := by decide +kernel
theorem d_Strm_rowLength_17 : decode b_Strm_rowLength 17 = .ok (.getfield 9, 3) := by decide +kernel
theorem d_Strm_rowLength_20 : decode b_Strm_rowLength 20 = .ok (.iload_n 1, 1) := by decide +kernel
theorem d_Strm_rowLength_21 : decode b_Strm_rowLength 21 = .ok (.iaload, 1) := by decide +kernel
theorem d_Strm_rowLength_22 : decode b_Strm_rowLength 22 = .ok (.iconst 1, 1) := by decide +kernel
theorem d_Strm_rowLength_23 : decode b_Strm_rowLength 23 = .ok (.iadd, 1) := by decide +kernel
theorem d_Strm_rowLength_24 : decode b_Strm_rowLength 24 = .ok (.ireturn, 1) := by decide +kernel
theorem d_Strm_appendByte_0 : decode b_Strm_appendByte 0 = .ok (.aload_n 0, 1) := by decide +kernel
theorem d_Strm_appendByte_1 : decode b_Strm_appendByte 1 = .ok (.getfield 15, 3) := by decide +kernel
theorem d_Strm_appendByte_4 : decode b_Strm_appendByte 4 = .ok (.aload_n 0, 1) := by decide +kernel
theorem d_Strm_appendByte_5 : decode b_Strm_appendByte 5 = .ok (.getfield 9, 3) := by decide +kernel
theorem d_Strm_appendByte_8 : decode b_Strm_appendByte 8 = .ok (.arraylength, 1) := by decide +kernel
theorem d_Strm_appendByte_9 : decode b_Strm_appendByte 9 = .ok (.if_icmp .ge 20, 3) := by decide +kernel
theorem d_Strm_appendByte_12 : decode b_Strm_appendByte 12 = .ok (.aload_n 0, 1) := by decide +kernel
theorem d_Strm_appendByte_13 : decode b_Strm_appendByte 13 = .ok (.getfield 9, 3) := by decide +kernel
theorem d_Strm_appendByte_16 : decode b_Strm_appendByte 16 = .ok (.aload_n 0, 1) := by decide +kernel
theorem d_Strm_appendByte_17 : decode b_Strm_appendByte 17 = .ok (.dup, 1) := by decide +kernel
theorem d_Strm_appendByte_18 : decode b_Strm_appendByte 18 = .ok (.getfield 15, 3) := by decide +kernel
theorem d_Strm_appendByte_21 : decode b_Strm_appendByte 21 = .ok (.dup_x1, 1) := by decide +kernel
theorem d_Strm_appendByte_22 : decode b_Strm_appendByte 22 = .ok (.iconst 1, 1) := by decide +kernel
theorem d_Strm_appendByte_23 : decode b_Strm_appendByte 23 = .ok (.iadd, 1) := by decide +kernel
theorem d_Strm_appendByte_24 : decode b_Strm_appendByte 24 = .ok (.putfield 15, 3) := by decide +kernel
theorem d_Strm_appendByte_27 : decode b_Strm_appendByte 27 = .ok (.iload_n 1, 1) := by decide +kernel
theorem d_Strm_appendByte_28 : decode b_Strm_appendByte 28 = .ok (.iastore, 1) := by decide +kernel
theorem d_Strm_appendByte_29 : decode b_Strm_appendByte 29 = .ok (.return_, 1) := by decide +kernel
theorem d_BR_init_0 : decode b_BR_init 0 = .ok (.aload_n 0, 1) := by decide +kernel
theorem d_BR_init_1 : decode b_BR_init 1 = .ok (.invokespecial 3, 3) := by decide +kernel
theorem d_BR_init_4 : decode b_BR_init 4 = .ok (.aload_n 0, 1) := by decide +kernel
theorem d_BR_init_5 : decode b_BR_init 5 = .ok (.new 9, 3) := by decide +kernel
theorem d_BR_init_8 : decode b_BR_init 8 = .ok (.dup, 1) := by decide +kernel
theorem d_BR_init_9 : decode b_BR_init 9 = .ok (.invokespecial 11, 3) := by decide +kernel
theorem d_BR_init_12 : decode b_BR_init 12 = .ok (.putfield 12, 3) := by decide +kernel
theorem d_BR_init_15 : decode b_BR_init 15 = .ok (.aload_n 0, 1) := by decide +kernel
theorem d_BR_init_16 : decode b_BR_init 16 = .ok (.new 16, 3) := by decide +kernel
theorem d_BR_init_19 : decode b_BR_init 19 = .ok (.dup, 1) := by decide +kernel
theorem d_BR_init_20 : decode b_BR_init 20 = .ok (.invokespecial 18, 3) := by decide +kernel
theorem d_BR_init_23 : decode b_BR_init 23 = .ok (.putfield 19, 3) := by decide +kernel
theorem d_BR_init_26 : decode b_BR_init 26 = .ok (.aload_n 0, 1) := by decide +kernel
theorem d_BR_init_27 : decode b_BR_init 27 = .ok (.new 23, 3) := by decide +kernel
theorem d_BR_init_30 : decode b_BR_init 30 = .ok (.dup, 1) := by decide +kernel
theorem d_BR_init_31 : decode b_BR_init 31 = .ok (.invokespecial 25, 3) := by decide +kernel
theorem d_BR_init_34 : decode b_BR_init 34 = .ok (.putfield 26, 3) := by decide +kernel
theorem d_BR_init_37 : decode b_BR_init 37 = .ok (.aload_n 0, 1) := by decide +kernel
theorem d_BR_init_38 : decode b_BR_init 38 = .ok (.new 30, 3) := by decide +kernel
theorem d_BR_init_41 : decode b_BR_init 41 = .ok (.dup, 1) := by decide +kernel
theorem d_BR_init_42 : decode b_BR_init 42 = .ok (.invokespecial 32, 3) := by decide +kernel
theorem d_BR_init_45 : decode b_BR_init 45 = .ok (.putfield 33, 3) := by decide +kernel
theorem d_BR_init_48 : decode b_BR_init 48 = .ok (.aload_n 0, 1) := by decide +kernel
theorem d_BR_init_49 : decode b_BR_init 49 = .ok (.new 37, 3) := by decide +kernel
theorem d_BR_init_52 : decode b_BR_init 52 = .ok (.dup, 1) := by decide +kernel
theorem d_BR_init_53 : decode b_BR_init 53 = .ok (.invokespecial 39, 3) := by decide +kernel
theorem d_BR_init_56 : decode b_BR_init 56 = .ok (.putfield 40, 3) := by decide +kernel
theorem d_BR_init_59 : decode b_BR_init 59 = .ok (.return_, 1) := by decide +kernel
theorem d_BR_op_0 : decode b_BR_op 0 = .ok (.aload_n 0, 1) := by decide +kernel
theorem d_BR_op_1 : decode b_BR_op 1 = .ok (.getfield 12, 3) := by decide +kernel
theorem d_BR_op_4 : decode b_BR_op 4 = .ok (.iload_n 1, 1) := by decide +kernel
theorem d_BR_op_5 : decode b_BR_op 5 = .ok (.iload_n 2, 1) := by decide +kernel
theorem d_BR_op_6 : decode b_BR_op 6 = .ok (.invokevirtual 44, 3) := by decide +kernel
theorem d_BR_op_9 : decode b_BR_op 9 = .ok (.ireturn, 1) := by decide +kernel
theorem d_BR_base_0 : decode b_BR_base 0 = .ok (.aload_n 0, 1) := by decide +kernel
theorem d_BR_base_1 : decode b_BR_base 1 = .ok (.getfield 12, 3) := by decide +kernel
theorem d_BR_base_4 : decode b_BR_base 4 = .ok (.iload_n 1, 1) := by decide +kernel
theorem d_BR_base_5 : decode b_BR_base 5 = .ok (.invokevirtual 48, 3) := by decide +kernel
theorem d_BR_base_8 : decode b_BR_base 8 = .ok (.ireturn, 1) := by decide +kernel
theorem d_BR_scrap_0 : decode b_BR_scrap 0 = .ok (.aload_n 0, 1) := by decide +kernel
theorem d_BR_scrap_1 : decode b_BR_scrap 1 = .ok (.getfield 12, 3) := by decide +kernel
theorem d_BR_scrap_4 : decode b_BR_scrap 4 = .ok (.invokevirtual 52, 3) := by decide +kernel
theorem d_BR_scrap_7 : decode b_BR_scrap 7 = .ok (.return_, 1) := by decide +kernel
theorem d_BR_add_0 : decode b_BR_add 0 = .ok (.aload_n 0, 1) := by decide +kernel
theorem d_BR_add_1 : decode b_BR_add 1 = .ok (.getfield 33, 3) := by decide +kernel
theorem d_BR_add_4 : decode b_BR_add 4 = .ok (.invokevirtual 55, 3) := by decide +kernel
theorem d_BR_add_7 : decode b_BR_add 7 = .ok (.ifCond .ne 13, 3) := by decide +kernel
theorem d_BR_add_10 : decode b_BR_add 10 = .ok (.aload_n 0, 1) := by decide +kernel
theorem d_BR_add_11 : decode b_BR_add 11 = .ok (.getfield 26, 3) := by decide +kernel
theorem d_BR_add_14 : decode b_BR_add 14 = .ok (.invokevirtual 59, 3) := by decide +kernel
theorem d_BR_add_17 : decode b_BR_add 17 = .ok (.ifCond .eq 5, 3) := by decide +kernel
theorem d_BR_add_20 : decode b_BR_add 20 = .ok (.iconst (-1), 1) := by decide +kernel
theorem d_BR_add_21 : decode b_BR_add 21 = .ok (.ireturn, 1) := by decide +kernel
theorem d_BR_add_22 : decode b_BR_add 22 = .ok (.aload_n 0, 1) := by decide +kernel
theorem d_BR_add_23 : decode b_BR_add 23 = .ok (.getfield 12, 3) := by decide +kernel
theorem d_BR_add_26 : decode b_BR_add 26 = .ok (.invokevirtual 62, 3) := by decide +kernel
theorem d_BR_add_29 : decode b_BR_add 29 = .ok (.ifCond .ne 6, 3) := by decide +kernel
theorem d_BR_add_32 : decode b_BR_add 32 = .ok (.bipush (-2), 2) := by decide +kernel
theorem d_BR_add_34 : decode b_BR_add 34 = .ok (.ireturn, 1) := by decide +kernel
theorem d_BR_add_35 : decode b_BR_add 35 = .ok (.iload_n 1, 1) := by decide +kernel
theorem d_BR_add_36 : decode b_BR_add 36 = .ok (.invokestatic 65, 3) := by decide +kernel
theorem d_BR_add_39 : decode b_BR_add 39 = .ok (.ifCond .eq 29, 3) := by decide +kernel
theorem d_BR_add_42 : decode b_BR_add 42 = .ok (.iload_n 2, 1) := by decide +kernel
theorem d_BR_add_43 : decode b_BR_add 43 = .ok (.ifCond .lt 25, 3) := by decide +kernel
theorem d_BR_add_46 : decode b_BR_add 46 = .ok (.iload_n 2, 1) := by decide +kernel
theorem d_BR_add_47 : decode b_BR_add 47 = .ok (.sipush 4096, 3) := by decide +kernel
theorem d_BR_add_50 : decode b_BR_add 50 = .ok (.if_icmp .ge 18, 3) := by decide +kernel
theorem d_BR_add_53 : decode b_BR_add 53 = .ok (.iload_n 2, 1) := by decide +kernel
theorem d_BR_add_54 : decode b_BR_add 54 = .ok (.aload_n 0, 1) := by decide +kernel
theorem d_BR_add_55 : decode b_BR_add 55 = .ok (.getfield 12, 3) := by decide +kernel
theorem d_BR_add_58 : decode b_BR_add 58 = .ok (.invokevirtual 68, 3) := by decide +kernel
theorem d_BR_add_61 : decode b_BR_add 61 = .ok (.iadd, 1) := by decide +kernel
theorem d_BR_add_62 : decode b_BR_add 62 = .ok (.sipush 4096, 3) := by decide +kernel
theorem d_BR_add_65 : decode b_BR_add 65 = .ok (.if_icmp .le 6, 3) := by decide +kernel
theorem d_BR_add_68 : decode b_BR_add 68 = .ok (.bipush (-3), 2) := by decide +kernel
theorem d_BR_add_70 : decode b_BR_add 70 = .ok (.ireturn, 1) := by decide +kernel
theorem d_BR_add_71 : decode b_BR_add 71 = .ok (.aload_n 0, 1) := by decide +kernel
theorem d_BR_add_72 : decode b_BR_add 72 = .ok (.getfield 26, 3) := by decide +kernel
theorem d_BR_add_75 : decode b_BR_add 75 = .ok (.iload_n 1, 1) := by decide +kernel
theorem d_BR_add_76 : decode b_BR_add 76 = .ok (.iload_n 2, 1) := by decide +kernel
theorem d_BR_add_77 : decode b_BR_add 77 = .ok (.invokevirtual 72, 3) := by decide +kernel
theorem d_BR_add_80 : decode b_BR_add 80 = .ok (.ifCond .eq 6, 3) := by decide +kernel
theorem d_BR_add_83 : decode b_BR_add 83 = .ok (.bipush (-4), 2) := by decide +kernel
theorem d_BR_add_85 : decode b_BR_add 85 = .ok (.ireturn, 1) := by decide +kernel
theorem d_BR_add_86 : decode b_BR_add 86 = .ok (.iload_n 2, 1) := by decide +kernel
theorem d_BR_add_87 : decode b_BR_add 87 = .ok (.aload_n 0, 1) := by decide +kernel
theorem d_BR_add_88 : decode b_BR_add 88 = .ok (.getfield 12, 3) := by decide +kernel
theorem d_BR_add_91 : decode b_BR_add 91 = .ok (.invokevirtual 68, 3) := by decide +kernel
theorem d_BR_add_94 : decode b_BR_add 94 = .ok (.iadd, 1) := by decide +kernel
theorem d_BR_add_95 : decode b_BR_add 95 = .ok (.istore_n 3, 1) := by decide +kernel
theorem d_BR_add_96 : decode b_BR_add 96 = .ok (.iload_n 2, 1) := by decide +kernel
theorem d_BR_add_97 : decode b_BR_add 97 = .ok (.iload_n 3, 1) := by decide +kernel
theorem d_BR_add_98 : decode b_BR_add 98 = .ok (.invokestatic 75, 3) := by decide +kernel
theorem d_BR_add_101 : decode b_BR_add 101 = .ok (.istore 4, 2) := by decide +kernel
theorem d_BR_add_103 : decode b_BR_add 103 = .ok (.aload_n 0, 1) := by decide +kernel
theorem d_BR_add_104 : decode b_BR_add 104 = .ok (.getfield 26, 3) := by decide +kernel
theorem d_BR_add_107 : decode b_BR_add 107 = .ok (.iload_n 1, 1) := by decide +kernel
theorem d_BR_add_108 : decode b_BR_add 108 = .ok (.iload_n 2, 1) := by decide +kernel
theorem d_BR_add_109 : decode b_BR_add 109 = .ok (.iload_n 3, 1) := by decide +kernel
theorem d_BR_add_110 : decode b_BR_add 110 = .ok (.iload 4, 2) := by decide +kernel
theorem d_BR_add_112 : decode b_BR_add 112 = .ok (.aload_n 0, 1) := by decide +kernel
theorem d_BR_add_113 : decode b_BR_add 113 = .ok (.getfield 19, 3) := by decide +kernel
theorem d_BR_add_116 : decode b_BR_add 116 = .ok (.getfield 79, 3) := by decide +kernel
theorem d_BR_add_119 : decode b_BR_add 119 = .ok (.invokevirtual 83, 3) := by decide +kernel
theorem d_BR_add_122 : decode b_BR_add 122 = .ok (.istore 5, 2) := by decide +kernel
theorem d_BR_add_124 : decode b_BR_add 124 = .ok (.aload_n 0, 1) := by decide +kernel
theorem d_BR_add_125 : decode b_BR_add 125 = .ok (.getfield 19, 3) := by decide +kernel
theorem d_BR_add_128 : decode b_BR_add 128 = .ok (.aload_n 0, 1) := by decide +kernel
theorem d_BR_add_129 : decode b_BR_add 129 = .ok (.getfield 12, 3) := by decide +kernel
theorem d_BR_add_132 : decode b_BR_add 132 = .ok (.iload_n 1, 1) := by decide +kernel
theorem d_BR_add_133 : decode b_BR_add 133 = .ok (.iload_n 2, 1) := by decide +kernel
theorem d_BR_add_134 : decode b_BR_add 134 = .ok (.iload 4, 2) := by decide +kernel
theorem d_BR_add_136 : decode b_BR_add 136 = .ok (.invokevirtual 87, 3) := by decide +kernel
theorem d_BR_add_139 : decode b_BR_add 139 = .ok (.aload_n 0, 1) := by decide +kernel
theorem d_BR_add_140 : decode b_BR_add 140 = .ok (.getfield 12, 3) := by decide +kernel
theorem d_BR_add_143 : decode b_BR_add 143 = .ok (.invokevirtual 52, 3) := by decide +kernel
theorem d_BR_add_146 : decode b_BR_add 146 = .ok (.iload 5, 2) := by decide +kernel
theorem d_BR_add_148 : decode b_BR_add 148 = .ok (.ireturn, 1) := by decide +kernel
theorem d_BR_finish_0 : decode b_BR_finish 0 = .ok (.aload_n 0, 1) := by decide +kernel
theorem d_BR_finish_1 : decode b_BR_finish 1 = .ok (.getfield 33, 3) := by decide +kernel
theorem d_BR_finish_4 : decode b_BR_finish 4 = .ok (.invokevirtual 55, 3) := by decide +kernel
theorem d_BR_finish_7 : decode b_BR_finish 7 = .ok (.ifCond .eq 5, 3) := by decide +kernel
theorem d_BR_finish_10 : decode b_BR_finish 10 = .ok (.iconst (-1), 1) := by decide +kernel
theorem d_BR_finish_11 : decode b_BR_finish 11 = .ok (.ireturn, 1) := by decide +kernel
theorem d_BR_finish_12 : decode b_BR_finish 12 = .ok (.aload_n 0, 1) := by decide +kernel
theorem d_BR_finish_13 : decode b_BR_finish 13 = .ok (.getfield 33, 3) := by decide +kernel
theorem d_BR_finish_16 : decode b_BR_finish 16 = .ok (.aload_n 0, 1) := by decide +kernel
theorem d_BR_finish_17 : decode b_BR_finish 17 = .ok (.getfield 19, 3) := by decide +kernel
theorem d_BR_finish_20 : decode b_BR_finish 20 = .ok (.invokevirtual 91, 3) := by decide +kernel
theorem d_BR_finish_23 : decode b_BR_finish 23 = .ok (.aload_n 0, 1) := by decide +kernel
theorem d_BR_finish_24 : decode b_BR_finish 24 = .ok (.getfield 33, 3) := by decide +kernel
theorem d_BR_finish_27 : decode b_BR_finish 27 = .ok (.getfield 95, 3) := by decide +kernel
theorem d_BR_finish_30 : decode b_BR_finish 30 = .ok (.ireturn, 1) := by decide +kernel
theorem d_BR_clear_0 : decode b_BR_clear 0 = .ok (.aload_n 0, 1) := by decide +kernel
theorem d_BR_clear_1 : decode b_BR_clear 1 = .ok (.getfield 12, 3) := by decide +kernel
theorem d_BR_clear_4 : decode b_BR_clear 4 = .ok (.invokevirtual 52, 3) := by decide +kernel
theorem d_BR_clear_7 : decode b_BR_clear 7 = .ok (.aload_n 0, 1) := by decide +kernel
theorem d_BR_clear_8 : decode b_BR_clear 8 = .ok (.getfield 19, 3) := by decide +kernel
theorem d_BR_clear_11 : decode b_BR_clear 11 = .ok (.invokevirtual 98, 3) := by decide +kernel
theorem d_BR_clear_14 : decode b_BR_clear 14 = .ok (.aload_n 0, 1) := by decide +kernel
theorem d_BR_clear_15 : decode b_BR_clear 15 = .ok (.getfield 26, 3) := by decide +kernel
theorem d_BR_clear_18 : decode b_BR_clear 18 = .ok (.invokevirtual 99, 3) := by decide +kernel
theorem d_BR_clear_21 : decode b_BR_clear 21 = .ok (.aload_n 0, 1) := by decide +kernel
theorem d_BR_clear_22 : decode b_BR_clear 22 = .ok (.getfield 33, 3) := by decide +kernel
theorem d_BR_clear_25 : decode b_BR_clear 25 = .ok (.invokevirtual 100, 3) := by decide +kernel
theorem d_BR_clear_28 : decode b_BR_clear 28 = .ok (.aload_n 0, 1) := by decide +kernel
theorem d_BR_clear_29 : decode b_BR_clear 29 = .ok (.getfield 40, 3) := by decide +kernel
theorem d_BR_clear_32 : decode b_BR_clear 32 = .ok (.invokevirtual 101, 3) := by decide +kernel
theorem d_BR_clear_35 : decode b_BR_clear 35 = .ok (.return_, 1) := by decide +kernel
theorem d_BR_turn_0 : decode b_BR_turn 0 = .ok (.aload_n 0, 1) := by decide +kernel
theorem d_BR_turn_1 : decode b_BR_turn 1 = .ok (.getfield 33, 3) := by decide +kernel
theorem d_BR_turn_4 : decode b_BR_turn 4 = .ok (.iload_n 1, 1) := by decide +kernel
theorem d_BR_turn_5 : decode b_BR_turn 5 = .ok (.iload_n 2, 1) := by decide +kernel
theorem d_BR_turn_6 : decode b_BR_turn 6 = .ok (.invokevirtual 102, 3) := by decide +kernel
theorem d_BR_turn_9 : decode b_BR_turn 9 = .ok (.ireturn, 1) := by decide +kernel
theorem d_BR_byteAt_0 : decode b_BR_byteAt 0 = .ok (.aload_n 0, 1) := by decide +kernel
theorem d_BR_byteAt_1 : decode b_BR_byteAt 1 = .ok (.getfield 33, 3) := by decide +kernel
theorem d_BR_byteAt_4 : decode b_BR_byteAt 4 = .ok (.iload_n 1, 1) := by decide +kernel
theorem d_BR_byteAt_5 : decode b_BR_byteAt 5 = .ok (.invokevirtual 105, 3) := by decide +kernel
theorem d_BR_byteAt_8 : decode b_BR_byteAt 8 = .ok (.ireturn, 1) := by decide +kernel
theorem d_BR_check_0 : decode b_BR_check 0 = .ok (.aload_n 0, 1) := by decide +kernel
theorem d_BR_check_1 : decode b_BR_check 1 = .ok (.getfield 33, 3) := by decide +kernel
theorem d_BR_check_4 : decode b_BR_check 4 = .ok (.invokevirtual 55, 3) := by decide +kernel
theorem d_BR_check_7 : decode b_BR_check 7 = .ok (.ifCond .ne 5, 3) := by decide +kernel
theorem d_BR_check_10 : decode b_BR_check 10 = .ok (.iconst (-1), 1) := by decide +kernel
theorem d_BR_check_11 : decode b_BR_check 11 = .ok (.ireturn, 1) := by decide +kernel
theorem d_BR_check_12 : decode b_BR_check 12 = .ok (.aload_n 0, 1) := by decide +kernel
theorem d_BR_check_13 : decode b_BR_check 13 = .ok (.getfield 33, 3) := by decide +kernel
theorem d_BR_check_16 : decode b_BR_check 16 = .ok (.iconst 0, 1) := by decide +kernel
theorem d_BR_check_17 : decode b_BR_check 17 = .ok (.aload_n 0, 1) := by decide +kernel
theorem d_BR_check_18 : decode b_BR_check 18 = .ok (.getfield 33, 3) := by decide +kernel
theorem d_BR_check_21 : decode b_BR_check 21 = .ok (.getfield 109, 3) := by decide +kernel
theorem d_BR_check_24 : decode b_BR_check 24 = .ok (.iconst 1, 1) := by decide +kernel
theorem d_BR_check_25 : decode b_BR_check 25 = .ok (.isub, 1) := by decide +kernel
theorem d_BR_check_26 : decode b_BR_check 26 = .ok (.invokevirtual 112, 3) := by decide +kernel
theorem d_BR_check_29 : decode b_BR_check 29 = .ok (.ifCond .eq 13, 3) := by decide +kernel
theorem d_BR_check_32 : decode b_BR_check 32 = .ok (.aload_n 0, 1) := by decide +kernel
theorem d_BR_check_33 : decode b_BR_check 33 = .ok (.getfield 26, 3) := by decide +kernel
theorem d_BR_check_36 : decode b_BR_check 36 = .ok (.getfield 115, 3) := by decide +kernel
theorem d_BR_check_39 : decode b_BR_check 39 = .ok (.goto 5, 3) := by decide +kernel
theorem d_BR_check_42 : decode b_BR_check 42 = .ok (.bipush (-2), 2) := by decide +kernel
theorem d_BR_check_44 : decode b_BR_check 44 = .ok (.ireturn, 1) := by decide +kernel
theorem d_BR_query_0 : decode b_BR_query 0 = .ok (.aload_n 0, 1) := by decide +kernel
theorem d_BR_query_1 : decode b_BR_query 1 = .ok (.getfield 33, 3) := by decide +kernel
theorem d_BR_query_4 : decode b_BR_query 4 = .ok (.invokevirtual 55, 3) := by decide +kernel
theorem d_BR_query_7 : decode b_BR_query 7 = .ok (.ifCond .eq 12, 3) := by decide +kernel
theorem d_BR_query_10 : decode b_BR_query 10 = .ok (.iload_n 1, 1) := by decide +kernel
theorem d_BR_query_11 : decode b_BR_query 11 = .ok (.iload_n 2, 1) := by decide +kernel
theorem d_BR_query_12 : decode b_BR_query 12 = .ok (.iload_n 3, 1) := by decide +kernel
theorem d_BR_query_13 : decode b_BR_query 13 = .ok (.invokestatic 118, 3) := by decide +kernel
theorem d_BR_query_16 : decode b_BR_query 16 = .ok (.ifCond .ne 5, 3) := by decide +kernel
theorem d_BR_query_19 : decode b_BR_query 19 = .ok (.iconst (-1), 1) := by decide +kernel
theorem d_BR_query_20 : decode b_BR_query 20 = .ok (.ireturn, 1) := by decide +kernel
theorem d_BR_query_21 : decode b_BR_query 21 = .ok (.aload_n 0, 1) := by decide +kernel
theorem d_BR_query_22 : decode b_BR_query 22 = .ok (.getfield 26, 3) := by decide +kernel
theorem d_BR_query_25 : decode b_BR_query 25 = .ok (.iload_n 1, 1) := by decide +kernel
theorem d_BR_query_26 : decode b_BR_query 26 = .ok (.iload_n 2, 1) := by decide +kernel
theorem d_BR_query_27 : decode b_BR_query 27 = .ok (.iload_n 3, 1) := by decide +kernel
theorem d_BR_query_28 : decode b_BR_query 28 = .ok (.invokevirtual 122, 3) := by decide +kernel
theorem d_BR_query_31 : decode b_BR_query 31 = .ok (.aload_n 0, 1) := by decide +kernel
theorem d_BR_query_32 : decode b_BR_query 32 = .ok (.invokevirtual 126, 3) := by decide +kernel
theorem d_BR_query_35 : decode b_BR_query 35 = .ok (.ifCond .ne 6, 3) := by decide +kernel
theorem d_BR_query_38 : decode b_BR_query 38 = .ok (.bipush (-2), 2) := by decide +kernel
theorem d_BR_query_40 : decode b_BR_query 40 = .ok (.ireturn, 1) := by decide +kernel
theorem d_BR_query_41 : decode b_BR_query 41 = .ok (.aload_n 0, 1) := by decide +kernel
theorem d_BR_query_42 : decode b_BR_query 42 = .ok (.getfield 40, 3) := by decide +kernel
theorem d_BR_query_45 : decode b_BR_query 45 = .ok (.invokevirtual 101, 3) := by decide +kernel
theorem d_BR_query_48 : decode b_BR_query 48 = .ok (.aload_n 0, 1) := by decide +kernel
theorem d_BR_query_49 : decode b_BR_query 49 = .ok (.getfield 40, 3) := by decide +kernel
theorem d_BR_query_52 : decode b_BR_query 52 = .ok (.aload_n 0, 1) := by decide +kernel
theorem d_BR_query_53 : decode b_BR_query 53 = .ok (.getfield 26, 3) := by decide +kernel
theorem d_BR_query_56 : decode b_BR_query 56 = .ok (.getfield 129, 3) := by decide +kernel
theorem d_BR_query_59 : decode b_BR_query 59 = .ok (.putfield 132, 3) := by decide +kernel
theorem d_BR_query_62 : decode b_BR_query 62 = .ok (.iconst 0, 1) := by decide +kernel
theorem d_BR_query_63 : decode b_BR_query 63 = .ok (.istore 4, 2) := by decide +kernel
theorem d_BR_query_65 : decode b_BR_query 65 = .ok (.iload 4, 2) := by decide +kernel
theorem d_BR_query_67 : decode b_BR_query 67 = .ok (.aload_n 0, 1) := by decide +kernel
theorem d_BR_query_68 : decode b_BR_query 68 = .ok (.getfield 26, 3) := by decide +kernel
theorem d_BR_query_71 : decode b_BR_query 71 = .ok (.getfield 129, 3) := by decide +kernel
theorem d_BR_query_74 : decode b_BR_query 74 = .ok (.if_icmp .ge 56, 3) := by decide +kernel
theorem d_BR_query_77 : decode b_BR_query 77 = .ok (.aload_n 0, 1) := by decide +kernel
theorem d_BR_query_78 : decode b_BR_query 78 = .ok (.getfield 26, 3) := by decide +kernel
theorem d_BR_query_81 : decode b_BR_query 81 = .ok (.getfield 135, 3) := by decide +kernel
theorem d_BR_query_84 : decode b_BR_query 84 = .ok (.iload 4, 2) := by decide +kernel
theorem d_BR_query_86 : decode b_BR_query 86 = .ok (.iaload, 1) := by decide +kernel
theorem d_BR_query_87 : decode b_BR_query 87 = .ok (.istore 5, 2) := by decide +kernel
theorem d_BR_query_89 : decode b_BR_query 89 = .ok (.aload_n 0, 1) := by decide +kernel
theorem d_BR_query_90 : decode b_BR_query 90 = .ok (.getfield 26, 3) := by decide +kernel
theorem d_BR_query_93 : decode b_BR_query 93 = .ok (.iload 5, 2) := by decide +kernel
theorem d_BR_query_95 : decode b_BR_query 95 = .ok (.iload_n 2, 1) := by decide +kernel
theorem d_BR_query_96 : decode b_BR_query 96 = .ok (.iload_n 3, 1) := by decide +kernel
theorem d_BR_query_97 : decode b_BR_query 97 = .ok (.invokevirtual 139, 3) := by decide +kernel
theorem d_BR_query_100 : decode b_BR_query 100 = .ok (.ifCond .eq 24, 3) := by decide +kernel
theorem d_BR_query_103 : decode b_BR_query 103 = .ok (.aload_n 0, 1) := by decide +kernel
theorem d_BR_query_104 : decode b_BR_query 104 = .ok (.getfield 40, 3) := by decide +kernel
theorem d_BR_query_107 : decode b_BR_query 107 = .ok (.aload_n 0, 1) := by decide +kernel
theorem d_BR_query_108 : decode b_BR_query 108 = .ok (.getfield 33, 3) := by decide +kernel
theorem d_BR_query_111 : decode b_BR_query 111 = .ok (.aload_n 0, 1) := by decide +kernel
theorem d_BR_query_112 : decode b_BR_query 112 = .ok (.getfield 26, 3) := by decide +kernel
theorem d_BR_query_115 : decode b_BR_query 115 = .ok (.getfield 142, 3) := by decide +kernel
theorem d_BR_query_118 : decode b_BR_query 118 = .ok (.iload 5, 2) := by decide +kernel
theorem d_BR_query_120 : decode b_BR_query 120 = .ok (.iaload, 1) := by decide +kernel
theorem d_BR_query_121 : decode b_BR_query 121 = .ok (.invokevirtual 145, 3) := by decide +kernel
theorem d_BR_query_124 : decode b_BR_query 124 = .ok (.iinc 4 1, 3) := by decide +kernel
theorem d_BR_query_127 : decode b_BR_query 127 = .ok (.goto (-62), 3) := by decide +kernel
theorem d_BR_query_130 : decode b_BR_query 130 = .ok (.aload_n 0, 1) := by decide +kernel
theorem d_BR_query_131 : decode b_BR_query 131 = .ok (.getfield 40, 3) := by decide +kernel
theorem d_BR_query_134 : decode b_BR_query 134 = .ok (.getfield 148, 3) := by decide +kernel
theorem d_BR_query_137 : decode b_BR_query 137 = .ok (.ireturn, 1) := by decide +kernel
theorem d_BR_looked_0 : decode b_BR_looked 0 = .ok (.aload_n 0, 1) := by decide +kernel
theorem d_BR_looked_1 : decode b_BR_looked 1 = .ok (.getfield 40, 3) := by decide +kernel
theorem d_BR_looked_4 : decode b_BR_looked 4 = .ok (.getfield 132, 3) := by decide +kernel
theorem d_BR_looked_7 : decode b_BR_looked 7 = .ok (.ireturn, 1) := by decide +kernel
theorem d_BR_found_0 : decode b_BR_found 0 = .ok (.aload_n 0, 1) := by decide +kernel
theorem d_BR_found_1 : decode b_BR_found 1 = .ok (.getfield 40, 3) := by decide +kernel
theorem d_BR_found_4 : decode b_BR_found 4 = .ok (.iload_n 1, 1) := by decide +kernel
theorem d_BR_found_5 : decode b_BR_found 5 = .ok (.invokevirtual 149, 3) := by decide +kernel
theorem d_BR_found_8 : decode b_BR_found 8 = .ok (.ifCond .ne 5, 3) := by decide +kernel
theorem d_BR_found_11 : decode b_BR_found 11 = .ok (.iconst (-1), 1) := by decide +kernel
theorem d_BR_found_12 : decode b_BR_found 12 = .ok (.ireturn, 1) := by decide +kernel
theorem d_BR_found_13 : decode b_BR_found 13 = .ok (.iload_n 2, 1) := by decide +kernel
theorem d_BR_found_14 : decode b_BR_found 14 = .ok (.tableswitch 96 0 5 #[38, 48, 57, 69, 78, 87], 38) := by decide +kernel
theorem d_BR_found_52 : decode b_BR_found 52 = .ok (.aload_n 0, 1) := by decide +kernel
theorem d_BR_found_53 : decode b_BR_found 53 = .ok (.getfield 40, 3) := by decide +kernel
theorem d_BR_found_56 : decode b_BR_found 56 = .ok (.getfield 152, 3) := by decide +kernel
theorem d_BR_found_59 : decode b_BR_found 59 = .ok (.iload_n 1, 1) := by decide +kernel
theorem d_BR_found_60 : decode b_BR_found 60 = .ok (.iaload, 1) := by decide +kernel
theorem d_BR_found_61 : decode b_BR_found 61 = .ok (.ireturn, 1) := by decide +kernel
theorem d_BR_found_62 : decode b_BR_found 62 = .ok (.aload_n 0, 1) := by decide +kernel
theorem d_BR_found_63 : decode b_BR_found 63 = .ok (.getfield 40, 3) := by decide +kernel
theorem d_BR_found_66 : decode b_BR_found 66 = .ok (.iload_n 1, 1) := by decide +kernel
theorem d_BR_found_67 : decode b_BR_found 67 = .ok (.invokevirtual 155, 3) := by decide +kernel
theorem d_BR_found_70 : decode b_BR_found 70 = .ok (.ireturn, 1) := by decide +kernel
theorem d_BR_found_71 : decode b_BR_found 71 = .ok (.aload_n 0, 1) := by decide +kernel
theorem d_BR_found_72 : decode b_BR_found 72 = .ok (.getfield 40, 3) := by decide +kernel
theorem d_BR_found_75 : decode b_BR_found 75 = .ok (.getfield 158, 3) := by decide +kernel
theorem d_BR_found_78 : decode b_BR_found 78 = .ok (.iload_n 1, 1) := by decide +kernel
theorem d_BR_found_79 : decode b_BR_found 79 = .ok (.aaload, 1) := by decide +kernel
theorem d_BR_found_80 : decode b_BR_found 80 = .ok (.iconst 4, 1) := by decide +kernel
theorem d_BR_found_81 : decode b_BR_found 81 = .ok (.iaload, 1) := by decide +kernel
theorem d_BR_found_82 : decode b_BR_found 82 = .ok (.ireturn, 1) := by decide +kernel
theorem d_BR_found_83 : decode b_BR_found 83 = .ok (.aload_n 0, 1) := by decide +kernel
theorem d_BR_found_84 : decode b_BR_found 84 = .ok (.getfield 40, 3) := by decide +kernel
theorem d_BR_found_87 : decode b_BR_found 87 = .ok (.iload_n 1, 1) := by decide +kernel
theorem d_BR_found_88 : decode b_BR_found 88 = .ok (.invokevirtual 162, 3) := by decide +kernel
theorem d_BR_found_91 : decode b_BR_found 91 = .ok (.ireturn, 1) := by decide +kernel
theorem d_BR_found_92 : decode b_BR_found 92 = .ok (.aload_n 0, 1) := by decide +kernel
theorem d_BR_found_93 : decode b_BR_found 93 = .ok (.getfield 40, 3) := by decide +kernel
theorem d_BR_found_96 : decode b_BR_found 96 = .ok (.iload_n 1, 1) := by decide +kernel
theorem d_BR_found_97 : decode b_BR_found 97 = .ok (.invokevirtual 165, 3) := by decide +kernel
theorem d_BR_found_100 : decode b_BR_found 100 = .ok (.ireturn, 1) := by decide +kernel
theorem d_BR_found_101 : decode b_BR_found 101 = .ok (.aload_n 0, 1) := by decide +kernel
theorem d_BR_found_102 : decode b_BR_found 102 = .ok (.getfield 40, 3) := by decide +kernel
theorem d_BR_found_105 : decode b_BR_found 105 = .ok (.iload_n 1, 1) := by decide +kernel
theorem d_BR_found_106 : decode b_BR_found 106 = .ok (.invokevirtual 168, 3) := by decide +kernel
theorem d_BR_found_109 : decode b_BR_found 109 = .ok (.ireturn, 1) := by decide +kernel
theorem d_BR_found_110 : decode b_BR_found 110 = .ok (.iconst (-1), 1) := by decide +kernel
theorem d_BR_found_111 : decode b_BR_found 111 = .ok (.ireturn, 1) := by decide +kernel
theorem d_BR_foundOp_0 : decode b_BR_foundOp 0 = .ok (.aload_n 0, 1) := by decide +kernel
theorem d_BR_foundOp_1 : decode b_BR_foundOp 1 = .ok (.getfield 40, 3) := by decide +kernel
theorem d_BR_foundOp_4 : decode b_BR_foundOp 4 = .ok (.iload_n 1, 1) := by decide +kernel
theorem d_BR_foundOp_5 : decode b_BR_foundOp 5 = .ok (.invokevirtual 149, 3) := by decide +kernel
theorem d_BR_foundOp_8 : decode b_BR_foundOp 8 = .ok (.ifCond .eq 19, 3) := by decide +kernel
theorem d_BR_foundOp_11 : decode b_BR_foundOp 11 = .ok (.iload_n 2, 1) := by decide +kernel
theorem d_BR_foundOp_12 : decode b_BR_foundOp 12 = .ok (.ifCond .lt 15, 3) := by decide +kernel
theorem d_BR_foundOp_15 : decode b_BR_foundOp 15 = .ok (.iload_n 2, 1) := by decide +kernel
theorem d_BR_foundOp_16 : decode b_BR_foundOp 16 = .ok (.aload_n 0, 1) := by decide +kernel
theorem d_BR_foundOp_17 : decode b_BR_foundOp 17 = .ok (.getfield 40, 3) := by decide +kernel
theorem d_BR_foundOp_20 : decode b_BR_foundOp 20 = .ok (.iload_n 1, 1) := by decide +kernel
theorem d_BR_foundOp_21 : decode b_BR_foundOp 21 = .ok (.invokevirtual 165, 3) := by decide +kernel
theorem d_BR_foundOp_24 : decode b_BR_foundOp 24 = .ok (.if_icmp .lt 5, 3) := by decide +kernel
theorem d_BR_foundOp_27 : decode b_BR_foundOp 27 = .ok (.iconst (-1), 1) := by decide +kernel
theorem d_BR_foundOp_28 : decode b_BR_foundOp 28 = .ok (.ireturn, 1) := by decide +kernel
theorem d_BR_foundOp_29 : decode b_BR_foundOp 29 = .ok (.aload_n 0, 1) := by decide +kernel
theorem d_BR_foundOp_30 : decode b_BR_foundOp 30 = .ok (.getfield 40, 3) := by decide +kernel
theorem d_BR_foundOp_33 : decode b_BR_foundOp 33 = .ok (.getfield 158, 3) := by decide +kernel
theorem d_BR_foundOp_36 : decode b_BR_foundOp 36 = .ok (.iload_n 1, 1) := by decide +kernel
theorem d_BR_foundOp_37 : decode b_BR_foundOp 37 = .ok (.aaload, 1) := by decide +kernel
theorem d_BR_foundOp_38 : decode b_BR_foundOp 38 = .ok (.bipush 7, 2) := by decide +kernel
theorem d_BR_foundOp_40 : decode b_BR_foundOp 40 = .ok (.iload_n 2, 1) := by decide +kernel
theorem d_BR_foundOp_41 : decode b_BR_foundOp 41 = .ok (.iadd, 1) := by decide +kernel
theorem d_BR_foundOp_42 : decode b_BR_foundOp 42 = .ok (.iaload, 1) := by decide +kernel
theorem d_BR_foundOp_43 : decode b_BR_foundOp 43 = .ok (.ireturn, 1) := by decide +kernel
theorem d_BR_foundBase_0 : decode b_BR_foundBase 0 = .ok (.aload_n 0, 1) := by decide +kernel
theorem d_BR_foundBase_1 : decode b_BR_foundBase 1 = .ok (.getfield 40, 3) := by decide +kernel
theorem d_BR_foundBase_4 : decode b_BR_foundBase 4 = .ok (.iload_n 1, 1) := by decide +kernel
theorem d_BR_foundBase_5 : decode b_BR_foundBase 5 = .ok (.invokevirtual 149, 3) := by decide +kernel
theorem d_BR_foundBase_8 : decode b_BR_foundBase 8 = .ok (.ifCond .eq 19, 3) := by decide +kernel
theorem d_BR_foundBase_11 : decode b_BR_foundBase 11 = .ok (.iload_n 2, 1) := by decide +kernel
theorem d_BR_foundBase_12 : decode b_BR_foundBase 12 = .ok (.ifCond .lt 15, 3) := by decide +kernel
theorem d_BR_foundBase_15 : decode b_BR_foundBase 15 = .ok (.iload_n 2, 1) := by decide +kernel
theorem d_BR_foundBase_16 : decode b_BR_foundBase 16 = .ok (.aload_n 0, 1) := by decide +kernel
theorem d_BR_foundBase_17 : decode b_BR_foundBase 17 = .ok (.getfield 40, 3) := by decide +kernel
theorem d_BR_foundBase_20 : decode b_BR_foundBase 20 = .ok (.iload_n 1, 1) := by decide +kernel
theorem d_BR_foundBase_21 : decode b_BR_foundBase 21 = .ok (.invokevirtual 168, 3) := by decide +kernel
theorem d_BR_foundBase_24 : decode b_BR_foundBase 24 = .ok (.if_icmp .lt 5, 3) := by decide +kernel
theorem d_BR_foundBase_27 : decode b_BR_foundBase 27 = .ok (.iconst (-1), 1) := by decide +kernel
theorem d_BR_foundBase_28 : decode b_BR_foundBase 28 = .ok (.ireturn, 1) := by decide +kernel
theorem d_BR_foundBase_29 : decode b_BR_foundBase 29 = .ok (.aload_n 0, 1) := by decide +kernel
theorem d_BR_foundBase_30 : decode b_BR_foundBase 30 = .ok (.getfield 40, 3) := by decide +kernel
theorem d_BR_foundBase_33 : decode b_BR_foundBase 33 = .ok (.getfield 158, 3) := by decide +kernel
theorem d_BR_foundBase_36 : decode b_BR_foundBase 36 = .ok (.iload_n 1, 1) := by decide +kernel
theorem d_BR_foundBase_37 : decode b_BR_foundBase 37 = .ok (.aaload, 1) := by decide +kernel
theorem d_BR_foundBase_38 : decode b_BR_foundBase 38 = .ok (.bipush 7, 2) := by decide +kernel
theorem d_BR_foundBase_40 : decode b_BR_foundBase 40 = .ok (.aload_n 0, 1) := by decide +kernel
theorem d_BR_foundBase_41 : decode b_BR_foundBase 41 = .ok (.getfield 40, 3) := by decide +kernel
theorem d_BR_foundBase_44 : decode b_BR_foundBase 44 = .ok (.iload_n 1, 1) := by decide +kernel
theorem d_BR_foundBase_45 : decode b_BR_foundBase 45 = .ok (.invokevirtual 165, 3) := by decide +kernel
theorem d_BR_foundBase_48 : decode b_BR_foundBase 48 = .ok (.iadd, 1) := by decide +kernel
theorem d_BR_foundBase_49 : decode b_BR_foundBase 49 = .ok (.iload_n 2, 1) := by decide +kernel
theorem d_BR_foundBase_50 : decode b_BR_foundBase 50 = .ok (.iconst 2, 1) := by decide +kernel
theorem d_BR_foundBase_51 : decode b_BR_foundBase 51 = .ok (.idiv, 1) := by decide +kernel
theorem d_BR_foundBase_52 : decode b_BR_foundBase 52 = .ok (.iadd, 1) := by decide +kernel
theorem d_BR_foundBase_53 : decode b_BR_foundBase 53 = .ok (.iaload, 1) := by decide +kernel
theorem d_BR_foundBase_54 : decode b_BR_foundBase 54 = .ok (.istore_n 3, 1) := by decide +kernel
theorem d_BR_foundBase_55 : decode b_BR_foundBase 55 = .ok (.iload_n 2, 1) := by decide +kernel
theorem d_BR_foundBase_56 : decode b_BR_foundBase 56 = .ok (.iconst 2, 1) := by decide +kernel
theorem d_BR_foundBase_57 : decode b_BR_foundBase 57 = .ok (.irem, 1) := by decide +kernel
theorem d_BR_foundBase_58 : decode b_BR_foundBase 58 = .ok (.ifCond .ne 9, 3) := by decide +kernel
theorem d_BR_foundBase_61 : decode b_BR_foundBase 61 = .ok (.iload_n 3, 1) := by decide +kernel
theorem d_BR_foundBase_62 : decode b_BR_foundBase 62 = .ok (.iconst 4, 1) := by decide +kernel
theorem d_BR_foundBase_63 : decode b_BR_foundBase 63 = .ok (.iushr, 1) := by decide +kernel
theorem d_BR_foundBase_64 : decode b_BR_foundBase 64 = .ok (.goto 7, 3) := by decide +kernel
theorem d_BR_foundBase_67 : decode b_BR_foundBase 67 = .ok (.iload_n 3, 1) := by decide +kernel
theorem d_BR_foundBase_68 : decode b_BR_foundBase 68 = .ok (.bipush 15, 2) := by decide +kernel
theorem d_BR_foundBase_70 : decode b_BR_foundBase 70 = .ok (.iand, 1) := by decide +kernel
theorem d_BR_foundBase_71 : decode b_BR_foundBase 71 = .ok (.ireturn, 1) := by decide +kernel
theorem d_BR_areChosenSound_0 : decode b_BR_areChosenSound 0 = .ok (.iconst 0, 1) := by decide +kernel
theorem d_BR_areChosenSound_1 : decode b_BR_areChosenSound 1 = .ok (.istore_n 1, 1) := by decide +kernel
theorem d_BR_areChosenSound_2 : decode b_BR_areChosenSound 2 = .ok (.iconst 0, 1) := by decide +kernel
theorem d_BR_areChosenSound_3 : decode b_BR_areChosenSound 3 = .ok (.istore_n 2, 1) := by decide +kernel
theorem d_BR_areChosenSound_4 : decode b_BR_areChosenSound 4 = .ok (.iload_n 2, 1) := by decide +kernel
theorem d_BR_areChosenSound_5 : decode b_BR_areChosenSound 5 = .ok (.aload_n 0, 1) := by decide +kernel
theorem d_BR_areChosenSound_6 : decode b_BR_areChosenSound 6 = .ok (.getfield 26, 3) := by decide +kernel
theorem d_BR_areChosenSound_9 : decode b_BR_areChosenSound 9 = .ok (.getfield 129, 3) := by decide +kernel
theorem d_BR_areChosenSound_12 : decode b_BR_areChosenSound 12 = .ok (.if_icmp .ge 78, 3) := by decide +kernel
theorem d_BR_areChosenSound_15 : decode b_BR_areChosenSound 15 = .ok (.aload_n 0, 1) := by decide +kernel
theorem d_BR_areChosenSound_16 : decode b_BR_areChosenSound 16 = .ok (.getfield 26, 3) := by decide +kernel
theorem d_BR_areChosenSound_19 : decode b_BR_areChosenSound 19 = .ok (.getfield 142, 3) := by decide +kernel
theorem d_BR_areChosenSound_22 : decode b_BR_areChosenSound 22 = .ok (.aload_n 0, 1) := by decide +kernel
theorem d_BR_areChosenSound_23 : decode b_BR_areChosenSound 23 = .ok (.getfield 26, 3) := by decide +kernel
theorem d_BR_areChosenSound_26 : decode b_BR_areChosenSound 26 = .ok (.getfield 135, 3) := by decide +kernel
theorem d_BR_areChosenSound_29 : decode b_BR_areChosenSound 29 = .ok (.iload_n 2, 1) := by decide +kernel
theorem d_BR_areChosenSound_30 : decode b_BR_areChosenSound 30 = .ok (.iaload, 1) := by decide +kernel
theorem d_BR_areChosenSound_31 : decode b_BR_areChosenSound 31 = .ok (.iaload, 1) := by decide +kernel
theorem d_BR_areChosenSound_32 : decode b_BR_areChosenSound 32 = .ok (.istore_n 3, 1) := by decide +kernel
theorem d_BR_areChosenSound_33 : decode b_BR_areChosenSound 33 = .ok (.iload_n 3, 1) := by decide +kernel
theorem d_BR_areChosenSound_34 : decode b_BR_areChosenSound 34 = .ok (.aload_n 0, 1) := by decide +kernel
theorem d_BR_areChosenSound_35 : decode b_BR_areChosenSound 35 = .ok (.getfield 19, 3) := by decide +kernel
theorem d_BR_areChosenSound_38 : decode b_BR_areChosenSound 38 = .ok (.iload_n 3, 1) := by decide +kernel
theorem d_BR_areChosenSound_39 : decode b_BR_areChosenSound 39 = .ok (.invokevirtual 171, 3) := by decide +kernel
theorem d_BR_areChosenSound_42 : decode b_BR_areChosenSound 42 = .ok (.iadd, 1) := by decide +kernel
theorem d_BR_areChosenSound_43 : decode b_BR_areChosenSound 43 = .ok (.iconst 1, 1) := by decide +kernel
theorem d_BR_areChosenSound_44 : decode b_BR_areChosenSound 44 = .ok (.isub, 1) := by decide +kernel
theorem d_BR_areChosenSound_45 : decode b_BR_areChosenSound 45 = .ok (.istore 4, 2) := by decide +kernel
theorem d_BR_areChosenSound_47 : decode b_BR_areChosenSound 47 = .ok (.iload_n 1, 1) := by decide +kernel
theorem d_BR_areChosenSound_48 : decode b_BR_areChosenSound 48 = .ok (.iload_n 3, 1) := by decide +kernel
theorem d_BR_areChosenSound_49 : decode b_BR_areChosenSound 49 = .ok (.bipush 40, 2) := by decide +kernel
theorem d_BR_areChosenSound_51 : decode b_BR_areChosenSound 51 = .ok (.idiv, 1) := by decide +kernel
theorem d_BR_areChosenSound_52 : decode b_BR_areChosenSound 52 = .ok (.invokestatic 174, 3) := by decide +kernel
theorem d_BR_areChosenSound_55 : decode b_BR_areChosenSound 55 = .ok (.istore 5, 2) := by decide +kernel
theorem d_BR_areChosenSound_57 : decode b_BR_areChosenSound 57 = .ok (.aload_n 0, 1) := by decide +kernel
theorem d_BR_areChosenSound_58 : decode b_BR_areChosenSound 58 = .ok (.getfield 33, 3) := by decide +kernel
theorem d_BR_areChosenSound_61 : decode b_BR_areChosenSound 61 = .ok (.iload 5, 2) := by decide +kernel
theorem d_BR_areChosenSound_63 : decode b_BR_areChosenSound 63 = .ok (.iload 4, 2) := by decide +kernel
theorem d_BR_areChosenSound_65 : decode b_BR_areChosenSound 65 = .ok (.bipush 40, 2) := by decide +kernel
theorem d_BR_areChosenSound_67 : decode b_BR_areChosenSound 67 = .ok (.idiv, 1) := by decide +kernel
theorem d_BR_areChosenSound_68 : decode b_BR_areChosenSound 68 = .ok (.invokevirtual 112, 3) := by decide +kernel
theorem d_BR_areChosenSound_71 : decode b_BR_areChosenSound 71 = .ok (.ifCond .ne 5, 3) := by decide +kernel
theorem d_BR_areChosenSound_74 : decode b_BR_areChosenSound 74 = .ok (.iconst 0, 1) := by decide +kernel
theorem d_BR_areChosenSound_75 : decode b_BR_areChosenSound 75 = .ok (.ireturn, 1) := by decide +kernel
theorem d_BR_areChosenSound_76 : decode b_BR_areChosenSound 76 = .ok (.iload 4, 2) := by decide +kernel
theorem d_BR_areChosenSound_78 : decode b_BR_areChosenSound 78 = .ok (.bipush 40, 2) := by decide +kernel
theorem d_BR_areChosenSound_80 : decode b_BR_areChosenSound 80 = .ok (.idiv, 1) := by decide +kernel
theorem d_BR_areChosenSound_81 : decode b_BR_areChosenSound 81 = .ok (.iconst 1, 1) := by decide +kernel
theorem d_BR_areChosenSound_82 : decode b_BR_areChosenSound 82 = .ok (.iadd, 1) := by decide +kernel
theorem d_BR_areChosenSound_83 : decode b_BR_areChosenSound 83 = .ok (.istore_n 1, 1) := by decide +kernel
theorem d_BR_areChosenSound_84 : decode b_BR_areChosenSound 84 = .ok (.iinc 2 1, 3) := by decide +kernel
theorem d_BR_areChosenSound_87 : decode b_BR_areChosenSound 87 = .ok (.goto (-83), 3) := by decide +kernel
theorem d_BR_areChosenSound_90 : decode b_BR_areChosenSound 90 = .ok (.iconst 1, 1) := by decide +kernel
theorem d_BR_areChosenSound_91 : decode b_BR_areChosenSound 91 = .ok (.ireturn, 1) := by decide +kernel
theorem d_BR_isReference_0 : decode b_BR_isReference 0 = .ok (.iload_n 0, 1) := by decide +kernel
theorem d_BR_isReference_1 : decode b_BR_isReference 1 = .ok (.ifCond .lt 12, 3) := by decide +kernel
theorem d_BR_isReference_4 : decode b_BR_isReference 4 = .ok (.iload_n 0, 1) := by decide +kernel
theorem d_BR_isReference_5 : decode b_BR_isReference 5 = .ok (.iconst 2, 1) := by decide +kernel
theorem d_BR_isReference_6 : decode b_BR_isReference 6 = .ok (.if_icmp .ge 7, 3) := by decide +kernel
theorem d_BR_isReference_9 : decode b_BR_isReference 9 = .ok (.iconst 1, 1) := by decide +kernel
theorem d_BR_isReference_10 : decode b_BR_isReference 10 = .ok (.goto 4, 3) := by decide +kernel
theorem d_BR_isReference_13 : decode b_BR_isReference 13 = .ok (.iconst 0, 1) := by decide +kernel
theorem d_BR_isReference_14 : decode b_BR_isReference 14 = .ok (.ireturn, 1) := by decide +kernel
theorem d_BR_isRegion_0 : decode b_BR_isRegion 0 = .ok (.iload_n 0, 1) := by decide +kernel
theorem d_BR_isRegion_1 : decode b_BR_isRegion 1 = .ok (.invokestatic 65, 3) := by decide +kernel
theorem d_BR_isRegion_4 : decode b_BR_isRegion 4 = .ok (.ifCond .eq 23, 3) := by decide +kernel
theorem d_BR_isRegion_7 : decode b_BR_isRegion 7 = .ok (.iload_n 1, 1) := by decide +kernel
theorem d_BR_isRegion_8 : decode b_BR_isRegion 8 = .ok (.ifCond .lt 19, 3) := by decide +kernel
theorem d_BR_isRegion_11 : decode b_BR_isRegion 11 = .ok (.iload_n 2, 1) := by decide +kernel
theorem d_BR_isRegion_12 : decode b_BR_isRegion 12 = .ok (.sipush 4096, 3) := by decide +kernel
theorem d_BR_isRegion_15 : decode b_BR_isRegion 15 = .ok (.if_icmp .gt 12, 3) := by decide +kernel
theorem d_BR_isRegion_18 : decode b_BR_isRegion 18 = .ok (.iload_n 1, 1) := by decide +kernel
theorem d_BR_isRegion_19 : decode b_BR_isRegion 19 = .ok (.iload_n 2, 1) := by decide +kernel
theorem d_BR_isRegion_20 : decode b_BR_isRegion 20 = .ok (.if_icmp .ge 7, 3) := by decide +kernel
theorem d_BR_isRegion_23 : decode b_BR_isRegion 23 = .ok (.iconst 1, 1) := by decide +kernel
theorem d_BR_isRegion_24 : decode b_BR_isRegion 24 = .ok (.goto 4, 3) := by decide +kernel
theorem d_BR_isRegion_27 : decode b_BR_isRegion 27 = .ok (.iconst 0, 1) := by decide +kernel
theorem d_BR_isRegion_28 : decode b_BR_isRegion 28 = .ok (.ireturn, 1) := by decide +kernel
theorem d_BR_binOf_0 : decode b_BR_binOf 0 = .ok (.iload_n 1, 1) := by decide +kernel
theorem d_BR_binOf_1 : decode b_BR_binOf 1 = .ok (.iconst 1, 1) := by decide +kernel
theorem d_BR_binOf_2 : decode b_BR_binOf 2 = .ok (.isub, 1) := by decide +kernel
theorem d_BR_binOf_3 : decode b_BR_binOf 3 = .ok (.istore_n 2, 1) := by decide +kernel
theorem d_BR_binOf_4 : decode b_BR_binOf 4 = .ok (.iload_n 0, 1) := by decide +kernel
theorem d_BR_binOf_5 : decode b_BR_binOf 5 = .ok (.bipush 64, 2) := by decide +kernel
theorem d_BR_binOf_7 : decode b_BR_binOf 7 = .ok (.idiv, 1) := by decide +kernel
theorem d_BR_binOf_8 : decode b_BR_binOf 8 = .ok (.iload_n 2, 1) := by decide +kernel
theorem d_BR_binOf_9 : decode b_BR_binOf 9 = .ok (.bipush 64, 2) := by decide +kernel
theorem d_BR_binOf_11 : decode b_BR_binOf 11 = .ok (.idiv, 1) := by decide +kernel
theorem d_BR_binOf_12 : decode b_BR_binOf 12 = .ok (.if_icmp .ne 11, 3) := by decide +kernel
theorem d_BR_binOf_15 : decode b_BR_binOf 15 = .ok (.bipush 9, 2) := by decide +kernel
theorem d_BR_binOf_17 : decode b_BR_binOf 17 = .ok (.iload_n 0, 1) := by decide +kernel
theorem d_BR_binOf_18 : decode b_BR_binOf 18 = .ok (.bipush 64, 2) := by decide +kernel
theorem d_BR_binOf_20 : decode b_BR_binOf 20 = .ok (.idiv, 1) := by decide +kernel
theorem d_BR_binOf_21 : decode b_BR_binOf 21 = .ok (.iadd, 1) := by decide +kernel
theorem d_BR_binOf_22 : decode b_BR_binOf 22 = .ok (.ireturn, 1) := by decide +kernel
theorem d_BR_binOf_23 : decode b_BR_binOf 23 = .ok (.iload_n 0, 1) := by decide +kernel
theorem d_BR_binOf_24 : decode b_BR_binOf 24 = .ok (.sipush 512, 3) := by decide +kernel
theorem d_BR_binOf_27 : decode b_BR_binOf 27 = .ok (.idiv, 1) := by decide +kernel
theorem d_BR_binOf_28 : decode b_BR_binOf 28 = .ok (.iload_n 2, 1) := by decide +kernel
theorem d_BR_binOf_29 : decode b_BR_binOf 29 = .ok (.sipush 512, 3) := by decide +kernel
theorem d_BR_binOf_32 : decode b_BR_binOf 32 = .ok (.idiv, 1) := by decide +kernel
theorem d_BR_binOf_33 : decode b_BR_binOf 33 = .ok (.if_icmp .ne 11, 3) := by decide +kernel
theorem d_BR_binOf_36 : decode b_BR_binOf 36 = .ok (.iconst 1, 1) := by decide +kernel
theorem d_BR_binOf_37 : decode b_BR_binOf 37 = .ok (.iload_n 0, 1) := by decide +kernel
theorem d_BR_binOf_38 : decode b_BR_binOf 38 = .ok (.sipush 512, 3) := by decide +kernel
theorem d_BR_binOf_41 : decode b_BR_binOf 41 = .ok (.idiv, 1) := by decide +kernel
theorem d_BR_binOf_42 : decode b_BR_binOf 42 = .ok (.iadd, 1) := by decide +kernel
theorem d_BR_binOf_43 : decode b_BR_binOf 43 = .ok (.ireturn, 1) := by decide +kernel
theorem d_BR_binOf_44 : decode b_BR_binOf 44 = .ok (.iconst 0, 1) := by decide +kernel
theorem d_BR_binOf_45 : decode b_BR_binOf 45 = .ok (.ireturn, 1) := by decide +kernel
theorem d_BR_binMeets_0 : decode b_BR_binMeets 0 = .ok (.iconst 0, 1) := by decide +kernel
theorem d_BR_binMeets_1 : decode b_BR_binMeets 1 = .ok (.istore_n 3, 1) := by decide +kernel
theorem d_BR_binMeets_2 : decode b_BR_binMeets 2 = .ok (.sipush 4096, 3) := by decide +kernel
theorem d_BR_binMeets_5 : decode b_BR_binMeets 5 = .ok (.istore 4, 2) := by decide +kernel
theorem d_BR_binMeets_7 : decode b_BR_binMeets 7 = .ok (.iload_n 0, 1) := by decide +kernel
theorem d_BR_binMeets_8 : decode b_BR_binMeets 8 = .ok (.bipush 9, 2) := by decide +kernel
theorem d_BR_binMeets_10 : decode b_BR_binMeets 10 = .ok (.if_icmp .lt 20, 3) := by decide +kernel
theorem d_BR_binMeets_13 : decode b_BR_binMeets 13 = .ok (.bipush 64, 2) := by decide +kernel
theorem d_BR_binMeets_15 : decode b_BR_binMeets 15 = .ok (.iload_n 0, 1) := by decide +kernel
theorem d_BR_binMeets_16 : decode b_BR_binMeets 16 = .ok (.bipush 9, 2) := by decide +kernel
theorem d_BR_binMeets_18 : decode b_BR_binMeets 18 = .ok (.isub, 1) := by decide +kernel
theorem d_BR_binMeets_19 : decode b_BR_binMeets 19 = .ok (.imul, 1) := by decide +kernel
theorem d_BR_binMeets_20 : decode b_BR_binMeets 20 = .ok (.istore_n 3, 1) := by decide +kernel
theorem d_BR_binMeets_21 : decode b_BR_binMeets 21 = .ok (.iload_n 3, 1) := by decide +kernel
theorem d_BR_binMeets_22 : decode b_BR_binMeets 22 = .ok (.bipush 64, 2) := by decide +kernel
theorem d_BR_binMeets_24 : decode b_BR_binMeets 24 = .ok (.iadd, 1) := by decide +kernel
theorem d_BR_binMeets_25 : decode b_BR_binMeets 25 = .ok (.istore 4, 2) := by decide +kernel
theorem d_BR_binMeets_27 : decode b_BR_binMeets 27 = .ok (.goto 23, 3) := by decide +kernel
theorem d_BR_binMeets_30 : decode b_BR_binMeets 30 = .ok (.iload_n 0, 1) := by decide +kernel
theorem d_BR_binMeets_31 : decode b_BR_binMeets 31 = .ok (.iconst 1, 1) := by decide +kernel
theorem d_BR_binMeets_32 : decode b_BR_binMeets 32 = .ok (.if_icmp .lt 18, 3) := by decide +kernel
theorem d_BR_binMeets_35 : decode b_BR_binMeets 35 = .ok (.sipush 512, 3) := by decide +kernel
theorem d_BR_binMeets_38 : decode b_BR_binMeets 38 = .ok (.iload_n 0, 1) := by decide +kernel
theorem d_BR_binMeets_39 : decode b_BR_binMeets 39 = .ok (.iconst 1, 1) := by decide +kernel
theorem d_BR_binMeets_40 : decode b_BR_binMeets 40 = .ok (.isub, 1) := by decide +kernel
theorem d_BR_binMeets_41 : decode b_BR_binMeets 41 = .ok (.imul, 1) := by decide +kernel
theorem d_BR_binMeets_42 : decode b_BR_binMeets 42 = .ok (.istore_n 3, 1) := by decide +kernel
theorem d_BR_binMeets_43 : decode b_BR_binMeets 43 = .ok (.iload_n 3, 1) := by decide +kernel
theorem d_BR_binMeets_44 : decode b_BR_binMeets 44 = .ok (.sipush 512, 3) := by decide +kernel
theorem d_BR_binMeets_47 : decode b_BR_binMeets 47 = .ok (.iadd, 1) := by decide +kernel
theorem d_BR_binMeets_48 : decode b_BR_binMeets 48 = .ok (.istore 4, 2) := by decide +kernel
theorem d_BR_binMeets_50 : decode b_BR_binMeets 50 = .ok (.iload_n 3, 1) := by decide +kernel
theorem d_BR_binMeets_51 : decode b_BR_binMeets 51 = .ok (.iload_n 2, 1) := by decide +kernel
theorem d_BR_binMeets_52 : decode b_BR_binMeets 52 = .ok (.if_icmp .ge 13, 3) := by decide +kernel
theorem d_BR_binMeets_55 : decode b_BR_binMeets 55 = .ok (.iload_n 1, 1) := by decide +kernel
theorem d_BR_binMeets_56 : decode b_BR_binMeets 56 = .ok (.iload 4, 2) := by decide +kernel
theorem d_BR_binMeets_58 : decode b_BR_binMeets 58 = .ok (.if_icmp .ge 7, 3) := by decide +kernel
theorem d_BR_binMeets_61 : decode b_BR_binMeets 61 = .ok (.iconst 1, 1) := by decide +kernel
theorem d_BR_binMeets_62 : decode b_BR_binMeets 62 = .ok (.goto 4, 3) := by decide +kernel
theorem d_BR_binMeets_65 : decode b_BR_binMeets 65 = .ok (.iconst 0, 1) := by decide +kernel
theorem d_BR_binMeets_66 : decode b_BR_binMeets 66 = .ok (.ireturn, 1) := by decide +kernel
theorem d_BR_kindOf_0 : decode b_BR_kindOf 0 = .ok (.iload_n 0, 1) := by decide +kernel
theorem d_BR_kindOf_1 : decode b_BR_kindOf 1 = .ok (.iconst 4, 1) := by decide +kernel
theorem d_BR_kindOf_2 : decode b_BR_kindOf 2 = .ok (.irem, 1) := by decide +kernel
theorem d_BR_kindOf_3 : decode b_BR_kindOf 3 = .ok (.ireturn, 1) := by decide +kernel
theorem d_BR_lengthOf_0 : decode b_BR_lengthOf 0 = .ok (.iload_n 0, 1) := by decide +kernel
theorem d_BR_lengthOf_1 : decode b_BR_lengthOf 1 = .ok (.iconst 4, 1) := by decide +kernel
theorem d_BR_lengthOf_2 : decode b_BR_lengthOf 2 = .ok (.idiv, 1) := by decide +kernel
theorem d_BR_lengthOf_3 : decode b_BR_lengthOf 3 = .ok (.ireturn, 1) := by decide +kernel
theorem d_BR_spanOf_0 : decode b_BR_spanOf 0 = .ok (.iconst 0, 1) := by decide +kernel
theorem d_BR_spanOf_1 : decode b_BR_spanOf 1 = .ok (.istore_n 3, 1) := by decide +kernel
theorem d_BR_spanOf_2 : decode b_BR_spanOf 2 = .ok (.iconst 0, 1) := by decide +kernel
theorem d_BR_spanOf_3 : decode b_BR_spanOf 3 = .ok (.istore 4, 2) := by decide +kernel
theorem d_BR_spanOf_5 : decode b_BR_spanOf 5 = .ok (.iload 4, 2) := by decide +kernel
theorem d_BR_spanOf_7 : decode b_BR_spanOf 7 = .ok (.iload_n 2, 1) := by decide +kernel
theorem d_BR_spanOf_8 : decode b_BR_spanOf 8 = .ok (.if_icmp .ge 43, 3) := by decide +kernel
theorem d_BR_spanOf_11 : decode b_BR_spanOf 11 = .ok (.iload_n 1, 1) := by decide +kernel
theorem d_BR_spanOf_12 : decode b_BR_spanOf 12 = .ok (.iload 4, 2) := by decide +kernel
theorem d_BR_spanOf_14 : decode b_BR_spanOf 14 = .ok (.iadd, 1) := by decide +kernel
theorem d_BR_spanOf_15 : decode b_BR_spanOf 15 = .ok (.aload_n 0, 1) := by decide +kernel
theorem d_BR_spanOf_16 : decode b_BR_spanOf 16 = .ok (.arraylength, 1) := by decide +kernel
theorem d_BR_spanOf_17 : decode b_BR_spanOf 17 = .ok (.if_icmp .ge 34, 3) := by decide +kernel
theorem d_BR_spanOf_20 : decode b_BR_spanOf 20 = .ok (.aload_n 0, 1) := by decide +kernel
theorem d_BR_spanOf_21 : decode b_BR_spanOf 21 = .ok (.iload_n 1, 1) := by decide +kernel
theorem d_BR_spanOf_22 : decode b_BR_spanOf 22 = .ok (.iload 4, 2) := by decide +kernel
theorem d_BR_spanOf_24 : decode b_BR_spanOf 24 = .ok (.iadd, 1) := by decide +kernel
theorem d_BR_spanOf_25 : decode b_BR_spanOf 25 = .ok (.iaload, 1) := by decide +kernel
theorem d_BR_spanOf_26 : decode b_BR_spanOf 26 = .ok (.istore 5, 2) := by decide +kernel
theorem d_BR_spanOf_28 : decode b_BR_spanOf 28 = .ok (.iload 5, 2) := by decide +kernel
theorem d_BR_spanOf_30 : decode b_BR_spanOf 30 = .ok (.invokestatic 179, 3) := by decide +kernel
theorem d_BR_spanOf_33 : decode b_BR_spanOf 33 = .ok (.iconst 1, 1) := by decide +kernel
theorem d_BR_spanOf_34 : decode b_BR_spanOf 34 = .ok (.if_icmp .eq 11, 3) := by decide +kernel
theorem d_BR_spanOf_37 : decode b_BR_spanOf 37 = .ok (.iload_n 3, 1) := by decide +kernel
theorem d_BR_spanOf_38 : decode b_BR_spanOf 38 = .ok (.iload 5, 2) := by decide +kernel
theorem d_BR_spanOf_40 : decode b_BR_spanOf 40 = .ok (.invokestatic 182, 3) := by decide +kernel
theorem d_BR_spanOf_43 : decode b_BR_spanOf 43 = .ok (.iadd, 1) := by decide +kernel
theorem d_BR_spanOf_44 : decode b_BR_spanOf 44 = .ok (.istore_n 3, 1) := by decide +kernel
theorem d_BR_spanOf_45 : decode b_BR_spanOf 45 = .ok (.iinc 4 1, 3) := by decide +kernel
theorem d_BR_spanOf_48 : decode b_BR_spanOf 48 = .ok (.goto (-43), 3) := by decide +kernel
theorem d_BR_spanOf_51 : decode b_BR_spanOf 51 = .ok (.iload_n 3, 1) := by decide +kernel
theorem d_BR_spanOf_52 : decode b_BR_spanOf 52 = .ok (.ireturn, 1) := by decide +kernel
end
section
theorem d_Mod_init_0 : decode b_Mod_init 0 = .ok (.aload_n 0, 1) := by decide +kernel
theorem d_Mod_init_1 : decode b_Mod_init 1 = .ok (.invokespecial 1, 3) := by decide +kernel
theorem d_Mod_init_4 : decode b_Mod_init 4 = .ok (.aload_n 0, 1) := by decide +kernel
theorem d_Mod_init_5 : decode b_Mod_init 5 = .ok (.iconst 3, 1) := by decide +kernel
theorem d_Mod_init_6 : decode b_Mod_init 6 = .ok (.newarray .int, 2) := by decide +kernel
theorem d_Mod_init_8 : decode b_Mod_init 8 = .ok (.putfield 7, 3) := by decide +kernel
theorem d_Mod_init_11 : decode b_Mod_init 11 = .ok (.aload_n 0, 1) := by decide +kernel
theorem d_Mod_init_12 : decode b_Mod_init 12 = .ok (.iconst 3, 1) := by decide +kernel
theorem d_Mod_init_13 : decode b_Mod_init 13 = .ok (.newarray .int, 2) := by decide +kernel
theorem d_Mod_init_15 : decode b_Mod_init 15 = .ok (.putfield 13, 3) := by decide +kernel
theorem d_Mod_init_18 : decode b_Mod_init 18 = .ok (.aload_n 0, 1) := by decide +kernel
theorem d_Mod_init_19 : decode b_Mod_init 19 = .ok (.bipush 24, 2) := by decide +kernel
theorem d_Mod_init_21 : decode b_Mod_init 21 = .ok (.newarray .int, 2) := by decide +kernel
theorem d_Mod_init_23 : decode b_Mod_init 23 = .ok (.putfield 16, 3) := by decide +kernel
theorem d_Mod_init_26 : decode b_Mod_init 26 = .ok (.aload_n 0, 1) := by decide +kernel
theorem d_Mod_init_27 : decode b_Mod_init 27 = .ok (.bipush 24, 2) := by decide +kernel
theorem d_Mod_init_29 : decode b_Mod_init 29 = .ok (.newarray .int, 2) := by decide +kernel
theorem d_Mod_init_31 : decode b_Mod_init 31 = .ok (.putfield 19, 3) := by decide +kernel
theorem d_Mod_init_34 : decode b_Mod_init 34 = .ok (.aload_n 0, 1) := by decide +kernel
theorem d_Mod_init_35 : decode b_Mod_init 35 = .ok (.bipush 24, 2) := by decide +kernel
theorem d_Mod_init_37 : decode b_Mod_init 37 = .ok (.newarray .int, 2) := by decide +kernel
theorem d_Mod_init_39 : decode b_Mod_init 39 = .ok (.putfield 22, 3) := by decide +kernel
theorem d_Mod_init_42 : decode b_Mod_init 42 = .ok (.aload_n 0, 1) := by decide +kernel
theorem d_Mod_init_43 : decode b_Mod_init 43 = .ok (.bipush 24, 2) := by decide +kernel
theorem d_Mod_init_45 : decode b_Mod_init 45 = .ok (.newarray .int, 2) := by decide +kernel
theorem d_Mod_init_47 : decode b_Mod_init 47 = .ok (.putfield 25, 3) := by decide +kernel
theorem d_Mod_init_50 : decode b_Mod_init 50 = .ok (.aload_n 0, 1) := by decide +kernel
theorem d_Mod_init_51 : decode b_Mod_init 51 = .ok (.bipush 24, 2) := by decide +kernel
theorem d_Mod_init_53 : decode b_Mod_init 53 = .ok (.newarray .int, 2) := by decide +kernel
theorem d_Mod_init_55 : decode b_Mod_init 55 = .ok (.putfield 28, 3) := by decide +kernel
theorem d_Mod_init_58 : decode b_Mod_init 58 = .ok (.aload_n 0, 1) := by decide +kernel
theorem d_Mod_init_59 : decode b_Mod_init 59 = .ok (.bipush 72, 2) := by decide +kernel
theorem d_Mod_init_61 : decode b_Mod_init 61 = .ok (.newarray .int, 2) := by decide +kernel
theorem d_Mod_init_63 : decode b_Mod_init 63 = .ok (.putfield 31, 3) := by decide +kernel
theorem d_Mod_init_66 : decode b_Mod_init 66 = .ok (.aload_n 0, 1) := by decide +kernel
theorem d_Mod_init_67 : decode b_Mod_init 67 = .ok (.bipush 24, 2) := by decide +kernel
theorem d_Mod_init_69 : decode b_Mod_init 69 = .ok (.newarray .int, 2) := by decide +kernel
theorem d_Mod_init_71 : decode b_Mod_init 71 = .ok (.putfield 34, 3) := by decide +kernel
theorem d_Mod_init_74 : decode b_Mod_init 74 = .ok (.aload_n 0, 1) := by decide +kernel
theorem d_Mod_init_75 : decode b_Mod_init 75 = .ok (.sipush 576, 3) := by decide +kernel
theorem d_Mod_init_78 : decode b_Mod_init 78 = .ok (.newarray .int, 2) := by decide +kernel
theorem d_Mod_init_80 : decode b_Mod_init 80 = .ok (.putfield 37, 3) := by decide +kernel
theorem d_Mod_init_83 : decode b_Mod_init 83 = .ok (.aload_n 0, 1) := by decide +kernel
theorem d_Mod_init_84 : decode b_Mod_init 84 = .ok (.bipush 25, 2) := by decide +kernel
theorem d_Mod_init_86 : decode b_Mod_init 86 = .ok (.newarray .int, 2) := by decide +kernel
theorem d_Mod_init_88 : decode b_Mod_init 88 = .ok (.putfield 40, 3) := by decide +kernel
theorem d_Mod_init_91 : decode b_Mod_init 91 = .ok (.aload_n 0, 1) := by decide +kernel
theorem d_Mod_init_92 : decode b_Mod_init 92 = .ok (.sipush 528, 3) := by decide +kernel
theorem d_Mod_init_95 : decode b_Mod_init 95 = .ok (.newarray .int, 2) := by decide +kernel
theorem d_Mod_init_97 : decode b_Mod_init 97 = .ok (.putfield 43, 3) := by decide +kernel
theorem d_Mod_init_100 : decode b_Mod_init 100 = .ok (.aload_n 0, 1) := by decide +kernel
theorem d_Mod_init_101 : decode b_Mod_init 101 = .ok (.sipush 700, 3) := by decide +kernel
theorem d_Mod_init_104 : decode b_Mod_init 104 = .ok (.newarray .int, 2) := by decide +kernel
theorem d_Mod_init_106 : decode b_Mod_init 106 = .ok (.putfield 46, 3) := by decide +kernel
theorem d_Mod_init_109 : decode b_Mod_init 109 = .ok (.aload_n 0, 1) := by decide +kernel
theorem d_Mod_init_110 : decode b_Mod_init 110 = .ok (.iconst (-1), 1) := by decide +kernel
theorem d_Mod_init_111 : decode b_Mod_init 111 = .ok (.putfield 49, 3) := by decide +kernel
theorem d_Mod_init_114 : decode b_Mod_init 114 = .ok (.aload_n 0, 1) := by decide +kernel
theorem d_Mod_init_115 : decode b_Mod_init 115 = .ok (.bipush 24, 2) := by decide +kernel
theorem d_Mod_init_117 : decode b_Mod_init 117 = .ok (.newarray .int, 2) := by decide +kernel
theorem d_Mod_init_119 : decode b_Mod_init 119 = .ok (.putfield 53, 3) := by decide +kernel
theorem d_Mod_init_122 : decode b_Mod_init 122 = .ok (.return_, 1) := by decide +kernel
theorem d_Mod_within_0 : decode b_Mod_within 0 = .ok (.iload_n 0, 1) := by decide +kernel
theorem d_Mod_within_1 : decode b_Mod_within 1 = .ok (.iload_n 1, 1) := by decide +kernel
theorem d_Mod_within_2 : decode b_Mod_within 2 = .ok (.if_icmp .lt 12, 3) := by decide +kernel
theorem d_Mod_within_5 : decode b_Mod_within 5 = .ok (.iload_n 0, 1) := by decide +kernel
theorem d_Mod_within_6 : decode b_Mod_within 6 = .ok (.iload_n 2, 1) := by decide +kernel
theorem d_Mod_within_7 : decode b_Mod_within 7 = .ok (.if_icmp .gt 7, 3) := by decide +kernel
theorem d_Mod_within_10 : decode b_Mod_within 10 = .ok (.iconst 1, 1) := by decide +kernel
theorem d_Mod_within_11 : decode b_Mod_within 11 = .ok (.goto 4, 3) := by decide +kernel
theorem d_Mod_within_14 : decode b_Mod_within 14 = .ok (.iconst 0, 1) := by decide +kernel
theorem d_Mod_within_15 : decode b_Mod_within 15 = .ok (.ireturn, 1) := by decide +kernel
theorem d_Mod_op_0 : decode b_Mod_op 0 = .ok (.iload_n 1, 1) := by decide +kernel
theorem d_Mod_op_1 : decode b_Mod_op 1 = .ok (.iconst 0, 1) := by decide +kernel
theorem d_Mod_op_2 : decode b_Mod_op 2 = .ok (.iconst 3, 1) := by decide +kernel
theorem d_Mod_op_3 : decode b_Mod_op 3 = .ok (.invokestatic 56, 3) := by decide +kernel
theorem d_Mod_op_6 : decode b_Mod_op 6 = .ok (.ifCond .eq 21, 3) := by decide +kernel
theorem d_Mod_op_9 : decode b_Mod_op 9 = .ok (.iload_n 2, 1) := by decide +kernel
theorem d_Mod_op_10 : decode b_Mod_op 10 = .ok (.iconst 1, 1) := by decide +kernel
theorem d_Mod_op_11 : decode b_Mod_op 11 = .ok (.bipush 63, 2) := by decide +kernel
theorem d_Mod_op_13 : decode b_Mod_op 13 = .ok (.invokestatic 56, 3) := by decide +kernel
theorem d_Mod_op_16 : decode b_Mod_op 16 = .ok (.ifCond .eq 11, 3) := by decide +kernel
theorem d_Mod_op_19 : decode b_Mod_op 19 = .ok (.aload_n 0, 1) := by decide +kernel
theorem d_Mod_op_20 : decode b_Mod_op 20 = .ok (.getfield 60, 3) := by decide +kernel
theorem d_Mod_op_23 : decode b_Mod_op 23 = .ok (.iconst 3, 1) := by decide +kernel
theorem d_Mod_op_24 : decode b_Mod_op 24 = .ok (.if_icmp .ne 5, 3) := by decide +kernel
theorem d_Mod_op_27 : decode b_Mod_op 27 = .ok (.iconst 0, 1) := by decide +kernel
theorem d_Mod_op_28 : decode b_Mod_op 28 = .ok (.ireturn, 1) := by decide +kernel
theorem d_Mod_op_29 : decode b_Mod_op 29 = .ok (.aload_n 0, 1) := by decide +kernel
theorem d_Mod_op_30 : decode b_Mod_op 30 = .ok (.getfield 7, 3) := by decide +kernel
theorem d_Mod_op_33 : decode b_Mod_op 33 = .ok (.aload_n 0, 1) := by decide +kernel
theorem d_Mod_op_34 : decode b_Mod_op 34 = .ok (.getfield 60, 3) := by decide +kernel
theorem d_Mod_op_37 : decode b_Mod_op 37 = .ok (.iload_n 1, 1) := by decide +kernel
theorem d_Mod_op_38 : decode b_Mod_op 38 = .ok (.iastore, 1) := by decide +kernel
theorem d_Mod_op_39 : decode b_Mod_op 39 = .ok (.aload_n 0, 1) := by decide +kernel
theorem d_Mod_op_40 : decode b_Mod_op 40 = .ok (.getfield 13, 3) := by decide +kernel
theorem d_Mod_op_43 : decode b_Mod_op 43 = .ok (.aload_n 0, 1) := by decide +kernel
theorem d_Mod_op_44 : decode b_Mod_op 44 = .ok (.getfield 60, 3) := by decide +kernel
theorem d_Mod_op_47 : decode b_Mod_op 47 = .ok (.iload_n 2, 1) := by decide +kernel
theorem d_Mod_op_48 : decode b_Mod_op 48 = .ok (.iastore, 1) := by decide +kernel
theorem d_Mod_op_49 : decode b_Mod_op 49 = .ok (.aload_n 0, 1) := by decide +kernel
theorem d_Mod_op_50 : decode b_Mod_op 50 = .ok (.dup, 1) := by decide +kernel
theorem d_Mod_op_51 : decode b_Mod_op 51 = .ok (.getfield 60, 3) := by decide +kernel
theorem d_Mod_op_54 : decode b_Mod_op 54 = .ok (.iconst 1, 1) := by decide +kernel
theorem d_Mod_op_55 : decode b_Mod_op 55 = .ok (.iadd, 1) := by decide +kernel
theorem d_Mod_op_56 : decode b_Mod_op 56 = .ok (.putfield 60, 3) := by decide +kernel
theorem d_Mod_op_59 : decode b_Mod_op 59 = .ok (.iconst 1, 1) := by decide +kernel
theorem d_Mod_op_60 : decode b_Mod_op 60 = .ok (.ireturn, 1) := by decide +kernel
theorem d_Mod_base_0 : decode b_Mod_base 0 = .ok (.iload_n 1, 1) := by decide +kernel
theorem d_Mod_base_1 : decode b_Mod_base 1 = .ok (.iconst 0, 1) := by decide +kernel
theorem d_Mod_base_2 : decode b_Mod_base 2 = .ok (.bipush 15, 2) := by decide +kernel
theorem d_Mod_base_4 : decode b_Mod_base 4 = .ok (.invokestatic 56, 3) := by decide +kernel
theorem d_Mod_base_7 : decode b_Mod_base 7 = .ok (.ifCond .eq 12, 3) := by decide +kernel
theorem d_Mod_base_10 : decode b_Mod_base 10 = .ok (.aload_n 0, 1) := by decide +kernel
theorem d_Mod_base_11 : decode b_Mod_base 11 = .ok (.getfield 63, 3) := by decide +kernel
theorem d_Mod_base_14 : decode b_Mod_base 14 = .ok (.bipush 24, 2) := by decide +kernel
theorem d_Mod_base_16 : decode b_Mod_base 16 = .ok (.if_icmp .ne 5, 3) := by decide +kernel
theorem d_Mod_base_19 : decode b_Mod_base 19 = .ok (.iconst 0, 1) := by decide +kernel
theorem d_Mod_base_20 : decode b_Mod_base 20 = .ok (.ireturn, 1) := by decide +kernel
theorem d_Mod_base_21 : decode b_Mod_base 21 = .ok (.aload_n 0, 1) := by decide +kernel
theorem d_Mod_base_22 : decode b_Mod_base 22 = .ok (.getfield 16, 3) := by decide +kernel
theorem d_Mod_base_25 : decode b_Mod_base 25 = .ok (.aload_n 0, 1) := by decide +kernel
theorem d_Mod_base_26 : decode b_Mod_base 26 = .ok (.getfield 63, 3) := by decide +kernel
theorem d_Mod_base_29 : decode b_Mod_base 29 = .ok (.iload_n 1, 1) := by decide +kernel
theorem d_Mod_base_30 : decode b_Mod_base 30 = .ok (.iastore, 1) := by decide +kernel
theorem d_Mod_base_31 : decode b_Mod_base 31 = .ok (.aload_n 0, 1) := by decide +kernel
theorem d_Mod_base_32 : decode b_Mod_base 32 = .ok (.dup, 1) := by decide +kernel
theorem d_Mod_base_33 : decode b_Mod_base 33 = .ok (.getfield 63, 3) := by decide +kernel
theorem d_Mod_base_36 : decode b_Mod_base 36 = .ok (.iconst 1, 1) := by decide +kernel
theorem d_Mod_base_37 : decode b_Mod_base 37 = .ok (.iadd, 1) := by decide +kernel
theorem d_Mod_base_38 : decode b_Mod_base 38 = .ok (.putfield 63, 3) := by decide +kernel
theorem d_Mod_base_41 : decode b_Mod_base 41 = .ok (.iconst 1, 1) := by decide +kernel
theorem d_Mod_base_42 : decode b_Mod_base 42 = .ok (.ireturn, 1) := by decide +kernel
theorem d_Mod_scrap_0 : decode b_Mod_scrap 0 = .ok (.aload_n 0, 1) := by decide +kernel
theorem d_Mod_scrap_1 : decode b_Mod_scrap 1 = .ok (.iconst 0, 1) := by decide +kernel
theorem d_Mod_scrap_2 : decode b_Mod_scrap 2 = .ok (.putfield 60, 3) := by decide +kernel
theorem d_Mod_scrap_5 : decode b_Mod_scrap 5 = .ok (.aload_n 0, 1) := by decide +kernel
theorem d_Mod_scrap_6 : decode b_Mod_scrap 6 = .ok (.iconst 0, 1) := by decide +kernel
theorem d_Mod_scrap_7 : decode b_Mod_scrap 7 = .ok (.putfield 63, 3) := by decide +kernel
theorem d_Mod_scrap_10 : decode b_Mod_scrap 10 = .ok (.return_, 1) := by decide +kernel
theorem d_Mod_sum_0 : decode b_Mod_sum 0 = .ok (.iconst 0, 1) := by decide +kernel
theorem d_Mod_sum_1 : decode b_Mod_sum 1 = .ok (.istore 4, 2) := by decide +kernel
theorem d_Mod_sum_3 : decode b_Mod_sum 3 = .ok (.iconst 0, 1) := by decide +kernel
theorem d_Mod_sum_4 : decode b_Mod_sum 4 = .ok (.istore 5, 2) := by decide +kernel
theorem d_Mod_sum_6 : decode b_Mod_sum 6 = .ok (.iload 5, 2) := by decide +kernel
theorem d_Mod_sum_8 : decode b_Mod_sum 8 = .ok (.aload_n 0, 1) := by decide +kernel
theorem d_Mod_sum_9 : decode b_Mod_sum 9 = .ok (.getfield 60, 3) := by decide +kernel
theorem d_Mod_sum_12 : decode b_Mod_sum 12 = .ok (.if_icmp .ge 59, 3) := by decide +kernel
theorem d_Mod_sum_15 : decode b_Mod_sum 15 = .ok (.aload_n 0, 1) := by decide +kernel
theorem d_Mod_sum_16 : decode b_Mod_sum 16 = .ok (.getfield 7, 3) := by decide +kernel
theorem d_Mod_sum_19 : decode b_Mod_sum 19 = .ok (.iload 5, 2) := by decide +kernel
theorem d_Mod_sum_21 : decode b_Mod_sum 21 = .ok (.iaload, 1) := by decide +kernel
theorem d_Mod_sum_22 : decode b_Mod_sum 22 = .ok (.iload_n 1, 1) := by decide +kernel
theorem d_Mod_sum_23 : decode b_Mod_sum 23 = .ok (.if_icmp .eq 25, 3) := by decide +kernel
theorem d_Mod_sum_26 : decode b_Mod_sum 26 = .ok (.aload_n 0, 1) := by decide +kernel
theorem d_Mod_sum_27 : decode b_Mod_sum 27 = .ok (.getfield 7, 3) := by decide +kernel
theorem d_Mod_sum_30 : decode b_Mod_sum 30 = .ok (.iload 5, 2) := by decide +kernel
theorem d_Mod_sum_32 : decode b_Mod_sum 32 = .ok (.iaload, 1) := by decide +kernel
theorem d_Mod_sum_33 : decode b_Mod_sum 33 = .ok (.iload_n 2, 1) := by decide +kernel
theorem d_Mod_sum_34 : decode b_Mod_sum 34 = .ok (.if_icmp .eq 14, 3) := by decide +kernel
theorem d_Mod_sum_37 : decode b_Mod_sum 37 = .ok (.aload_n 0, 1) := by decide +kernel
theorem d_Mod_sum_38 : decode b_Mod_sum 38 = .ok (.getfield 7, 3) := by decide +kernel
theorem d_Mod_sum_41 : decode b_Mod_sum 41 = .ok (.iload 5, 2) := by decide +kernel
theorem d_Mod_sum_43 : decode b_Mod_sum 43 = .ok (.iaload, 1) := by decide +kernel
theorem d_Mod_sum_44 : decode b_Mod_sum 44 = .ok (.iload_n 3, 1) := by decide +kernel
theorem d_Mod_sum_45 : decode b_Mod_sum 45 = .ok (.if_icmp .ne 16, 3) := by decide +kernel
theorem d_Mod_sum_48 : decode b_Mod_sum 48 = .ok (.iload 4, 2) := by decide +kernel
theorem d_Mod_sum_50 : decode b_Mod_sum 50 = .ok (.aload_n 0, 1) := by decide +kernel
theorem d_Mod_sum_51 : decode b_Mod_sum 51 = .ok (.getfield 13, 3) := by decide +kernel
theorem d_Mod_sum_54 : decode b_Mod_sum 54 = .ok (.iload 5, 2) := by decide +kernel
theorem d_Mod_sum_56 : decode b_Mod_sum 56 = .ok (.iaload, 1) := by decide +kernel
theorem d_Mod_sum_57 : decode b_Mod_sum 57 = .ok (.iadd, 1) := by decide +kernel
theorem d_Mod_sum_58 : decode b_Mod_sum 58 = .ok (.goto 5, 3) := by decide +kernel
theorem d_Mod_sum_61 : decode b_Mod_sum 61 = .ok (.iload 4, 2) := by decide +kernel
theorem d_Mod_sum_63 : decode b_Mod_sum 63 = .ok (.istore 4, 2) := by decide +kernel
theorem d_Mod_sum_65 : decode b_Mod_sum 65 = .ok (.iinc 5 1, 3) := by decide +kernel
theorem d_Mod_sum_68 : decode b_Mod_sum 68 = .ok (.goto (-62), 3) := by decide +kernel
theorem d_Mod_sum_71 : decode b_Mod_sum 71 = .ok (.iload 4, 2) := by decide +kernel
theorem d_Mod_sum_73 : decode b_Mod_sum 73 = .ok (.ireturn, 1) := by decide +kernel
theorem d_Mod_add_0 : decode b_Mod_add 0 = .ok (.aload_n 0, 1) := by decide +kernel
theorem d_Mod_add_1 : decode b_Mod_add 1 = .ok (.getfield 66, 3) := by decide +kernel
theorem d_Mod_add_4 : decode b_Mod_add 4 = .ok (.ifCond .ne 12, 3) := by decide +kernel
theorem d_Mod_add_7 : decode b_Mod_add 7 = .ok (.aload_n 0, 1) := by decide +kernel
theorem d_Mod_add_8 : decode b_Mod_add 8 = .ok (.getfield 70, 3) := by decide +kernel
theorem d_Mod_add_11 : decode b_Mod_add 11 = .ok (.bipush 24, 2) := by decide +kernel
theorem d_Mod_add_13 : decode b_Mod_add 13 = .ok (.if_icmp .ne 5, 3) := by decide +kernel
theorem d_Mod_add_16 : decode b_Mod_add 16 = .ok (.iconst (-1), 1) := by decide +kernel
theorem d_Mod_add_17 : decode b_Mod_add 17 = .ok (.ireturn, 1) := by decide +kernel
theorem d_Mod_add_18 : decode b_Mod_add 18 = .ok (.aload_n 0, 1) := by decide +kernel
theorem d_Mod_add_19 : decode b_Mod_add 19 = .ok (.iconst 0, 1) := by decide +kernel
theorem d_Mod_add_20 : decode b_Mod_add 20 = .ok (.iconst 2, 1) := by decide +kernel
theorem d_Mod_add_21 : decode b_Mod_add 21 = .ok (.iconst 3, 1) := by decide +kernel
theorem d_Mod_add_22 : decode b_Mod_add 22 = .ok (.invokevirtual 73, 3) := by decide +kernel
theorem d_Mod_add_25 : decode b_Mod_add 25 = .ok (.istore_n 3, 1) := by decide +kernel
theorem d_Mod_add_26 : decode b_Mod_add 26 = .ok (.aload_n 0, 1) := by decide +kernel
theorem d_Mod_add_27 : decode b_Mod_add 27 = .ok (.getfield 60, 3) := by decide +kernel
theorem d_Mod_add_30 : decode b_Mod_add 30 = .ok (.ifCond .eq 21, 3) := by decide +kernel
theorem d_Mod_add_33 : decode b_Mod_add 33 = .ok (.iload_n 3, 1) := by decide +kernel
theorem d_Mod_add_34 : decode b_Mod_add 34 = .ok (.ifCond .eq 17, 3) := by decide +kernel
theorem d_Mod_add_37 : decode b_Mod_add 37 = .ok (.aload_n 0, 1) := by decide +kernel
theorem d_Mod_add_38 : decode b_Mod_add 38 = .ok (.iconst 0, 1) := by decide +kernel
theorem d_Mod_add_39 : decode b_Mod_add 39 = .ok (.iconst 1, 1) := by decide +kernel
theorem d_Mod_add_40 : decode b_Mod_add 40 = .ok (.iconst 1, 1) := by decide +kernel
theorem d_Mod_add_41 : decode b_Mod_add 41 = .ok (.invokevirtual 73, 3) := by decide +kernel
theorem d_Mod_add_44 : decode b_Mod_add 44 = .ok (.aload_n 0, 1) := by decide +kernel
theorem d_Mod_add_45 : decode b_Mod_add 45 = .ok (.getfield 63, 3) := by decide +kernel
theorem d_Mod_add_48 : decode b_Mod_add 48 = .ok (.if_icmp .eq 6, 3) := by decide +kernel
theorem d_Mod_add_51 : decode b_Mod_add 51 = .ok (.bipush (-2), 2) := by decide +kernel
theorem d_Mod_add_53 : decode b_Mod_add 53 = .ok (.ireturn, 1) := by decide +kernel
theorem d_Mod_add_54 : decode b_Mod_add 54 = .ok (.iload_n 1, 1) := by decide +kernel
theorem d_Mod_add_55 : decode b_Mod_add 55 = .ok (.iconst 0, 1) := by decide +kernel
theorem d_Mod_add_56 : decode b_Mod_add 56 = .ok (.iconst 1, 1) := by decide +kernel
theorem d_Mod_add_57 : decode b_Mod_add 57 = .ok (.invokestatic 56, 3) := by decide +kernel
theorem d_Mod_add_60 : decode b_Mod_add 60 = .ok (.ifCond .eq 23, 3) := by decide +kernel
theorem d_Mod_add_63 : decode b_Mod_add 63 = .ok (.iload_n 2, 1) := by decide +kernel
theorem d_Mod_add_64 : decode b_Mod_add 64 = .ok (.iconst 0, 1) := by decide +kernel
theorem d_Mod_add_65 : decode b_Mod_add 65 = .ok (.sipush 4095, 3) := by decide +kernel
theorem d_Mod_add_68 : decode b_Mod_add 68 = .ok (.invokestatic 56, 3) := by decide +kernel
theorem d_Mod_add_71 : decode b_Mod_add 71 = .ok (.ifCond .eq 12, 3) := by decide +kernel
theorem d_Mod_add_74 : decode b_Mod_add 74 = .ok (.iload_n 2, 1) := by decide +kernel
theorem d_Mod_add_75 : decode b_Mod_add 75 = .ok (.iload_n 3, 1) := by decide +kernel
theorem d_Mod_add_76 : decode b_Mod_add 76 = .ok (.iadd, 1) := by decide +kernel
theorem d_Mod_add_77 : decode b_Mod_add 77 = .ok (.sipush 4096, 3) := by decide +kernel
theorem d_Mod_add_80 : decode b_Mod_add 80 = .ok (.if_icmp .le 6, 3) := by decide +kernel
theorem d_Mod_add_83 : decode b_Mod_add 83 = .ok (.bipush (-3), 2) := by decide +kernel
theorem d_Mod_add_85 : decode b_Mod_add 85 = .ok (.ireturn, 1) := by decide +kernel
theorem d_Mod_add_86 : decode b_Mod_add 86 = .ok (.aload_n 0, 1) := by decide +kernel
theorem d_Mod_add_87 : decode b_Mod_add 87 = .ok (.getfield 70, 3) := by decide +kernel
theorem d_Mod_add_90 : decode b_Mod_add 90 = .ok (.iconst 1, 1) := by decide +kernel
theorem d_Mod_add_91 : decode b_Mod_add 91 = .ok (.isub, 1) := by decide +kernel
theorem d_Mod_add_92 : decode b_Mod_add 92 = .ok (.istore 4, 2) := by decide +kernel
theorem d_Mod_add_94 : decode b_Mod_add 94 = .ok (.aload_n 0, 1) := by decide +kernel
theorem d_Mod_add_95 : decode b_Mod_add 95 = .ok (.getfield 70, 3) := by decide +kernel
theorem d_Mod_add_98 : decode b_Mod_add 98 = .ok (.ifCond .le 39, 3) := by decide +kernel
theorem d_Mod_add_101 : decode b_Mod_add 101 = .ok (.iload_n 1, 1) := by decide +kernel
theorem d_Mod_add_102 : decode b_Mod_add 102 = .ok (.aload_n 0, 1) := by decide +kernel
theorem d_Mod_add_103 : decode b_Mod_add 103 = .ok (.getfield 19, 3) := by decide +kernel
theorem d_Mod_add_106 : decode b_Mod_add 106 = .ok (.iload 4, 2) := by decide +kernel
theorem d_Mod_add_108 : decode b_Mod_add 108 = .ok (.iaload, 1) := by decide +kernel
theorem d_Mod_add_109 : decode b_Mod_add 109 = .ok (.if_icmp .lt 25, 3) := by decide +kernel
theorem d_Mod_add_112 : decode b_Mod_add 112 = .ok (.iload_n 1, 1) := by decide +kernel
theorem d_Mod_add_113 : decode b_Mod_add 113 = .ok (.aload_n 0, 1) := by decide +kernel
theorem d_Mod_add_114 : decode b_Mod_add 114 = .ok (.getfield 19, 3) := by decide +kernel
theorem d_Mod_add_117 : decode b_Mod_add 117 = .ok (.iload 4, 2) := by decide +kernel
theorem d_Mod_add_119 : decode b_Mod_add 119 = .ok (.iaload, 1) := by decide +kernel
theorem d_Mod_add_120 : decode b_Mod_add 120 = .ok (.if_icmp .ne 17, 3) := by decide +kernel
theorem d_Mod_add_123 : decode b_Mod_add 123 = .ok (.iload_n 2, 1) := by decide +kernel
theorem d_Mod_add_124 : decode b_Mod_add 124 = .ok (.aload_n 0, 1) := by decide +kernel
theorem d_Mod_add_125 : decode b_Mod_add 125 = .ok (.getfield 22, 3) := by decide +kernel
theorem d_Mod_add_128 : decode b_Mod_add 128 = .ok (.iload 4, 2) := by decide +kernel
theorem d_Mod_add_130 : decode b_Mod_add 130 = .ok (.iaload, 1) := by decide +kernel
theorem d_Mod_add_131 : decode b_Mod_add 131 = .ok (.if_icmp .ge 6, 3) := by decide +kernel
theorem d_Mod_add_134 : decode b_Mod_add 134 = .ok (.bipush (-4), 2) := by decide +kernel
theorem d_Mod_add_136 : decode b_Mod_add 136 = .ok (.ireturn, 1) := by decide +kernel
theorem d_Mod_add_137 : decode b_Mod_add 137 = .ok (.aload_n 0, 1) := by decide +kernel
theorem d_Mod_add_138 : decode b_Mod_add 138 = .ok (.getfield 19, 3) := by decide +kernel
theorem d_Mod_add_141 : decode b_Mod_add 141 = .ok (.aload_n 0, 1) := by decide +kernel
theorem d_Mod_add_142 : decode b_Mod_add 142 = .ok (.getfield 70, 3) := by decide +kernel
theorem d_Mod_add_145 : decode b_Mod_add 145 = .ok (.iload_n 1, 1) := by decide +kernel
theorem d_Mod_add_146 : decode b_Mod_add 146 = .ok (.iastore, 1) := by decide +kernel
theorem d_Mod_add_147 : decode b_Mod_add 147 = .ok (.aload_n 0, 1) := by decide +kernel
theorem d_Mod_add_148 : decode b_Mod_add 148 = .ok (.getfield 22, 3) := by decide +kernel
theorem d_Mod_add_151 : decode b_Mod_add 151 = .ok (.aload_n 0, 1) := by decide +kernel
theorem d_Mod_add_152 : decode b_Mod_add 152 = .ok (.getfield 70, 3) := by decide +kernel
theorem d_Mod_add_155 : decode b_Mod_add 155 = .ok (.iload_n 2, 1) := by decide +kernel
theorem d_Mod_add_156 : decode b_Mod_add 156 = .ok (.iastore, 1) := by decide +kernel
theorem d_Mod_add_157 : decode b_Mod_add 157 = .ok (.aload_n 0, 1) := by decide +kernel
theorem d_Mod_add_158 : decode b_Mod_add 158 = .ok (.getfield 25, 3) := by decide +kernel
theorem d_Mod_add_161 : decode b_Mod_add 161 = .ok (.aload_n 0, 1) := by decide +kernel
theorem d_Mod_add_162 : decode b_Mod_add 162 = .ok (.getfield 70, 3) := by decide +kernel
theorem d_Mod_add_165 : decode b_Mod_add 165 = .ok (.iload_n 2, 1) := by decide +kernel
theorem d_Mod_add_166 : decode b_Mod_add 166 = .ok (.iload_n 3, 1) := by decide +kernel
theorem d_Mod_add_167 : decode b_Mod_add 167 = .ok (.iadd, 1) := by decide +kernel
theorem d_Mod_add_168 : decode b_Mod_add 168 = .ok (.iastore, 1) := by decide +kernel
theorem d_Mod_add_169 : decode b_Mod_add 169 = .ok (.aload_n 0, 1) := by decide +kernel
theorem d_Mod_add_170 : decode b_Mod_add 170 = .ok (.getfield 28, 3) := by decide +kernel
theorem d_Mod_add_173 : decode b_Mod_add 173 = .ok (.aload_n 0, 1) := by decide +kernel
theorem d_Mod_add_174 : decode b_Mod_add 174 = .ok (.getfield 70, 3) := by decide +kernel
theorem d_Mod_add_177 : decode b_Mod_add 177 = .ok (.aload_n 0, 1) := by decide +kernel
theorem d_Mod_add_178 : decode b_Mod_add 178 = .ok (.getfield 60, 3) := by decide +kernel
theorem d_Mod_add_181 : decode b_Mod_add 181 = .ok (.iastore, 1) := by decide +kernel
theorem d_Mod_add_182 : decode b_Mod_add 182 = .ok (.aload_n 0, 1) := by decide +kernel
theorem d_Mod_add_183 : decode b_Mod_add 183 = .ok (.getfield 34, 3) := by decide +kernel
theorem d_Mod_add_186 : decode b_Mod_add 186 = .ok (.aload_n 0, 1) := by decide +kernel
theorem d_Mod_add_187 : decode b_Mod_add 187 = .ok (.getfield 70, 3) := by decide +kernel
theorem d_Mod_add_190 : decode b_Mod_add 190 = .ok (.aload_n 0, 1) := by decide +kernel
theorem d_Mod_add_191 : decode b_Mod_add 191 = .ok (.getfield 63, 3) := by decide +kernel
theorem d_Mod_add_194 : decode b_Mod_add 194 = .ok (.iastore, 1) := by decide +kernel
theorem d_Mod_add_195 : decode b_Mod_add 195 = .ok (.iconst 0, 1) := by decide +kernel
theorem d_Mod_add_196 : decode b_Mod_add 196 = .ok (.istore 5, 2) := by decide +kernel
theorem d_Mod_add_198 : decode b_Mod_add 198 = .ok (.iload 5, 2) := by decide +kernel
theorem d_Mod_add_200 : decode b_Mod_add 200 = .ok (.aload_n 0, 1) := by decide +kernel
theorem d_Mod_add_201 : decode b_Mod_add 201 = .ok (.getfield 60, 3) := by decide +kernel
theorem d_Mod_add_204 : decode b_Mod_add 204 = .ok (.if_icmp .ge 40, 3) := by decide +kernel
theorem d_Mod_add_207 : decode b_Mod_add 207 = .ok (.aload_n 0, 1) := by decide +kernel
theorem d_Mod_add_208 : decode b_Mod_add 208 = .ok (.getfield 31, 3) := by decide +kernel
theorem d_Mod_add_211 : decode b_Mod_add 211 = .ok (.iconst 3, 1) := by decide +kernel
theorem d_Mod_add_212 : decode b_Mod_add 212 = .ok (.aload_n 0, 1) := by decide +kernel
theorem d_Mod_add_213 : decode b_Mod_add 213 = .ok (.getfield 70, 3) := by decide +kernel
theorem d_Mod_add_216 : decode b_Mod_add 216 = .ok (.imul, 1) := by decide +kernel
theorem d_Mod_add_217 : decode b_Mod_add 217 = .ok (.iload 5, 2) := by decide +kernel
theorem d_Mod_add_219 : decode b_Mod_add 219 = .ok (.iadd, 1) := by decide +kernel
theorem d_Mod_add_220 : decode b_Mod_add 220 = .ok (.iconst 4, 1) := by decide +kernel
theorem d_Mod_add_221 : decode b_Mod_add 221 = .ok (.aload_n 0, 1) := by decide +kernel
theorem d_Mod_add_222 : decode b_Mod_add 222 = .ok (.getfield 13, 3) := by decide +kernel
theorem d_Mod_add_225 : decode b_Mod_add 225 = .ok (.iload 5, 2) := by decide +kernel
theorem d_Mod_add_227 : decode b_Mod_add 227 = .ok (.iaload, 1) := by decide +kernel
theorem d_Mod_add_228 : decode b_Mod_add 228 = .ok (.imul, 1) := by decide +kernel
theorem d_Mod_add_229 : decode b_Mod_add 229 = .ok (.aload_n 0, 1) := by decide +kernel
theorem d_Mod_add_230 : decode b_Mod_add 230 = .ok (.getfield 7, 3) := by decide +kernel
theorem d_Mod_add_233 : decode b_Mod_add 233 = .ok (.iload 5, 2) := by decide +kernel
theorem d_Mod_add_235 : decode b_Mod_add 235 = .ok (.iaload, 1) := by decide +kernel
theorem d_Mod_add_236 : decode b_Mod_add 236 = .ok (.iadd, 1) := by decide +kernel
theorem d_Mod_add_237 : decode b_Mod_add 237 = .ok (.iastore, 1) := by decide +kernel
theorem d_Mod_add_238 : decode b_Mod_add 238 = .ok (.iinc 5 1, 3) := by decide +kernel
theorem d_Mod_add_241 : decode b_Mod_add 241 = .ok (.goto (-43), 3) := by decide +kernel
theorem d_Mod_add_244 : decode b_Mod_add 244 = .ok (.iconst 0, 1) := by decide +kernel
theorem d_Mod_add_245 : decode b_Mod_add 245 = .ok (.istore 5, 2) := by decide +kernel
theorem d_Mod_add_247 : decode b_Mod_add 247 = .ok (.iload 5, 2) := by decide +kernel
theorem d_Mod_add_249 : decode b_Mod_add 249 = .ok (.aload_n 0, 1) := by decide +kernel
theorem d_Mod_add_250 : decode b_Mod_add 250 = .ok (.getfield 63, 3) := by decide +kernel
theorem d_Mod_add_253 : decode b_Mod_add 253 = .ok (.if_icmp .ge 31, 3) := by decide +kernel
theorem d_Mod_add_256 : decode b_Mod_add 256 = .ok (.aload_n 0, 1) := by decide +kernel
theorem d_Mod_add_257 : decode b_Mod_add 257 = .ok (.getfield 37, 3) := by decide +kernel
theorem d_Mod_add_260 : decode b_Mod_add 260 = .ok (.bipush 24, 2) := by decide +kernel
theorem d_Mod_add_262 : decode b_Mod_add 262 = .ok (.aload_n 0, 1) := by decide +kernel
theorem d_Mod_add_263 : decode b_Mod_add 263 = .ok (.getfield 70, 3) := by decide +kernel
theorem d_Mod_add_266 : decode b_Mod_add 266 = .ok (.imul, 1) := by decide +kernel
theorem d_Mod_add_267 : decode b_Mod_add 267 = .ok (.iload 5, 2) := by decide +kernel
theorem d_Mod_add_269 : decode b_Mod_add 269 = .ok (.iadd, 1) := by decide +kernel
theorem d_Mod_add_270 : decode b_Mod_add 270 = .ok (.aload_n 0, 1) := by decide +kernel
theorem d_Mod_add_271 : decode b_Mod_add 271 = .ok (.getfield 16, 3) := by decide +kernel
theorem d_Mod_add_274 : decode b_Mod_add 274 = .ok (.iload 5, 2) := by decide +kernel
theorem d_Mod_add_276 : decode b_Mod_add 276 = .ok (.iaload, 1) := by decide +kernel
theorem d_Mod_add_277 : decode b_Mod_add 277 = .ok (.iastore, 1) := by decide +kernel
theorem d_Mod_add_278 : decode b_Mod_add 278 = .ok (.iinc 5 1, 3) := by decide +kernel
theorem d_Mod_add_281 : decode b_Mod_add 281 = .ok (.goto (-34), 3) := by decide +kernel
theorem d_Mod_add_284 : decode b_Mod_add 284 = .ok (.aload_n 0, 1) := by decide +kernel
theorem d_Mod_add_285 : decode b_Mod_add 285 = .ok (.invokevirtual 77, 3) := by decide +kernel
theorem d_Mod_add_288 : decode b_Mod_add 288 = .ok (.aload_n 0, 1) := by decide +kernel
theorem d_Mod_add_289 : decode b_Mod_add 289 = .ok (.dup, 1) := by decide +kernel
theorem d_Mod_add_290 : decode b_Mod_add 290 = .ok (.getfield 70, 3) := by decide +kernel
theorem d_Mod_add_293 : decode b_Mod_add 293 = .ok (.iconst 1, 1) := by decide +kernel
theorem d_Mod_add_294 : decode b_Mod_add 294 = .ok (.iadd, 1) := by decide +kernel
theorem d_Mod_add_295 : decode b_Mod_add 295 = .ok (.putfield 70, 3) := by decide +kernel
theorem d_Mod_add_298 : decode b_Mod_add 298 = .ok (.aload_n 0, 1) := by decide +kernel
theorem d_Mod_add_299 : decode b_Mod_add 299 = .ok (.getfield 70, 3) := by decide +kernel
theorem d_Mod_add_302 : decode b_Mod_add 302 = .ok (.iconst 1, 1) := by decide +kernel
theorem d_Mod_add_303 : decode b_Mod_add 303 = .ok (.isub, 1) := by decide +kernel
theorem d_Mod_add_304 : decode b_Mod_add 304 = .ok (.ireturn, 1) := by decide +kernel
theorem d_Mod_binOf_0 : decode b_Mod_binOf 0 = .ok (.aload_n 0, 1) := by decide +kernel
theorem d_Mod_binOf_1 : decode b_Mod_binOf 1 = .ok (.getfield 22, 3) := by decide +kernel
theorem d_Mod_binOf_4 : decode b_Mod_binOf 4 = .ok (.iload_n 1, 1) := by decide +kernel
theorem d_Mod_binOf_5 : decode b_Mod_binOf 5 = .ok (.iaload, 1) := by decide +kernel
theorem d_Mod_binOf_6 : decode b_Mod_binOf 6 = .ok (.istore_n 2, 1) := by decide +kernel
theorem d_Mod_binOf_7 : decode b_Mod_binOf 7 = .ok (.aload_n 0, 1) := by decide +kernel
theorem d_Mod_binOf_8 : decode b_Mod_binOf 8 = .ok (.getfield 25, 3) := by decide +kernel
theorem d_Mod_binOf_11 : decode b_Mod_binOf 11 = .ok (.iload_n 1, 1) := by decide +kernel
theorem d_Mod_binOf_12 : decode b_Mod_binOf 12 = .ok (.iaload, 1) := by decide +kernel
theorem d_Mod_binOf_13 : decode b_Mod_binOf 13 = .ok (.iconst 1, 1) := by decide +kernel
theorem d_Mod_binOf_14 : decode b_Mod_binOf 14 = .ok (.isub, 1) := by decide +kernel
theorem d_Mod_binOf_15 : decode b_Mod_binOf 15 = .ok (.istore_n 3, 1) := by decide +kernel
theorem d_Mod_binOf_16 : decode b_Mod_binOf 16 = .ok (.iload_n 2, 1) := by decide +kernel
theorem d_Mod_binOf_17 : decode b_Mod_binOf 17 = .ok (.bipush 64, 2) := by decide +kernel
theorem d_Mod_binOf_19 : decode b_Mod_binOf 19 = .ok (.idiv, 1) := by decide +kernel
theorem d_Mod_binOf_20 : decode b_Mod_binOf 20 = .ok (.iload_n 3, 1) := by decide +kernel
theorem d_Mod_binOf_21 : decode b_Mod_binOf 21 = .ok (.bipush 64, 2) := by decide +kernel
theorem d_Mod_binOf_23 : decode b_Mod_binOf 23 = .ok (.idiv, 1) := by decide +kernel
theorem d_Mod_binOf_24 : decode b_Mod_binOf 24 = .ok (.if_icmp .ne 13, 3) := by decide +kernel
theorem d_Mod_binOf_27 : decode b_Mod_binOf 27 = .ok (.bipush 9, 2) := by decide +kernel
theorem d_Mod_binOf_29 : decode b_Mod_binOf 29 = .ok (.iload_n 2, 1) := by decide +kernel
theorem d_Mod_binOf_30 : decode b_Mod_binOf 30 = .ok (.bipush 64, 2) := by decide +kernel
theorem d_Mod_binOf_32 : decode b_Mod_binOf 32 = .ok (.idiv, 1) := by decide +kernel
theorem d_Mod_binOf_33 : decode b_Mod_binOf 33 = .ok (.iadd, 1) := by decide +kernel
theorem d_Mod_binOf_34 : decode b_Mod_binOf 34 = .ok (.goto 27, 3) := by decide +kernel
theorem d_Mod_binOf_37 : decode b_Mod_binOf 37 = .ok (.iload_n 2, 1) := by decide +kernel
theorem d_Mod_binOf_38 : decode b_Mod_binOf 38 = .ok (.sipush 512, 3) := by decide +kernel
theorem d_Mod_binOf_41 : decode b_Mod_binOf 41 = .ok (.idiv, 1) := by decide +kernel
theorem d_Mod_binOf_42 : decode b_Mod_binOf 42 = .ok (.iload_n 3, 1) := by decide +kernel
theorem d_Mod_binOf_43 : decode b_Mod_binOf 43 = .ok (.sipush 512, 3) := by decide +kernel
theorem d_Mod_binOf_46 : decode b_Mod_binOf 46 = .ok (.idiv, 1) := by decide +kernel
theorem d_Mod_binOf_47 : decode b_Mod_binOf 47 = .ok (.if_icmp .ne 13, 3) := by decide +kernel
theorem d_Mod_binOf_50 : decode b_Mod_binOf 50 = .ok (.iconst 1, 1) := by decide +kernel
theorem d_Mod_binOf_51 : decode b_Mod_binOf 51 = .ok (.iload_n 2, 1) := by decide +kernel
theorem d_Mod_binOf_52 : decode b_Mod_binOf 52 = .ok (.sipush 512, 3) := by decide +kernel
theorem d_Mod_binOf_55 : decode b_Mod_binOf 55 = .ok (.idiv, 1) := by decide +kernel
theorem d_Mod_binOf_56 : decode b_Mod_binOf 56 = .ok (.iadd, 1) := by decide +kernel
theorem d_Mod_binOf_57 : decode b_Mod_binOf 57 = .ok (.goto 4, 3) := by decide +kernel
theorem d_Mod_binOf_60 : decode b_Mod_binOf 60 = .ok (.iconst 0, 1) := by decide +kernel
theorem d_Mod_binOf_61 : decode b_Mod_binOf 61 = .ok (.ireturn, 1) := by decide +kernel
theorem d_Mod_put_0 : decode b_Mod_put 0 = .ok (.aload_n 0, 1) := by decide +kernel
theorem d_Mod_put_1 : decode b_Mod_put 1 = .ok (.getfield 43, 3) := by decide +kernel
theorem d_Mod_put_4 : decode b_Mod_put 4 = .ok (.aload_n 0, 1) := by decide +kernel
theorem d_Mod_put_5 : decode b_Mod_put 5 = .ok (.getfield 80, 3) := by decide +kernel
theorem d_Mod_put_8 : decode b_Mod_put 8 = .ok (.iload_n 1, 1) := by decide +kernel
theorem d_Mod_put_9 : decode b_Mod_put 9 = .ok (.iastore, 1) := by decide +kernel
theorem d_Mod_put_10 : decode b_Mod_put 10 = .ok (.aload_n 0, 1) := by decide +kernel
theorem d_Mod_put_11 : decode b_Mod_put 11 = .ok (.dup, 1) := by decide +kernel
theorem d_Mod_put_12 : decode b_Mod_put 12 = .ok (.getfield 80, 3) := by decide +kernel
theorem d_Mod_put_15 : decode b_Mod_put 15 = .ok (.iconst 1, 1) := by decide +kernel
theorem d_Mod_put_16 : decode b_Mod_put 16 = .ok (.iadd, 1) := by decide +kernel
theorem d_Mod_put_17 : decode b_Mod_put 17 = .ok (.putfield 80, 3) := by decide +kernel
theorem d_Mod_put_20 : decode b_Mod_put 20 = .ok (.return_, 1) := by decide +kernel
theorem d_Mod_putRead_0 : decode b_Mod_putRead 0 = .ok (.aload_n 0, 1) := by decide +kernel
theorem d_Mod_putRead_1 : decode b_Mod_putRead 1 = .ok (.getfield 40, 3) := by decide +kernel
theorem d_Mod_putRead_4 : decode b_Mod_putRead 4 = .ok (.iload_n 1, 1) := by decide +kernel
theorem d_Mod_putRead_5 : decode b_Mod_putRead 5 = .ok (.aload_n 0, 1) := by decide +kernel
theorem d_Mod_putRead_6 : decode b_Mod_putRead 6 = .ok (.getfield 80, 3) := by decide +kernel
theorem d_Mod_putRead_9 : decode b_Mod_putRead 9 = .ok (.iastore, 1) := by decide +kernel
theorem d_Mod_putRead_10 : decode b_Mod_putRead 10 = .ok (.aload_n 0, 1) := by decide +kernel
theorem d_Mod_putRead_11 : decode b_Mod_putRead 11 = .ok (.getfield 34, 3) := by decide +kernel
theorem d_Mod_putRead_14 : decode b_Mod_putRead 14 = .ok (.iload_n 1, 1) := by decide +kernel
theorem d_Mod_putRead_15 : decode b_Mod_putRead 15 = .ok (.iaload, 1) := by decide +kernel
theorem d_Mod_putRead_16 : decode b_Mod_putRead 16 = .ok (.iconst 1, 1) := by decide +kernel
theorem d_Mod_putRead_17 : decode b_Mod_putRead 17 = .ok (.iadd, 1) := by decide +kernel
theorem d_Mod_putRead_18 : decode b_Mod_putRead 18 = .ok (.iconst 2, 1) := by decide +kernel
theorem d_Mod_putRead_19 : decode b_Mod_putRead 19 = .ok (.idiv, 1) := by decide +kernel
theorem d_Mod_putRead_20 : decode b_Mod_putRead 20 = .ok (.istore_n 2, 1) := by decide +kernel
theorem d_Mod_putRead_21 : decode b_Mod_putRead 21 = .ok (.aload_n 0, 1) := by decide +kernel
theorem d_Mod_putRead_22 : decode b_Mod_putRead 22 = .ok (.bipush 6, 2) := by decide +kernel
theorem d_Mod_putRead_24 : decode b_Mod_putRead 24 = .ok (.aload_n 0, 1) := by decide +kernel
theorem d_Mod_putRead_25 : decode b_Mod_putRead 25 = .ok (.getfield 28, 3) := by decide +kernel
theorem d_Mod_putRead_28 : decode b_Mod_putRead 28 = .ok (.iload_n 1, 1) := by decide +kernel
theorem d_Mod_putRead_29 : decode b_Mod_putRead 29 = .ok (.iaload, 1) := by decide +kernel
theorem d_Mod_putRead_30 : decode b_Mod_putRead 30 = .ok (.iadd, 1) := by decide +kernel
theorem d_Mod_putRead_31 : decode b_Mod_putRead 31 = .ok (.iload_n 2, 1) := by decide +kernel
theorem d_Mod_putRead_32 : decode b_Mod_putRead 32 = .ok (.iadd, 1) := by decide +kernel
theorem d_Mod_putRead_33 : decode b_Mod_putRead 33 = .ok (.invokevirtual 83, 3) := by decide +kernel
theorem d_Mod_putRead_36 : decode b_Mod_putRead 36 = .ok (.aload_n 0, 1) := by decide +kernel
theorem d_Mod_putRead_37 : decode b_Mod_putRead 37 = .ok (.aload_n 0, 1) := by decide +kernel
theorem d_Mod_putRead_38 : decode b_Mod_putRead 38 = .ok (.getfield 19, 3) := by decide +kernel
theorem d_Mod_putRead_41 : decode b_Mod_putRead 41 = .ok (.iload_n 1, 1) := by decide +kernel
theorem d_Mod_putRead_42 : decode b_Mod_putRead 42 = .ok (.iaload, 1) := by decide +kernel
theorem d_Mod_putRead_43 : decode b_Mod_putRead 43 = .ok (.invokevirtual 83, 3) := by decide +kernel
theorem d_Mod_putRead_46 : decode b_Mod_putRead 46 = .ok (.aload_n 0, 1) := by decide +kernel
theorem d_Mod_putRead_47 : decode b_Mod_putRead 47 = .ok (.aload_n 0, 1) := by decide +kernel
theorem d_Mod_putRead_48 : decode b_Mod_putRead 48 = .ok (.getfield 22, 3) := by decide +kernel
theorem d_Mod_putRead_51 : decode b_Mod_putRead 51 = .ok (.iload_n 1, 1) := by decide +kernel
theorem d_Mod_putRead_52 : decode b_Mod_putRead 52 = .ok (.iaload, 1) := by decide +kernel
theorem d_Mod_putRead_53 : decode b_Mod_putRead 53 = .ok (.sipush 255, 3) := by decide +kernel
theorem d_Mod_putRead_56 : decode b_Mod_putRead 56 = .ok (.iand, 1) := by decide +kernel
theorem d_Mod_putRead_57 : decode b_Mod_putRead 57 = .ok (.invokevirtual 83, 3) := by decide +kernel
theorem d_Mod_putRead_60 : decode b_Mod_putRead 60 = .ok (.aload_n 0, 1) := by decide +kernel
theorem d_Mod_putRead_61 : decode b_Mod_putRead 61 = .ok (.aload_n 0, 1) := by decide +kernel
theorem d_Mod_putRead_62 : decode b_Mod_putRead 62 = .ok (.getfield 22, 3) := by decide +kernel
theorem d_Mod_putRead_65 : decode b_Mod_putRead 65 = .ok (.iload_n 1, 1) := by decide +kernel
theorem d_Mod_putRead_66 : decode b_Mod_putRead 66 = .ok (.iaload, 1) := by decide +kernel
theorem d_Mod_putRead_67 : decode b_Mod_putRead 67 = .ok (.bipush 8, 2) := by decide +kernel
theorem d_Mod_putRead_69 : decode b_Mod_putRead 69 = .ok (.ishr, 1) := by decide +kernel
theorem d_Mod_putRead_70 : decode b_Mod_putRead 70 = .ok (.invokevirtual 83, 3) := by decide +kernel
theorem d_Mod_putRead_73 : decode b_Mod_putRead 73 = .ok (.aload_n 0, 1) := by decide +kernel
theorem d_Mod_putRead_74 : decode b_Mod_putRead 74 = .ok (.aload_n 0, 1) := by decide +kernel
theorem d_Mod_putRead_75 : decode b_Mod_putRead 75 = .ok (.iload_n 1, 1) := by decide +kernel
theorem d_Mod_putRead_76 : decode b_Mod_putRead 76 = .ok (.invokevirtual 87, 3) := by decide +kernel
theorem d_Mod_putRead_79 : decode b_Mod_putRead 79 = .ok (.invokevirtual 83, 3) := by decide +kernel
theorem d_Mod_putRead_82 : decode b_Mod_putRead 82 = .ok (.aload_n 0, 1) := by decide +kernel
theorem d_Mod_putRead_83 : decode b_Mod_putRead 83 = .ok (.aload_n 0, 1) := by decide +kernel
theorem d_Mod_putRead_84 : decode b_Mod_putRead 84 = .ok (.getfield 28, 3) := by decide +kernel
theorem d_Mod_putRead_87 : decode b_Mod_putRead 87 = .ok (.iload_n 1, 1) := by decide +kernel
theorem d_Mod_putRead_88 : decode b_Mod_putRead 88 = .ok (.iaload, 1) := by decide +kernel
theorem d_Mod_putRead_89 : decode b_Mod_putRead 89 = .ok (.invokevirtual 83, 3) := by decide +kernel
theorem d_Mod_putRead_92 : decode b_Mod_putRead 92 = .ok (.aload_n 0, 1) := by decide +kernel
theorem d_Mod_putRead_93 : decode b_Mod_putRead 93 = .ok (.aload_n 0, 1) := by decide +kernel
theorem d_Mod_putRead_94 : decode b_Mod_putRead 94 = .ok (.getfield 34, 3) := by decide +kernel
theorem d_Mod_putRead_97 : decode b_Mod_putRead 97 = .ok (.iload_n 1, 1) := by decide +kernel
theorem d_Mod_putRead_98 : decode b_Mod_putRead 98 = .ok (.iaload, 1) := by decide +kernel
theorem d_Mod_putRead_99 : decode b_Mod_putRead 99 = .ok (.invokevirtual 83, 3) := by decide +kernel
theorem d_Mod_putRead_102 : decode b_Mod_putRead 102 = .ok (.iconst 0, 1) := by decide +kernel
theorem d_Mod_putRead_103 : decode b_Mod_putRead 103 = .ok (.istore_n 3, 1) := by decide +kernel
theorem d_Mod_putRead_104 : decode b_Mod_putRead 104 = .ok (.iload_n 3, 1) := by decide +kernel
theorem d_Mod_putRead_105 : decode b_Mod_putRead 105 = .ok (.aload_n 0, 1) := by decide +kernel
theorem d_Mod_putRead_106 : decode b_Mod_putRead 106 = .ok (.getfield 28, 3) := by decide +kernel
theorem d_Mod_putRead_109 : decode b_Mod_putRead 109 = .ok (.iload_n 1, 1) := by decide +kernel
theorem d_Mod_putRead_110 : decode b_Mod_putRead 110 = .ok (.iaload, 1) := by decide +kernel
theorem d_Mod_putRead_111 : decode b_Mod_putRead 111 = .ok (.if_icmp .ge 23, 3) := by decide +kernel
theorem d_Mod_putRead_114 : decode b_Mod_putRead 114 = .ok (.aload_n 0, 1) := by decide +kernel
theorem d_Mod_putRead_115 : decode b_Mod_putRead 115 = .ok (.aload_n 0, 1) := by decide +kernel
theorem d_Mod_putRead_116 : decode b_Mod_putRead 116 = .ok (.getfield 31, 3) := by decide +kernel
theorem d_Mod_putRead_119 : decode b_Mod_putRead 119 = .ok (.iconst 3, 1) := by decide +kernel
theorem d_Mod_putRead_120 : decode b_Mod_putRead 120 = .ok (.iload_n 1, 1) := by decide +kernel
theorem d_Mod_putRead_121 : decode b_Mod_putRead 121 = .ok (.imul, 1) := by decide +kernel
theorem d_Mod_putRead_122 : decode b_Mod_putRead 122 = .ok (.iload_n 3, 1) := by decide +kernel
theorem d_Mod_putRead_123 : decode b_Mod_putRead 123 = .ok (.iadd, 1) := by decide +kernel
theorem d_Mod_putRead_124 : decode b_Mod_putRead 124 = .ok (.iaload, 1) := by decide +kernel
theorem d_Mod_putRead_125 : decode b_Mod_putRead 125 = .ok (.invokevirtual 83, 3) := by decide +kernel
theorem d_Mod_putRead_128 : decode b_Mod_putRead 128 = .ok (.iinc 3 1, 3) := by decide +kernel
theorem d_Mod_putRead_131 : decode b_Mod_putRead 131 = .ok (.goto (-27), 3) := by decide +kernel
theorem d_Mod_putRead_134 : decode b_Mod_putRead 134 = .ok (.iconst 0, 1) := by decide +kernel
theorem d_Mod_putRead_135 : decode b_Mod_putRead 135 = .ok (.istore_n 3, 1) := by decide +kernel
theorem d_Mod_putRead_136 : decode b_Mod_putRead 136 = .ok (.iload_n 3, 1) := by decide +kernel
theorem d_Mod_putRead_137 : decode b_Mod_putRead 137 = .ok (.iload_n 2, 1) := by decide +kernel
theorem d_Mod_putRead_138 : decode b_Mod_putRead 138 = .ok (.if_icmp .ge 67, 3) := by decide +kernel
theorem d_Mod_putRead_141 : decode b_Mod_putRead 141 = .ok (.iconst 2, 1) := by decide +kernel
theorem d_Mod_putRead_142 : decode b_Mod_putRead 142 = .ok (.iload_n 3, 1) := by decide +kernel
theorem d_Mod_putRead_143 : decode b_Mod_putRead 143 = .ok (.imul, 1) := by decide +kernel
theorem d_Mod_putRead_144 : decode b_Mod_putRead 144 = .ok (.iconst 1, 1) := by decide +kernel
theorem d_Mod_putRead_145 : decode b_Mod_putRead 145 = .ok (.iadd, 1) := by decide +kernel
theorem d_Mod_putRead_146 : decode b_Mod_putRead 146 = .ok (.aload_n 0, 1) := by decide +kernel
theorem d_Mod_putRead_147 : decode b_Mod_putRead 147 = .ok (.getfield 34, 3) := by decide +kernel
theorem d_Mod_putRead_150 : decode b_Mod_putRead 150 = .ok (.iload_n 1, 1) := by decide +kernel
theorem d_Mod_putRead_151 : decode b_Mod_putRead 151 = .ok (.iaload, 1) := by decide +kernel
theorem d_Mod_putRead_152 : decode b_Mod_putRead 152 = .ok (.if_icmp .ge 21, 3) := by decide +kernel
theorem d_Mod_putRead_155 : decode b_Mod_putRead 155 = .ok (.aload_n 0, 1) := by decide +kernel
theorem d_Mod_putRead_156 : decode b_Mod_putRead 156 = .ok (.getfield 37, 3) := by decide +kernel
theorem d_Mod_putRead_159 : decode b_Mod_putRead 159 = .ok (.bipush 24, 2) := by decide +kernel
theorem d_Mod_putRead_161 : decode b_Mod_putRead 161 = .ok (.iload_n 1, 1) := by decide +kernel
theorem d_Mod_putRead_162 : decode b_Mod_putRead 162 = .ok (.imul, 1) := by decide +kernel
theorem d_Mod_putRead_163 : decode b_Mod_putRead 163 = .ok (.iconst 2, 1) := by decide +kernel
theorem d_Mod_putRead_164 : decode b_Mod_putRead 164 = .ok (.iload_n 3, 1) := by decide +kernel
theorem d_Mod_putRead_165 : decode b_Mod_putRead 165 = .ok (.imul, 1) := by decide +kernel
theorem d_Mod_putRead_166 : decode b_Mod_putRead 166 = .ok (.iadd, 1) := by decide +kernel
theorem d_Mod_putRead_167 : decode b_Mod_putRead 167 = .ok (.iconst 1, 1) := by decide +kernel
theorem d_Mod_putRead_168 : decode b_Mod_putRead 168 = .ok (.iadd, 1) := by decide +kernel
theorem d_Mod_putRead_169 : decode b_Mod_putRead 169 = .ok (.iaload, 1) := by decide +kernel
theorem d_Mod_putRead_170 : decode b_Mod_putRead 170 = .ok (.goto 4, 3) := by decide +kernel
theorem d_Mod_putRead_173 : decode b_Mod_putRead 173 = .ok (.iconst 0, 1) := by decide +kernel
theorem d_Mod_putRead_174 : decode b_Mod_putRead 174 = .ok (.istore 4, 2) := by decide +kernel
theorem d_Mod_putRead_176 : decode b_Mod_putRead 176 = .ok (.aload_n 0, 1) := by decide +kernel
theorem d_Mod_putRead_177 : decode b_Mod_putRead 177 = .ok (.bipush 16, 2) := by decide +kernel
theorem d_Mod_putRead_179 : decode b_Mod_putRead 179 = .ok (.aload_n 0, 1) := by decide +kernel
theorem d_Mod_putRead_180 : decode b_Mod_putRead 180 = .ok (.getfield 37, 3) := by decide +kernel
theorem d_Mod_putRead_183 : decode b_Mod_putRead 183 = .ok (.bipush 24, 2) := by decide +kernel
theorem d_Mod_putRead_185 : decode b_Mod_putRead 185 = .ok (.iload_n 1, 1) := by decide +kernel
theorem d_Mod_putRead_186 : decode b_Mod_putRead 186 = .ok (.imul, 1) := by decide +kernel
theorem d_Mod_putRead_187 : decode b_Mod_putRead 187 = .ok (.iconst 2, 1) := by decide +kernel
theorem d_Mod_putRead_188 : decode b_Mod_putRead 188 = .ok (.iload_n 3, 1) := by decide +kernel
theorem d_Mod_putRead_189 : decode b_Mod_putRead 189 = .ok (.imul, 1) := by decide +kernel
theorem d_Mod_putRead_190 : decode b_Mod_putRead 190 = .ok (.iadd, 1) := by decide +kernel
theorem d_Mod_putRead_191 : decode b_Mod_putRead 191 = .ok (.iaload, 1) := by decide +kernel
theorem d_Mod_putRead_192 : decode b_Mod_putRead 192 = .ok (.imul, 1) := by decide +kernel
theorem d_Mod_putRead_193 : decode b_Mod_putRead 193 = .ok (.iload 4, 2) := by decide +kernel
theorem d_Mod_putRead_195 : decode b_Mod_putRead 195 = .ok (.iadd, 1) := by decide +kernel
theorem d_Mod_putRead_196 : decode b_Mod_putRead 196 = .ok (.invokevirtual 83, 3) := by decide +kernel
theorem d_Mod_putRead_199 : decode b_Mod_putRead 199 = .ok (.iinc 3 1, 3) := by decide +kernel
theorem d_Mod_putRead_202 : decode b_Mod_putRead 202 = .ok (.goto (-66), 3) := by decide +kernel
theorem d_Mod_putRead_205 : decode b_Mod_putRead 205 = .ok (.aload_n 0, 1) := by decide +kernel
theorem d_Mod_putRead_206 : decode b_Mod_putRead 206 = .ok (.getfield 40, 3) := by decide +kernel
theorem d_Mod_putRead_209 : decode b_Mod_putRead 209 = .ok (.iload_n 1, 1) := by decide +kernel
theorem d_Mod_putRead_210 : decode b_Mod_putRead 210 = .ok (.iconst 1, 1) := by decide +kernel
theorem d_Mod_putRead_211 : decode b_Mod_putRead 211 = .ok (.iadd, 1) := by decide +kernel
theorem d_Mod_putRead_212 : decode b_Mod_putRead 212 = .ok (.aload_n 0, 1) := by decide +kernel
theorem d_Mod_putRead_213 : decode b_Mod_putRead 213 = .ok (.getfield 80, 3) := by decide +kernel
theorem d_Mod_putRead_216 : decode b_Mod_putRead 216 = .ok (.iastore, 1) := by decide +kernel
theorem d_Mod_putRead_217 : decode b_Mod_putRead 217 = .ok (.return_, 1) := by decide +kernel
theorem d_Mod_store_0 : decode b_Mod_store 0 = .ok (.aload_n 0, 1) := by decide +kernel
theorem d_Mod_store_1 : decode b_Mod_store 1 = .ok (.getfield 46, 3) := by decide +kernel
theorem d_Mod_store_4 : decode b_Mod_store 4 = .ok (.aload_n 0, 1) := by decide +kernel
theorem d_Mod_store_5 : decode b_Mod_store 5 = .ok (.getfield 91, 3) := by decide +kernel
theorem d_Mod_store_8 : decode b_Mod_store 8 = .ok (.iload_n 1, 1) := by decide +kernel
theorem d_Mod_store_9 : decode b_Mod_store 9 = .ok (.sipush 255, 3) := by decide +kernel
theorem d_Mod_store_12 : decode b_Mod_store 12 = .ok (.iand, 1) := by decide +kernel
theorem d_Mod_store_13 : decode b_Mod_store 13 = .ok (.iastore, 1) := by decide +kernel
theorem d_Mod_store_14 : decode b_Mod_store 14 = .ok (.aload_n 0, 1) := by decide +kernel
theorem d_Mod_store_15 : decode b_Mod_store 15 = .ok (.dup, 1) := by decide +kernel
theorem d_Mod_store_16 : decode b_Mod_store 16 = .ok (.getfield 91, 3) := by decide +kernel
theorem d_Mod_store_19 : decode b_Mod_store 19 = .ok (.iconst 1, 1) := by decide +kernel
theorem d_Mod_store_20 : decode b_Mod_store 20 = .ok (.iadd, 1) := by decide +kernel
theorem d_Mod_store_21 : decode b_Mod_store 21 = .ok (.putfield 91, 3) := by decide +kernel
theorem d_Mod_store_24 : decode b_Mod_store 24 = .ok (.return_, 1) := by decide +kernel
theorem d_Mod_storeBlock_0 : decode b_Mod_storeBlock 0 = .ok (.iload_n 2, 1) := by decide +kernel
theorem d_Mod_storeBlock_1 : decode b_Mod_storeBlock 1 = .ok (.iload_n 1, 1) := by decide +kernel
theorem d_Mod_storeBlock_2 : decode b_Mod_storeBlock 2 = .ok (.isub, 1) := by decide +kernel
theorem d_Mod_storeBlock_3 : decode b_Mod_storeBlock 3 = .ok (.istore_n 3, 1) := by decide +kernel
theorem d_Mod_storeBlock_4 : decode b_Mod_storeBlock 4 = .ok (.aload_n 0, 1) := by decide +kernel
theorem d_Mod_storeBlock_5 : decode b_Mod_storeBlock 5 = .ok (.bipush 31, 2) := by decide +kernel
theorem d_Mod_storeBlock_7 : decode b_Mod_storeBlock 7 = .ok (.invokevirtual 94, 3) := by decide +kernel
theorem d_Mod_storeBlock_10 : decode b_Mod_storeBlock 10 = .ok (.aload_n 0, 1) := by decide +kernel
theorem d_Mod_storeBlock_11 : decode b_Mod_storeBlock 11 = .ok (.sipush 139, 3) := by decide +kernel
theorem d_Mod_storeBlock_14 : decode b_Mod_storeBlock 14 = .ok (.invokevirtual 94, 3) := by decide +kernel
theorem d_Mod_storeBlock_17 : decode b_Mod_storeBlock 17 = .ok (.aload_n 0, 1) := by decide +kernel
theorem d_Mod_storeBlock_18 : decode b_Mod_storeBlock 18 = .ok (.iconst 1, 1) := by decide +kernel
theorem d_Mod_storeBlock_19 : decode b_Mod_storeBlock 19 = .ok (.invokevirtual 94, 3) := by decide +kernel
theorem d_Mod_storeBlock_22 : decode b_Mod_storeBlock 22 = .ok (.aload_n 0, 1) := by decide +kernel
theorem d_Mod_storeBlock_23 : decode b_Mod_storeBlock 23 = .ok (.iload_n 3, 1) := by decide +kernel
theorem d_Mod_storeBlock_24 : decode b_Mod_storeBlock 24 = .ok (.invokevirtual 94, 3) := by decide +kernel
theorem d_Mod_storeBlock_27 : decode b_Mod_storeBlock 27 = .ok (.aload_n 0, 1) := by decide +kernel
theorem d_Mod_storeBlock_28 : decode b_Mod_storeBlock 28 = .ok (.iload_n 3, 1) := by decide +kernel
theorem d_Mod_storeBlock_29 : decode b_Mod_storeBlock 29 = .ok (.bipush 8, 2) := by decide +kernel
theorem d_Mod_storeBlock_31 : decode b_Mod_storeBlock 31 = .ok (.ishr, 1) := by decide +kernel
theorem d_Mod_storeBlock_32 : decode b_Mod_storeBlock 32 = .ok (.invokevirtual 94, 3) := by decide +kernel
theorem d_Mod_storeBlock_35 : decode b_Mod_storeBlock 35 = .ok (.aload_n 0, 1) := by decide +kernel
theorem d_Mod_storeBlock_36 : decode b_Mod_storeBlock 36 = .ok (.iload_n 3, 1) := by decide +kernel
theorem d_Mod_storeBlock_37 : decode b_Mod_storeBlock 37 = .ok (.iconst (-1), 1) := by decide +kernel
theorem d_Mod_storeBlock_38 : decode b_Mod_storeBlock 38 = .ok (.ixor, 1) := by decide +kernel
theorem d_Mod_storeBlock_39 : decode b_Mod_storeBlock 39 = .ok (.invokevirtual 94, 3) := by decide +kernel
theorem d_Mod_storeBlock_42 : decode b_Mod_storeBlock 42 = .ok (.aload_n 0, 1) := by decide +kernel
theorem d_Mod_storeBlock_43 : decode b_Mod_storeBlock 43 = .ok (.iload_n 3, 1) := by decide +kernel
theorem d_Mod_storeBlock_44 : decode b_Mod_storeBlock 44 = .ok (.iconst (-1), 1) := by decide +kernel
theorem d_Mod_storeBlock_45 : decode b_Mod_storeBlock 45 = .ok (.ixor, 1) := by decide +kernel
theorem d_Mod_storeBlock_46 : decode b_Mod_storeBlock 46 = .ok (.bipush 8, 2) := by decide +kernel
theorem d_Mod_storeBlock_48 : decode b_Mod_storeBlock 48 = .ok (.ishr, 1) := by decide +kernel
theorem d_Mod_storeBlock_49 : decode b_Mod_storeBlock 49 = .ok (.invokevirtual 94, 3) := by decide +kernel
theorem d_Mod_storeBlock_52 : decode b_Mod_storeBlock 52 = .ok (.iconst (-1), 1) := by decide +kernel
theorem d_Mod_storeBlock_53 : decode b_Mod_storeBlock 53 = .ok (.istore 4, 2) := by decide +kernel
theorem d_Mod_storeBlock_55 : decode b_Mod_storeBlock 55 = .ok (.iload_n 1, 1) := by decide +kernel
theorem d_Mod_storeBlock_56 : decode b_Mod_storeBlock 56 = .ok (.istore 5, 2) := by decide +kernel
theorem d_Mod_storeBlock_58 : decode b_Mod_storeBlock 58 = .ok (.iload 5, 2) := by decide +kernel
theorem d_Mod_storeBlock_60 : decode b_Mod_storeBlock 60 = .ok (.iload_n 2, 1) := by decide +kernel
theorem d_Mod_storeBlock_61 : decode b_Mod_storeBlock 61 = .ok (.if_icmp .ge 72, 3) := by decide +kernel
theorem d_Mod_storeBlock_64 : decode b_Mod_storeBlock 64 = .ok (.aload_n 0, 1) := by decide +kernel
theorem d_Mod_storeBlock_65 : decode b_Mod_storeBlock 65 = .ok (.aload_n 0, 1) := by decide +kernel
theorem d_Mod_storeBlock_66 : decode b_Mod_storeBlock 66 = .ok (.getfield 43, 3) := by decide +kernel
theorem d_Mod_storeBlock_69 : decode b_Mod_storeBlock 69 = .ok (.iload 5, 2) := by decide +kernel
theorem d_Mod_storeBlock_71 : decode b_Mod_storeBlock 71 = .ok (.iaload, 1) := by decide +kernel
theorem d_Mod_storeBlock_72 : decode b_Mod_storeBlock 72 = .ok (.invokevirtual 94, 3) := by decide +kernel
theorem d_Mod_storeBlock_75 : decode b_Mod_storeBlock 75 = .ok (.iload 4, 2) := by decide +kernel
theorem d_Mod_storeBlock_77 : decode b_Mod_storeBlock 77 = .ok (.aload_n 0, 1) := by decide +kernel
theorem d_Mod_storeBlock_78 : decode b_Mod_storeBlock 78 = .ok (.getfield 43, 3) := by decide +kernel
theorem d_Mod_storeBlock_81 : decode b_Mod_storeBlock 81 = .ok (.iload 5, 2) := by decide +kernel
theorem d_Mod_storeBlock_83 : decode b_Mod_storeBlock 83 = .ok (.iaload, 1) := by decide +kernel
theorem d_Mod_storeBlock_84 : decode b_Mod_storeBlock 84 = .ok (.ixor, 1) := by decide +kernel
theorem d_Mod_storeBlock_85 : decode b_Mod_storeBlock 85 = .ok (.istore 4, 2) := by decide +kernel
theorem d_Mod_storeBlock_87 : decode b_Mod_storeBlock 87 = .ok (.iconst 0, 1) := by decide +kernel
theorem d_Mod_storeBlock_88 : decode b_Mod_storeBlock 88 = .ok (.istore 6, 2) := by decide +kernel
theorem d_Mod_storeBlock_90 : decode b_Mod_storeBlock 90 = .ok (.iload 6, 2) := by decide +kernel
theorem d_Mod_storeBlock_92 : decode b_Mod_storeBlock 92 = .ok (.bipush 8, 2) := by decide +kernel
theorem d_Mod_storeBlock_94 : decode b_Mod_storeBlock 94 = .ok (.if_icmp .ge 33, 3) := by decide +kernel
theorem d_Mod_storeBlock_97 : decode b_Mod_storeBlock 97 = .ok (.iload 4, 2) := by decide +kernel
theorem d_Mod_storeBlock_99 : decode b_Mod_storeBlock 99 = .ok (.iconst 1, 1) := by decide +kernel
theorem d_Mod_storeBlock_100 : decode b_Mod_storeBlock 100 = .ok (.iand, 1) := by decide +kernel
theorem d_Mod_storeBlock_101 : decode b_Mod_storeBlock 101 = .ok (.iconst 1, 1) := by decide +kernel
theorem d_Mod_storeBlock_102 : decode b_Mod_storeBlock 102 = .ok (.if_icmp .ne 13, 3) := by decide +kernel
theorem d_Mod_storeBlock_105 : decode b_Mod_storeBlock 105 = .ok (.iload 4, 2) := by decide +kernel
theorem d_Mod_storeBlock_107 : decode b_Mod_storeBlock 107 = .ok (.iconst 1, 1) := by decide +kernel
theorem d_Mod_storeBlock_108 : decode b_Mod_storeBlock 108 = .ok (.iushr, 1) := by decide +kernel
theorem d_Mod_storeBlock_109 : decode b_Mod_storeBlock 109 = .ok (.ldc 97, 2) := by decide +kernel
theorem d_Mod_storeBlock_111 : decode b_Mod_storeBlock 111 = .ok (.ixor, 1) := by decide +kernel
theorem d_Mod_storeBlock_112 : decode b_Mod_storeBlock 112 = .ok (.goto 7, 3) := by decide +kernel
theorem d_Mod_storeBlock_115 : decode b_Mod_storeBlock 115 = .ok (.iload 4, 2) := by decide +kernel
theorem d_Mod_storeBlock_117 : decode b_Mod_storeBlock 117 = .ok (.iconst 1, 1) := by decide +kernel
theorem d_Mod_storeBlock_118 : decode b_Mod_storeBlock 118 = .ok (.iushr, 1) := by decide +kernel
theorem d_Mod_storeBlock_119 : decode b_Mod_storeBlock 119 = .ok (.istore 4, 2) := by decide +kernel
theorem d_Mod_storeBlock_121 : decode b_Mod_storeBlock 121 = .ok (.iinc 6 1, 3) := by decide +kernel
theorem d_Mod_storeBlock_124 : decode b_Mod_storeBlock 124 = .ok (.goto (-34), 3) := by decide +kernel
theorem d_Mod_storeBlock_127 : decode b_Mod_storeBlock 127 = .ok (.iinc 5 1, 3) := by decide +kernel
theorem d_Mod_storeBlock_130 : decode b_Mod_storeBlock 130 = .ok (.goto (-72), 3) := by decide +kernel
theorem d_Mod_storeBlock_133 : decode b_Mod_storeBlock 133 = .ok (.iconst 0, 1) := by decide +kernel
theorem d_Mod_storeBlock_134 : decode b_Mod_storeBlock 134 = .ok (.istore 5, 2) := by decide +kernel
theorem d_Mod_storeBlock_136 : decode b_Mod_storeBlock 136 = .ok (.iload 5, 2) := by decide +kernel
theorem d_Mod_storeBlock_138 : decode b_Mod_storeBlock 138 = .ok (.iconst 4, 1) := by decide +kernel
theorem d_Mod_storeBlock_139 : decode b_Mod_storeBlock 139 = .ok (.if_icmp .ge 23, 3) := by decide +kernel
theorem d_Mod_storeBlock_142 : decode b_Mod_storeBlock 142 = .ok (.aload_n 0, 1) := by decide +kernel
theorem d_Mod_storeBlock_143 : decode b_Mod_storeBlock 143 = .ok (.iload 4, 2) := by decide +kernel
theorem d_Mod_storeBlock_145 : decode b_Mod_storeBlock 145 = .ok (.iconst (-1), 1) := by decide +kernel
theorem d_Mod_storeBlock_146 : decode b_Mod_storeBlock 146 = .ok (.ixor, 1) := by decide +kernel
theorem d_Mod_storeBlock_147 : decode b_Mod_storeBlock 147 = .ok (.bipush 8, 2) := by decide +kernel
theorem d_Mod_storeBlock_149 : decode b_Mod_storeBlock 149 = .ok (.iload 5, 2) := by decide +kernel
theorem d_Mod_storeBlock_151 : decode b_Mod_storeBlock 151 = .ok (.imul, 1) := by decide +kernel
theorem d_Mod_storeBlock_152 : decode b_Mod_storeBlock 152 = .ok (.ishr, 1) := by decide +kernel
theorem d_Mod_storeBlock_153 : decode b_Mod_storeBlock 153 = .ok (.invokevirtual 94, 3) := by decide +kernel
theorem d_Mod_storeBlock_156 : decode b_Mod_storeBlock 156 = .ok (.iinc 5 1, 3) := by decide +kernel
theorem d_Mod_storeBlock_159 : decode b_Mod_storeBlock 159 = .ok (.goto (-23), 3) := by decide +kernel
theorem d_Mod_storeBlock_162 : decode b_Mod_storeBlock 162 = .ok (.return_, 1) := by decide +kernel
theorem d_Mod_finish_0 : decode b_Mod_finish 0 = .ok (.aload_n 0, 1) := by decide +kernel
theorem d_Mod_finish_1 : decode b_Mod_finish 1 = .ok (.getfield 66, 3) := by decide +kernel
theorem d_Mod_finish_4 : decode b_Mod_finish 4 = .ok (.ifCond .eq 5, 3) := by decide +kernel
theorem d_Mod_finish_7 : decode b_Mod_finish 7 = .ok (.iconst (-1), 1) := by decide +kernel
theorem d_Mod_finish_8 : decode b_Mod_finish 8 = .ok (.ireturn, 1) := by decide +kernel
theorem d_Mod_finish_9 : decode b_Mod_finish 9 = .ok (.aload_n 0, 1) := by decide +kernel
theorem d_Mod_finish_10 : decode b_Mod_finish 10 = .ok (.iconst 1, 1) := by decide +kernel
theorem d_Mod_finish_11 : decode b_Mod_finish 11 = .ok (.putfield 66, 3) := by decide +kernel
theorem d_Mod_finish_14 : decode b_Mod_finish 14 = .ok (.iconst 0, 1) := by decide +kernel
theorem d_Mod_finish_15 : decode b_Mod_finish 15 = .ok (.istore_n 1, 1) := by decide +kernel
theorem d_Mod_finish_16 : decode b_Mod_finish 16 = .ok (.iload_n 1, 1) := by decide +kernel
theorem d_Mod_finish_17 : decode b_Mod_finish 17 = .ok (.aload_n 0, 1) := by decide +kernel
theorem d_Mod_finish_18 : decode b_Mod_finish 18 = .ok (.getfield 70, 3) := by decide +kernel
theorem d_Mod_finish_21 : decode b_Mod_finish 21 = .ok (.if_icmp .ge 14, 3) := by decide +kernel
theorem d_Mod_finish_24 : decode b_Mod_finish 24 = .ok (.aload_n 0, 1) := by decide +kernel
theorem d_Mod_finish_25 : decode b_Mod_finish 25 = .ok (.iload_n 1, 1) := by decide +kernel
theorem d_Mod_finish_26 : decode b_Mod_finish 26 = .ok (.invokevirtual 98, 3) := by decide +kernel
theorem d_Mod_finish_29 : decode b_Mod_finish 29 = .ok (.iinc 1 1, 3) := by decide +kernel
theorem d_Mod_finish_32 : decode b_Mod_finish 32 = .ok (.goto (-16), 3) := by decide +kernel
theorem d_Mod_finish_35 : decode b_Mod_finish 35 = .ok (.iconst 0, 1) := by decide +kernel
theorem d_Mod_finish_36 : decode b_Mod_finish 36 = .ok (.istore_n 1, 1) := by decide +kernel
theorem d_Mod_finish_37 : decode b_Mod_finish 37 = .ok (.iload_n 1, 1) := by decide +kernel
theorem d_Mod_finish_38 : decode b_Mod_finish 38 = .ok (.aload_n 0, 1) := by decide +kernel
theorem d_Mod_finish_39 : decode b_Mod_finish 39 = .ok (.getfield 80, 3) := by decide +kernel
theorem d_Mod_finish_42 : decode b_Mod_finish 42 = .ok (.if_icmp .ge 36, 3) := by decide +kernel
theorem d_Mod_finish_45 : decode b_Mod_finish 45 = .ok (.aload_n 0, 1) := by decide +kernel
theorem d_Mod_finish_46 : decode b_Mod_finish 46 = .ok (.iload_n 1, 1) := by decide +kernel
theorem d_Mod_finish_47 : decode b_Mod_finish 47 = .ok (.iload_n 1, 1) := by decide +kernel
theorem d_Mod_finish_48 : decode b_Mod_finish 48 = .ok (.bipush 40, 2) := by decide +kernel
theorem d_Mod_finish_50 : decode b_Mod_finish 50 = .ok (.iadd, 1) := by decide +kernel
theorem d_Mod_finish_51 : decode b_Mod_finish 51 = .ok (.aload_n 0, 1) := by decide +kernel
theorem d_Mod_finish_52 : decode b_Mod_finish 52 = .ok (.getfield 80, 3) := by decide +kernel
theorem d_Mod_finish_55 : decode b_Mod_finish 55 = .ok (.if_icmp .ge 10, 3) := by decide +kernel
theorem d_Mod_finish_58 : decode b_Mod_finish 58 = .ok (.iload_n 1, 1) := by decide +kernel
theorem d_Mod_finish_59 : decode b_Mod_finish 59 = .ok (.bipush 40, 2) := by decide +kernel
theorem d_Mod_finish_61 : decode b_Mod_finish 61 = .ok (.iadd, 1) := by decide +kernel
theorem d_Mod_finish_62 : decode b_Mod_finish 62 = .ok (.goto 7, 3) := by decide +kernel
theorem d_Mod_finish_65 : decode b_Mod_finish 65 = .ok (.aload_n 0, 1) := by decide +kernel
theorem d_Mod_finish_66 : decode b_Mod_finish 66 = .ok (.getfield 80, 3) := by decide +kernel
theorem d_Mod_finish_69 : decode b_Mod_finish 69 = .ok (.invokevirtual 101, 3) := by decide +kernel
theorem d_Mod_finish_72 : decode b_Mod_finish 72 = .ok (.iinc 1 40, 3) := by decide +kernel
theorem d_Mod_finish_75 : decode b_Mod_finish 75 = .ok (.goto (-38), 3) := by decide +kernel
theorem d_Mod_finish_78 : decode b_Mod_finish 78 = .ok (.aload_n 0, 1) := by decide +kernel
theorem d_Mod_finish_79 : decode b_Mod_finish 79 = .ok (.iconst 0, 1) := by decide +kernel
theorem d_Mod_finish_80 : decode b_Mod_finish 80 = .ok (.iconst 0, 1) := by decide +kernel
theorem d_Mod_finish_81 : decode b_Mod_finish 81 = .ok (.invokevirtual 101, 3) := by decide +kernel
theorem d_Mod_finish_84 : decode b_Mod_finish 84 = .ok (.aload_n 0, 1) := by decide +kernel
theorem d_Mod_finish_85 : decode b_Mod_finish 85 = .ok (.getfield 91, 3) := by decide +kernel
theorem d_Mod_finish_88 : decode b_Mod_finish 88 = .ok (.ireturn, 1) := by decide +kernel
theorem d_Mod_clear_0 : decode b_Mod_clear 0 = .ok (.aload_n 0, 1) := by decide +kernel
theorem d_Mod_clear_1 : decode b_Mod_clear 1 = .ok (.invokevirtual 77, 3) := by decide +kernel
theorem d_Mod_clear_4 : decode b_Mod_clear 4 = .ok (.aload_n 0, 1) := by decide +kernel
theorem d_Mod_clear_5 : decode b_Mod_clear 5 = .ok (.iconst 0, 1) := by decide +kernel
theorem d_Mod_clear_6 : decode b_Mod_clear 6 = .ok (.putfield 70, 3) := by decide +kernel
theorem d_Mod_clear_9 : decode b_Mod_clear 9 = .ok (.aload_n 0, 1) := by decide +kernel
theorem d_Mod_clear_10 : decode b_Mod_clear 10 = .ok (.iconst 0, 1) := by decide +kernel
theorem d_Mod_clear_11 : decode b_Mod_clear 11 = .ok (.putfield 66, 3) := by decide +kernel
theorem d_Mod_clear_14 : decode b_Mod_clear 14 = .ok (.aload_n 0, 1) := by decide +kernel
theorem d_Mod_clear_15 : decode b_Mod_clear 15 = .ok (.iconst 0, 1) := by decide +kernel
theorem d_Mod_clear_16 : decode b_Mod_clear 16 = .ok (.putfield 80, 3) := by decide +kernel
theorem d_Mod_clear_19 : decode b_Mod_clear 19 = .ok (.aload_n 0, 1) := by decide +kernel
theorem d_Mod_clear_20 : decode b_Mod_clear 20 = .ok (.iconst 0, 1) := by decide +kernel
theorem d_Mod_clear_21 : decode b_Mod_clear 21 = .ok (.putfield 91, 3) := by decide +kernel
theorem d_Mod_clear_24 : decode b_Mod_clear 24 = .ok (.aload_n 0, 1) := by decide +kernel
theorem d_Mod_clear_25 : decode b_Mod_clear 25 = .ok (.iconst (-1), 1) := by decide +kernel
theorem d_Mod_clear_26 : decode b_Mod_clear 26 = .ok (.putfield 49, 3) := by decide +kernel
theorem d_Mod_clear_29 : decode b_Mod_clear 29 = .ok (.aload_n 0, 1) := by decide +kernel
theorem d_Mod_clear_30 : decode b_Mod_clear 30 = .ok (.iconst 0, 1) := by decide +kernel
theorem d_Mod_clear_31 : decode b_Mod_clear 31 = .ok (.putfield 105, 3) := by decide +kernel
theorem d_Mod_clear_34 : decode b_Mod_clear 34 = .ok (.aload_n 0, 1) := by decide +kernel
theorem d_Mod_clear_35 : decode b_Mod_clear 35 = .ok (.iconst 0, 1) := by decide +kernel
theorem d_Mod_clear_36 : decode b_Mod_clear 36 = .ok (.putfield 108, 3) := by decide +kernel
theorem d_Mod_clear_39 : decode b_Mod_clear 39 = .ok (.return_, 1) := by decide +kernel
theorem d_Mod_turn_0 : decode b_Mod_turn 0 = .ok (.iload_n 1, 1) := by decide +kernel
theorem d_Mod_turn_1 : decode b_Mod_turn 1 = .ok (.iconst 0, 1) := by decide +kernel
theorem d_Mod_turn_2 : decode b_Mod_turn 2 = .ok (.aload_n 0, 1) := by decide +kernel
theorem d_Mod_turn_3 : decode b_Mod_turn 3 = .ok (.getfield 91, 3) := by decide +kernel
theorem d_Mod_turn_6 : decode b_Mod_turn 6 = .ok (.iconst 1, 1) := by decide +kernel
theorem d_Mod_turn_7 : decode b_Mod_turn 7 = .ok (.isub, 1) := by decide +kernel
theorem d_Mod_turn_8 : decode b_Mod_turn 8 = .ok (.invokestatic 56, 3) := by decide +kernel
theorem d_Mod_turn_11 : decode b_Mod_turn 11 = .ok (.ifCond .eq 33, 3) := by decide +kernel
theorem d_Mod_turn_14 : decode b_Mod_turn 14 = .ok (.iload_n 2, 1) := by decide +kernel
theorem d_Mod_turn_15 : decode b_Mod_turn 15 = .ok (.iconst 0, 1) := by decide +kernel
theorem d_Mod_turn_16 : decode b_Mod_turn 16 = .ok (.bipush 7, 2) := by decide +kernel
theorem d_Mod_turn_18 : decode b_Mod_turn 18 = .ok (.invokestatic 56, 3) := by decide +kernel
theorem d_Mod_turn_21 : decode b_Mod_turn 21 = .ok (.ifCond .eq 23, 3) := by decide +kernel
theorem d_Mod_turn_24 : decode b_Mod_turn 24 = .ok (.aload_n 0, 1) := by decide +kernel
theorem d_Mod_turn_25 : decode b_Mod_turn 25 = .ok (.getfield 49, 3) := by decide +kernel
theorem d_Mod_turn_28 : decode b_Mod_turn 28 = .ok (.ifCond .lt 18, 3) := by decide +kernel
theorem d_Mod_turn_31 : decode b_Mod_turn 31 = .ok (.aload_n 0, 1) := by decide +kernel
theorem d_Mod_turn_32 : decode b_Mod_turn 32 = .ok (.getfield 49, 3) := by decide +kernel
theorem d_Mod_turn_35 : decode b_Mod_turn 35 = .ok (.bipush 8, 2) := by decide +kernel
theorem d_Mod_turn_37 : decode b_Mod_turn 37 = .ok (.iload_n 1, 1) := by decide +kernel
theorem d_Mod_turn_38 : decode b_Mod_turn 38 = .ok (.imul, 1) := by decide +kernel
theorem d_Mod_turn_39 : decode b_Mod_turn 39 = .ok (.iload_n 2, 1) := by decide +kernel
theorem d_Mod_turn_40 : decode b_Mod_turn 40 = .ok (.iadd, 1) := by decide +kernel
theorem d_Mod_turn_41 : decode b_Mod_turn 41 = .ok (.if_icmp .eq 5, 3) := by decide +kernel
theorem d_Mod_turn_44 : decode b_Mod_turn 44 = .ok (.iconst 0, 1) := by decide +kernel
theorem d_Mod_turn_45 : decode b_Mod_turn 45 = .ok (.ireturn, 1) := by decide +kernel
theorem d_Mod_turn_46 : decode b_Mod_turn 46 = .ok (.aload_n 0, 1) := by decide +kernel
theorem d_Mod_turn_47 : decode b_Mod_turn 47 = .ok (.aload_n 0, 1) := by decide +kernel
theorem d_Mod_turn_48 : decode b_Mod_turn 48 = .ok (.getfield 49, 3) := by decide +kernel
theorem d_Mod_turn_51 : decode b_Mod_turn 51 = .ok (.ifCond .lt 7, 3) := by decide +kernel
theorem d_Mod_turn_54 : decode b_Mod_turn 54 = .ok (.iconst (-1), 1) := by decide +kernel
theorem d_Mod_turn_55 : decode b_Mod_turn 55 = .ok (.goto 9, 3) := by decide +kernel
theorem d_Mod_turn_58 : decode b_Mod_turn 58 = .ok (.bipush 8, 2) := by decide +kernel
theorem d_Mod_turn_60 : decode b_Mod_turn 60 = .ok (.iload_n 1, 1) := by decide +kernel
theorem d_Mod_turn_61 : decode b_Mod_turn 61 = .ok (.imul, 1) := by decide +kernel
theorem d_Mod_turn_62 : decode b_Mod_turn 62 = .ok (.iload_n 2, 1) := by decide +kernel
theorem d_Mod_turn_63 : decode b_Mod_turn 63 = .ok (.iadd, 1) := by decide +kernel
theorem d_Mod_turn_64 : decode b_Mod_turn 64 = .ok (.putfield 49, 3) := by decide +kernel
theorem d_Mod_turn_67 : decode b_Mod_turn 67 = .ok (.iconst 1, 1) := by decide +kernel
theorem d_Mod_turn_68 : decode b_Mod_turn 68 = .ok (.ireturn, 1) := by decide +kernel
theorem d_Mod_byteAt_0 : decode b_Mod_byteAt 0 = .ok (.iload_n 1, 1) := by decide +kernel
theorem d_Mod_byteAt_1 : decode b_Mod_byteAt 1 = .ok (.iconst 0, 1) := by decide +kernel
theorem d_Mod_byteAt_2 : decode b_Mod_byteAt 2 = .ok (.aload_n 0, 1) := by decide +kernel
theorem d_Mod_byteAt_3 : decode b_Mod_byteAt 3 = .ok (.getfield 91, 3) := by decide +kernel
theorem d_Mod_byteAt_6 : decode b_Mod_byteAt 6 = .ok (.iconst 1, 1) := by decide +kernel
theorem d_Mod_byteAt_7 : decode b_Mod_byteAt 7 = .ok (.isub, 1) := by decide +kernel
theorem d_Mod_byteAt_8 : decode b_Mod_byteAt 8 = .ok (.invokestatic 56, 3) := by decide +kernel
theorem d_Mod_byteAt_11 : decode b_Mod_byteAt 11 = .ok (.ifCond .ne 5, 3) := by decide +kernel
theorem d_Mod_byteAt_14 : decode b_Mod_byteAt 14 = .ok (.iconst (-1), 1) := by decide +kernel
theorem d_Mod_byteAt_15 : decode b_Mod_byteAt 15 = .ok (.ireturn, 1) := by decide +kernel
theorem d_Mod_byteAt_16 : decode b_Mod_byteAt 16 = .ok (.aload_n 0, 1) := by decide +kernel
theorem d_Mod_byteAt_17 : decode b_Mod_byteAt 17 = .ok (.getfield 49, 3) := by decide +kernel
theorem d_Mod_byteAt_20 : decode b_Mod_byteAt 20 = .ok (.ifCond .lt 33, 3) := by decide +kernel
theorem d_Mod_byteAt_23 : decode b_Mod_byteAt 23 = .ok (.aload_n 0, 1) := by decide +kernel
theorem d_Mod_byteAt_24 : decode b_Mod_byteAt 24 = .ok (.getfield 49, 3) := by decide +kernel
theorem d_Mod_byteAt_27 : decode b_Mod_byteAt 27 = .ok (.bipush 8, 2) := by decide +kernel
theorem d_Mod_byteAt_29 : decode b_Mod_byteAt 29 = .ok (.idiv, 1) := by decide +kernel
theorem d_Mod_byteAt_30 : decode b_Mod_byteAt 30 = .ok (.iload_n 1, 1) := by decide +kernel
theorem d_Mod_byteAt_31 : decode b_Mod_byteAt 31 = .ok (.if_icmp .ne 22, 3) := by decide +kernel
theorem d_Mod_byteAt_34 : decode b_Mod_byteAt 34 = .ok (.aload_n 0, 1) := by decide +kernel
theorem d_Mod_byteAt_35 : decode b_Mod_byteAt 35 = .ok (.getfield 46, 3) := by decide +kernel
theorem d_Mod_byteAt_38 : decode b_Mod_byteAt 38 = .ok (.iload_n 1, 1) := by decide +kernel
theorem d_Mod_byteAt_39 : decode b_Mod_byteAt 39 = .ok (.iaload, 1) := by decide +kernel
theorem d_Mod_byteAt_40 : decode b_Mod_byteAt 40 = .ok (.iconst 1, 1) := by decide +kernel
theorem d_Mod_byteAt_41 : decode b_Mod_byteAt 41 = .ok (.aload_n 0, 1) := by decide +kernel
theorem d_Mod_byteAt_42 : decode b_Mod_byteAt 42 = .ok (.getfield 49, 3) := by decide +kernel
theorem d_Mod_byteAt_45 : decode b_Mod_byteAt 45 = .ok (.bipush 8, 2) := by decide +kernel
theorem d_Mod_byteAt_47 : decode b_Mod_byteAt 47 = .ok (.irem, 1) := by decide +kernel
theorem d_Mod_byteAt_48 : decode b_Mod_byteAt 48 = .ok (.ishl, 1) := by decide +kernel
theorem d_Mod_byteAt_49 : decode b_Mod_byteAt 49 = .ok (.ixor, 1) := by decide +kernel
theorem d_Mod_byteAt_50 : decode b_Mod_byteAt 50 = .ok (.goto 9, 3) := by decide +kernel
theorem d_Mod_byteAt_53 : decode b_Mod_byteAt 53 = .ok (.aload_n 0, 1) := by decide +kernel
theorem d_Mod_byteAt_54 : decode b_Mod_byteAt 54 = .ok (.getfield 46, 3) := by decide +kernel
theorem d_Mod_byteAt_57 : decode b_Mod_byteAt 57 = .ok (.iload_n 1, 1) := by decide +kernel
theorem d_Mod_byteAt_58 : decode b_Mod_byteAt 58 = .ok (.iaload, 1) := by decide +kernel
theorem d_Mod_byteAt_59 : decode b_Mod_byteAt 59 = .ok (.ireturn, 1) := by decide +kernel
theorem d_Mod_check_0 : decode b_Mod_check 0 = .ok (.aload_n 0, 1) := by decide +kernel
theorem d_Mod_check_1 : decode b_Mod_check 1 = .ok (.getfield 66, 3) := by decide +kernel
theorem d_Mod_check_4 : decode b_Mod_check 4 = .ok (.ifCond .ne 7, 3) := by decide +kernel
theorem d_Mod_check_7 : decode b_Mod_check 7 = .ok (.iconst (-1), 1) := by decide +kernel
theorem d_Mod_check_8 : decode b_Mod_check 8 = .ok (.goto 19, 3) := by decide +kernel
theorem d_Mod_check_11 : decode b_Mod_check 11 = .ok (.aload_n 0, 1) := by decide +kernel
theorem d_Mod_check_12 : decode b_Mod_check 12 = .ok (.getfield 49, 3) := by decide +kernel
theorem d_Mod_check_15 : decode b_Mod_check 15 = .ok (.ifCond .lt 8, 3) := by decide +kernel
theorem d_Mod_check_18 : decode b_Mod_check 18 = .ok (.bipush (-2), 2) := by decide +kernel
theorem d_Mod_check_20 : decode b_Mod_check 20 = .ok (.goto 7, 3) := by decide +kernel
theorem d_Mod_check_23 : decode b_Mod_check 23 = .ok (.aload_n 0, 1) := by decide +kernel
theorem d_Mod_check_24 : decode b_Mod_check 24 = .ok (.getfield 70, 3) := by decide +kernel
theorem d_Mod_check_27 : decode b_Mod_check 27 = .ok (.ireturn, 1) := by decide +kernel
theorem d_Mod_touches_0 : decode b_Mod_touches 0 = .ok (.iload_n 0, 1) := by decide +kernel
theorem d_Mod_touches_1 : decode b_Mod_touches 1 = .ok (.ifCond .ne 9, 3) := by decide +kernel
theorem d_Mod_touches_4 : decode b_Mod_touches 4 = .ok (.sipush 4096, 3) := by decide +kernel
theorem d_Mod_touches_7 : decode b_Mod_touches 7 = .ok (.goto 17, 3) := by decide +kernel
theorem d_Mod_touches_10 : decode b_Mod_touches 10 = .ok (.iload_n 0, 1) := by decide +kernel
theorem d_Mod_touches_11 : decode b_Mod_touches 11 = .ok (.bipush 9, 2) := by decide +kernel
theorem d_Mod_touches_13 : decode b_Mod_touches 13 = .ok (.if_icmp .ge 9, 3) := by decide +kernel
theorem d_Mod_touches_16 : decode b_Mod_touches 16 = .ok (.sipush 512, 3) := by decide +kernel
theorem d_Mod_touches_19 : decode b_Mod_touches 19 = .ok (.goto 5, 3) := by decide +kernel
theorem d_Mod_touches_22 : decode b_Mod_touches 22 = .ok (.bipush 64, 2) := by decide +kernel
theorem d_Mod_touches_24 : decode b_Mod_touches 24 = .ok (.istore_n 3, 1) := by decide +kernel
theorem d_Mod_touches_25 : decode b_Mod_touches 25 = .ok (.iload_n 0, 1) := by decide +kernel
theorem d_Mod_touches_26 : decode b_Mod_touches 26 = .ok (.ifCond .ne 7, 3) := by decide +kernel
theorem d_Mod_touches_29 : decode b_Mod_touches 29 = .ok (.iconst 0, 1) := by decide +kernel
theorem d_Mod_touches_30 : decode b_Mod_touches 30 = .ok (.goto 26, 3) := by decide +kernel
theorem d_Mod_touches_33 : decode b_Mod_touches 33 = .ok (.iload_n 0, 1) := by decide +kernel
theorem d_Mod_touches_34 : decode b_Mod_touches 34 = .ok (.bipush 9, 2) := by decide +kernel
theorem d_Mod_touches_36 : decode b_Mod_touches 36 = .ok (.if_icmp .ge 13, 3) := by decide +kernel
theorem d_Mod_touches_39 : decode b_Mod_touches 39 = .ok (.sipush 512, 3) := by decide +kernel
theorem d_Mod_touches_42 : decode b_Mod_touches 42 = .ok (.iload_n 0, 1) := by decide +kernel
theorem d_Mod_touches_43 : decode b_Mod_touches 43 = .ok (.iconst 1, 1) := by decide +kernel
theorem d_Mod_touches_44 : decode b_Mod_touches 44 = .ok (.isub, 1) := by decide +kernel
theorem d_Mod_touches_45 : decode b_Mod_touches 45 = .ok (.imul, 1) := by decide +kernel
theorem d_Mod_touches_46 : decode b_Mod_touches 46 = .ok (.goto 10, 3) := by decide +kernel
theorem d_Mod_touches_49 : decode b_Mod_touches 49 = .ok (.bipush 64, 2) := by decide +kernel
theorem d_Mod_touches_51 : decode b_Mod_touches 51 = .ok (.iload_n 0, 1) := by decide +kernel
theorem d_Mod_touches_52 : decode b_Mod_touches 52 = .ok (.bipush 9, 2) := by decide +kernel
theorem d_Mod_touches_54 : decode b_Mod_touches 54 = .ok (.isub, 1) := by decide +kernel
theorem d_Mod_touches_55 : decode b_Mod_touches 55 = .ok (.imul, 1) := by decide +kernel
theorem d_Mod_touches_56 : decode b_Mod_touches 56 = .ok (.istore 4, 2) := by decide +kernel
theorem d_Mod_touches_58 : decode b_Mod_touches 58 = .ok (.iload 4, 2) := by decide +kernel
theorem d_Mod_touches_60 : decode b_Mod_touches 60 = .ok (.iload_n 2, 1) := by decide +kernel
theorem d_Mod_touches_61 : decode b_Mod_touches 61 = .ok (.if_icmp .ge 15, 3) := by decide +kernel
theorem d_Mod_touches_64 : decode b_Mod_touches 64 = .ok (.iload_n 1, 1) := by decide +kernel
theorem d_Mod_touches_65 : decode b_Mod_touches 65 = .ok (.iload 4, 2) := by decide +kernel
theorem d_Mod_touches_67 : decode b_Mod_touches 67 = .ok (.iload_n 3, 1) := by decide +kernel
theorem d_Mod_touches_68 : decode b_Mod_touches 68 = .ok (.iadd, 1) := by decide +kernel
theorem d_Mod_touches_69 : decode b_Mod_touches 69 = .ok (.if_icmp .ge 7, 3) := by decide +kernel
theorem d_Mod_touches_72 : decode b_Mod_touches 72 = .ok (.iconst 1, 1) := by decide +kernel
theorem d_Mod_touches_73 : decode b_Mod_touches 73 = .ok (.goto 4, 3) := by decide +kernel
theorem d_Mod_touches_76 : decode b_Mod_touches 76 = .ok (.iconst 0, 1) := by decide +kernel
theorem d_Mod_touches_77 : decode b_Mod_touches 77 = .ok (.ireturn, 1) := by decide +kernel
theorem d_Mod_hurt_0 : decode b_Mod_hurt 0 = .ok (.aload_n 0, 1) := by decide +kernel
theorem d_Mod_hurt_1 : decode b_Mod_hurt 1 = .ok (.getfield 49, 3) := by decide +kernel
theorem d_Mod_hurt_4 : decode b_Mod_hurt 4 = .ok (.ifCond .lt 20, 3) := by decide +kernel
theorem d_Mod_hurt_7 : decode b_Mod_hurt 7 = .ok (.aload_n 0, 1) := by decide +kernel
theorem d_Mod_hurt_8 : decode b_Mod_hurt 8 = .ok (.getfield 49, 3) := by decide +kernel
theorem d_Mod_hurt_11 : decode b_Mod_hurt 11 = .ok (.bipush 8, 2) := by decide +kernel
theorem d_Mod_hurt_13 : decode b_Mod_hurt 13 = .ok (.idiv, 1) := by decide +kernel
theorem d_Mod_hurt_14 : decode b_Mod_hurt 14 = .ok (.aload_n 0, 1) := by decide +kernel
theorem d_Mod_hurt_15 : decode b_Mod_hurt 15 = .ok (.getfield 91, 3) := by decide +kernel
theorem d_Mod_hurt_18 : decode b_Mod_hurt 18 = .ok (.bipush 11, 2) := by decide +kernel
theorem d_Mod_hurt_20 : decode b_Mod_hurt 20 = .ok (.isub, 1) := by decide +kernel
theorem d_Mod_hurt_21 : decode b_Mod_hurt 21 = .ok (.if_icmp .lt 5, 3) := by decide +kernel
theorem d_Mod_hurt_24 : decode b_Mod_hurt 24 = .ok (.iconst 0, 1) := by decide +kernel
theorem d_Mod_hurt_25 : decode b_Mod_hurt 25 = .ok (.ireturn, 1) := by decide +kernel
theorem d_Mod_hurt_26 : decode b_Mod_hurt 26 = .ok (.aload_n 0, 1) := by decide +kernel
theorem d_Mod_hurt_27 : decode b_Mod_hurt 27 = .ok (.getfield 49, 3) := by decide +kernel
theorem d_Mod_hurt_30 : decode b_Mod_hurt 30 = .ok (.bipush 8, 2) := by decide +kernel
theorem d_Mod_hurt_32 : decode b_Mod_hurt 32 = .ok (.idiv, 1) := by decide +kernel
theorem d_Mod_hurt_33 : decode b_Mod_hurt 33 = .ok (.bipush 51, 2) := by decide +kernel
theorem d_Mod_hurt_35 : decode b_Mod_hurt 35 = .ok (.idiv, 1) := by decide +kernel
theorem d_Mod_hurt_36 : decode b_Mod_hurt 36 = .ok (.istore_n 2, 1) := by decide +kernel
theorem d_Mod_hurt_37 : decode b_Mod_hurt 37 = .ok (.aload_n 0, 1) := by decide +kernel
theorem d_Mod_hurt_38 : decode b_Mod_hurt 38 = .ok (.getfield 40, 3) := by decide +kernel
theorem d_Mod_hurt_41 : decode b_Mod_hurt 41 = .ok (.iload_n 1, 1) := by decide +kernel
theorem d_Mod_hurt_42 : decode b_Mod_hurt 42 = .ok (.iaload, 1) := by decide +kernel
theorem d_Mod_hurt_43 : decode b_Mod_hurt 43 = .ok (.bipush 40, 2) := by decide +kernel
theorem d_Mod_hurt_45 : decode b_Mod_hurt 45 = .ok (.idiv, 1) := by decide +kernel
theorem d_Mod_hurt_46 : decode b_Mod_hurt 46 = .ok (.iload_n 2, 1) := by decide +kernel
theorem d_Mod_hurt_47 : decode b_Mod_hurt 47 = .ok (.if_icmp .gt 24, 3) := by decide +kernel
theorem d_Mod_hurt_50 : decode b_Mod_hurt 50 = .ok (.iload_n 2, 1) := by decide +kernel
theorem d_Mod_hurt_51 : decode b_Mod_hurt 51 = .ok (.aload_n 0, 1) := by decide +kernel
theorem d_Mod_hurt_52 : decode b_Mod_hurt 52 = .ok (.getfield 40, 3) := by decide +kernel
theorem d_Mod_hurt_55 : decode b_Mod_hurt 55 = .ok (.iload_n 1, 1) := by decide +kernel
theorem d_Mod_hurt_56 : decode b_Mod_hurt 56 = .ok (.iconst 1, 1) := by decide +kernel
theorem d_Mod_hurt_57 : decode b_Mod_hurt 57 = .ok (.iadd, 1) := by decide +kernel
theorem d_Mod_hurt_58 : decode b_Mod_hurt 58 = .ok (.iaload, 1) := by decide +kernel
theorem d_Mod_hurt_59 : decode b_Mod_hurt 59 = .ok (.iconst 1, 1) := by decide +kernel
theorem d_Mod_hurt_60 : decode b_Mod_hurt 60 = .ok (.isub, 1) := by decide +kernel
theorem d_Mod_hurt_61 : decode b_Mod_hurt 61 = .ok (.bipush 40, 2) := by decide +kernel
theorem d_Mod_hurt_63 : decode b_Mod_hurt 63 = .ok (.idiv, 1) := by decide +kernel
theorem d_Mod_hurt_64 : decode b_Mod_hurt 64 = .ok (.if_icmp .gt 7, 3) := by decide +kernel
theorem d_Mod_hurt_67 : decode b_Mod_hurt 67 = .ok (.iconst 1, 1) := by decide +kernel
theorem d_Mod_hurt_68 : decode b_Mod_hurt 68 = .ok (.goto 4, 3) := by decide +kernel
theorem d_Mod_hurt_71 : decode b_Mod_hurt 71 = .ok (.iconst 0, 1) := by decide +kernel
theorem d_Mod_hurt_72 : decode b_Mod_hurt 72 = .ok (.ireturn, 1) := by decide +kernel
theorem d_Mod_firstBehind_0 : decode b_Mod_firstBehind 0 = .ok (.iconst 0, 1) := by decide +kernel
theorem d_Mod_firstBehind_1 : decode b_Mod_firstBehind 1 = .ok (.istore_n 3, 1) := by decide +kernel
theorem d_Mod_firstBehind_2 : decode b_Mod_firstBehind 2 = .ok (.iload_n 3, 1) := by decide +kernel
theorem d_Mod_firstBehind_3 : decode b_Mod_firstBehind 3 = .ok (.aload_n 0, 1) := by decide +kernel
theorem d_Mod_firstBehind_4 : decode b_Mod_firstBehind 4 = .ok (.getfield 70, 3) := by decide +kernel
theorem d_Mod_firstBehind_7 : decode b_Mod_firstBehind 7 = .ok (.if_icmp .ge 29, 3) := by decide +kernel
theorem d_Mod_firstBehind_10 : decode b_Mod_firstBehind 10 = .ok (.aload_n 0, 1) := by decide +kernel
theorem d_Mod_firstBehind_11 : decode b_Mod_firstBehind 11 = .ok (.getfield 19, 3) := by decide +kernel
theorem d_Mod_firstBehind_14 : decode b_Mod_firstBehind 14 = .ok (.iload_n 3, 1) := by decide +kernel
theorem d_Mod_firstBehind_15 : decode b_Mod_firstBehind 15 = .ok (.iaload, 1) := by decide +kernel
theorem d_Mod_firstBehind_16 : decode b_Mod_firstBehind 16 = .ok (.iload_n 1, 1) := by decide +kernel
theorem d_Mod_firstBehind_17 : decode b_Mod_firstBehind 17 = .ok (.if_icmp .ne 13, 3) := by decide +kernel
theorem d_Mod_firstBehind_20 : decode b_Mod_firstBehind 20 = .ok (.aload_n 0, 1) := by decide +kernel
theorem d_Mod_firstBehind_21 : decode b_Mod_firstBehind 21 = .ok (.getfield 25, 3) := by decide +kernel
theorem d_Mod_firstBehind_24 : decode b_Mod_firstBehind 24 = .ok (.iload_n 3, 1) := by decide +kernel
theorem d_Mod_firstBehind_25 : decode b_Mod_firstBehind 25 = .ok (.iaload, 1) := by decide +kernel
theorem d_Mod_firstBehind_26 : decode b_Mod_firstBehind 26 = .ok (.iload_n 2, 1) := by decide +kernel
theorem d_Mod_firstBehind_27 : decode b_Mod_firstBehind 27 = .ok (.if_icmp .gt 9, 3) := by decide +kernel
theorem d_Mod_firstBehind_30 : decode b_Mod_firstBehind 30 = .ok (.iinc 3 1, 3) := by decide +kernel
theorem d_Mod_firstBehind_33 : decode b_Mod_firstBehind 33 = .ok (.goto (-31), 3) := by decide +kernel
theorem d_Mod_firstBehind_36 : decode b_Mod_firstBehind 36 = .ok (.iload_n 3, 1) := by decide +kernel
theorem d_Mod_firstBehind_37 : decode b_Mod_firstBehind 37 = .ok (.ireturn, 1) := by decide +kernel
theorem d_Mod_query_0 : decode b_Mod_query 0 = .ok (.aload_n 0, 1) := by decide +kernel
theorem d_Mod_query_1 : decode b_Mod_query 1 = .ok (.getfield 66, 3) := by decide +kernel
theorem d_Mod_query_4 : decode b_Mod_query 4 = .ok (.ifCond .eq 28, 3) := by decide +kernel
theorem d_Mod_query_7 : decode b_Mod_query 7 = .ok (.iload_n 1, 1) := by decide +kernel
theorem d_Mod_query_8 : decode b_Mod_query 8 = .ok (.iconst 0, 1) := by decide +kernel
theorem d_Mod_query_9 : decode b_Mod_query 9 = .ok (.iconst 1, 1) := by decide +kernel
theorem d_Mod_query_10 : decode b_Mod_query 10 = .ok (.invokestatic 56, 3) := by decide +kernel
theorem d_Mod_query_13 : decode b_Mod_query 13 = .ok (.ifCond .eq 19, 3) := by decide +kernel
theorem d_Mod_query_16 : decode b_Mod_query 16 = .ok (.iload_n 2, 1) := by decide +kernel
theorem d_Mod_query_17 : decode b_Mod_query 17 = .ok (.ifCond .lt 15, 3) := by decide +kernel
theorem d_Mod_query_20 : decode b_Mod_query 20 = .ok (.iload_n 3, 1) := by decide +kernel
theorem d_Mod_query_21 : decode b_Mod_query 21 = .ok (.sipush 4096, 3) := by decide +kernel
theorem d_Mod_query_24 : decode b_Mod_query 24 = .ok (.if_icmp .gt 8, 3) := by decide +kernel
theorem d_Mod_query_27 : decode b_Mod_query 27 = .ok (.iload_n 2, 1) := by decide +kernel
theorem d_Mod_query_28 : decode b_Mod_query 28 = .ok (.iload_n 3, 1) := by decide +kernel
theorem d_Mod_query_29 : decode b_Mod_query 29 = .ok (.if_icmp .lt 5, 3) := by decide +kernel
theorem d_Mod_query_32 : decode b_Mod_query 32 = .ok (.iconst (-1), 1) := by decide +kernel
theorem d_Mod_query_33 : decode b_Mod_query 33 = .ok (.ireturn, 1) := by decide +kernel
theorem d_Mod_query_34 : decode b_Mod_query 34 = .ok (.aload_n 0, 1) := by decide +kernel
theorem d_Mod_query_35 : decode b_Mod_query 35 = .ok (.iload_n 1, 1) := by decide +kernel
theorem d_Mod_query_36 : decode b_Mod_query 36 = .ok (.iload_n 2, 1) := by decide +kernel
theorem d_Mod_query_37 : decode b_Mod_query 37 = .ok (.bipush 64, 2) := by decide +kernel
theorem d_Mod_query_39 : decode b_Mod_query 39 = .ok (.idiv, 1) := by decide +kernel
theorem d_Mod_query_40 : decode b_Mod_query 40 = .ok (.bipush 64, 2) := by decide +kernel
theorem d_Mod_query_42 : decode b_Mod_query 42 = .ok (.imul, 1) := by decide +kernel
theorem d_Mod_query_43 : decode b_Mod_query 43 = .ok (.invokevirtual 111, 3) := by decide +kernel
theorem d_Mod_query_46 : decode b_Mod_query 46 = .ok (.istore 4, 2) := by decide +kernel
theorem d_Mod_query_48 : decode b_Mod_query 48 = .ok (.iconst 0, 1) := by decide +kernel
theorem d_Mod_query_49 : decode b_Mod_query 49 = .ok (.istore 5, 2) := by decide +kernel
theorem d_Mod_query_51 : decode b_Mod_query 51 = .ok (.iconst 0, 1) := by decide +kernel
theorem d_Mod_query_52 : decode b_Mod_query 52 = .ok (.istore 6, 2) := by decide +kernel
theorem d_Mod_query_54 : decode b_Mod_query 54 = .ok (.iload 4, 2) := by decide +kernel
theorem d_Mod_query_56 : decode b_Mod_query 56 = .ok (.istore 7, 2) := by decide +kernel
theorem d_Mod_query_58 : decode b_Mod_query 58 = .ok (.iload 7, 2) := by decide +kernel
theorem d_Mod_query_60 : decode b_Mod_query 60 = .ok (.aload_n 0, 1) := by decide +kernel
theorem d_Mod_query_61 : decode b_Mod_query 61 = .ok (.getfield 70, 3) := by decide +kernel
theorem d_Mod_query_64 : decode b_Mod_query 64 = .ok (.if_icmp .ge 58, 3) := by decide +kernel
theorem d_Mod_query_67 : decode b_Mod_query 67 = .ok (.aload_n 0, 1) := by decide +kernel
theorem d_Mod_query_68 : decode b_Mod_query 68 = .ok (.getfield 19, 3) := by decide +kernel
theorem d_Mod_query_71 : decode b_Mod_query 71 = .ok (.iload 7, 2) := by decide +kernel
theorem d_Mod_query_73 : decode b_Mod_query 73 = .ok (.iaload, 1) := by decide +kernel
theorem d_Mod_query_74 : decode b_Mod_query 74 = .ok (.iload_n 1, 1) := by decide +kernel
theorem d_Mod_query_75 : decode b_Mod_query 75 = .ok (.if_icmp .ne 41, 3) := by decide +kernel
theorem d_Mod_query_78 : decode b_Mod_query 78 = .ok (.aload_n 0, 1) := by decide +kernel
theorem d_Mod_query_79 : decode b_Mod_query 79 = .ok (.iload 7, 2) := by decide +kernel
theorem d_Mod_query_81 : decode b_Mod_query 81 = .ok (.invokevirtual 87, 3) := by decide +kernel
theorem d_Mod_query_84 : decode b_Mod_query 84 = .ok (.iload_n 2, 1) := by decide +kernel
theorem d_Mod_query_85 : decode b_Mod_query 85 = .ok (.iload_n 3, 1) := by decide +kernel
theorem d_Mod_query_86 : decode b_Mod_query 86 = .ok (.invokestatic 115, 3) := by decide +kernel
theorem d_Mod_query_89 : decode b_Mod_query 89 = .ok (.ifCond .eq 27, 3) := by decide +kernel
theorem d_Mod_query_92 : decode b_Mod_query 92 = .ok (.iinc 5 1, 3) := by decide +kernel
theorem d_Mod_query_95 : decode b_Mod_query 95 = .ok (.iload 6, 2) := by decide +kernel
theorem d_Mod_query_97 : decode b_Mod_query 97 = .ok (.ifCond .ne 12, 3) := by decide +kernel
theorem d_Mod_query_100 : decode b_Mod_query 100 = .ok (.aload_n 0, 1) := by decide +kernel
theorem d_Mod_query_101 : decode b_Mod_query 101 = .ok (.iload 7, 2) := by decide +kernel
theorem d_Mod_query_103 : decode b_Mod_query 103 = .ok (.invokevirtual 118, 3) := by decide +kernel
theorem d_Mod_query_106 : decode b_Mod_query 106 = .ok (.ifCond .eq 7, 3) := by decide +kernel
theorem d_Mod_query_109 : decode b_Mod_query 109 = .ok (.iconst 1, 1) := by decide +kernel
theorem d_Mod_query_110 : decode b_Mod_query 110 = .ok (.goto 4, 3) := by decide +kernel
theorem d_Mod_query_113 : decode b_Mod_query 113 = .ok (.iconst 0, 1) := by decide +kernel
theorem d_Mod_query_114 : decode b_Mod_query 114 = .ok (.istore 6, 2) := by decide +kernel
theorem d_Mod_query_116 : decode b_Mod_query 116 = .ok (.iinc 7 1, 3) := by decide +kernel
theorem d_Mod_query_119 : decode b_Mod_query 119 = .ok (.goto (-61), 3) := by decide +kernel
theorem d_Mod_query_122 : decode b_Mod_query 122 = .ok (.iload 6, 2) := by decide +kernel
theorem d_Mod_query_124 : decode b_Mod_query 124 = .ok (.ifCond .eq 6, 3) := by decide +kernel
theorem d_Mod_query_127 : decode b_Mod_query 127 = .ok (.bipush (-2), 2) := by decide +kernel
theorem d_Mod_query_129 : decode b_Mod_query 129 = .ok (.ireturn, 1) := by decide +kernel
theorem d_Mod_query_130 : decode b_Mod_query 130 = .ok (.aload_n 0, 1) := by decide +kernel
theorem d_Mod_query_131 : decode b_Mod_query 131 = .ok (.iload 5, 2) := by decide +kernel
theorem d_Mod_query_133 : decode b_Mod_query 133 = .ok (.putfield 108, 3) := by decide +kernel
theorem d_Mod_query_136 : decode b_Mod_query 136 = .ok (.aload_n 0, 1) := by decide +kernel
theorem d_Mod_query_137 : decode b_Mod_query 137 = .ok (.iconst 0, 1) := by decide +kernel
theorem d_Mod_query_138 : decode b_Mod_query 138 = .ok (.putfield 105, 3) := by decide +kernel
theorem d_Mod_query_141 : decode b_Mod_query 141 = .ok (.iload 4, 2) := by decide +kernel
theorem d_Mod_query_143 : decode b_Mod_query 143 = .ok (.istore 7, 2) := by decide +kernel
theorem d_Mod_query_145 : decode b_Mod_query 145 = .ok (.iload 7, 2) := by decide +kernel
theorem d_Mod_query_147 : decode b_Mod_query 147 = .ok (.aload_n 0, 1) := by decide +kernel
theorem d_Mod_query_148 : decode b_Mod_query 148 = .ok (.getfield 70, 3) := by decide +kernel
theorem d_Mod_query_151 : decode b_Mod_query 151 = .ok (.if_icmp .ge 63, 3) := by decide +kernel
theorem d_Mod_query_154 : decode b_Mod_query 154 = .ok (.aload_n 0, 1) := by decide +kernel
theorem d_Mod_query_155 : decode b_Mod_query 155 = .ok (.getfield 19, 3) := by decide +kernel
theorem d_Mod_query_158 : decode b_Mod_query 158 = .ok (.iload 7, 2) := by decide +kernel
theorem d_Mod_query_160 : decode b_Mod_query 160 = .ok (.iaload, 1) := by decide +kernel
theorem d_Mod_query_161 : decode b_Mod_query 161 = .ok (.iload_n 1, 1) := by decide +kernel
theorem d_Mod_query_162 : decode b_Mod_query 162 = .ok (.if_icmp .ne 46, 3) := by decide +kernel
theorem d_Mod_query_165 : decode b_Mod_query 165 = .ok (.aload_n 0, 1) := by decide +kernel
theorem d_Mod_query_166 : decode b_Mod_query 166 = .ok (.getfield 22, 3) := by decide +kernel
theorem d_Mod_query_169 : decode b_Mod_query 169 = .ok (.iload 7, 2) := by decide +kernel
theorem d_Mod_query_171 : decode b_Mod_query 171 = .ok (.iaload, 1) := by decide +kernel
theorem d_Mod_query_172 : decode b_Mod_query 172 = .ok (.iload_n 3, 1) := by decide +kernel
theorem d_Mod_query_173 : decode b_Mod_query 173 = .ok (.if_icmp .ge 35, 3) := by decide +kernel
theorem d_Mod_query_176 : decode b_Mod_query 176 = .ok (.aload_n 0, 1) := by decide +kernel
theorem d_Mod_query_177 : decode b_Mod_query 177 = .ok (.getfield 25, 3) := by decide +kernel
theorem d_Mod_query_180 : decode b_Mod_query 180 = .ok (.iload 7, 2) := by decide +kernel
theorem d_Mod_query_182 : decode b_Mod_query 182 = .ok (.iaload, 1) := by decide +kernel
theorem d_Mod_query_183 : decode b_Mod_query 183 = .ok (.iload_n 2, 1) := by decide +kernel
theorem d_Mod_query_184 : decode b_Mod_query 184 = .ok (.if_icmp .le 24, 3) := by decide +kernel
theorem d_Mod_query_187 : decode b_Mod_query 187 = .ok (.aload_n 0, 1) := by decide +kernel
theorem d_Mod_query_188 : decode b_Mod_query 188 = .ok (.getfield 53, 3) := by decide +kernel
theorem d_Mod_query_191 : decode b_Mod_query 191 = .ok (.aload_n 0, 1) := by decide +kernel
theorem d_Mod_query_192 : decode b_Mod_query 192 = .ok (.getfield 105, 3) := by decide +kernel
theorem d_Mod_query_195 : decode b_Mod_query 195 = .ok (.iload 7, 2) := by decide +kernel
theorem d_Mod_query_197 : decode b_Mod_query 197 = .ok (.iastore, 1) := by decide +kernel
theorem d_Mod_query_198 : decode b_Mod_query 198 = .ok (.aload_n 0, 1) := by decide +kernel
theorem d_Mod_query_199 : decode b_Mod_query 199 = .ok (.dup, 1) := by decide +kernel
theorem d_Mod_query_200 : decode b_Mod_query 200 = .ok (.getfield 105, 3) := by decide +kernel
theorem d_Mod_query_203 : decode b_Mod_query 203 = .ok (.iconst 1, 1) := by decide +kernel
theorem d_Mod_query_204 : decode b_Mod_query 204 = .ok (.iadd, 1) := by decide +kernel
theorem d_Mod_query_205 : decode b_Mod_query 205 = .ok (.putfield 105, 3) := by decide +kernel
theorem d_Mod_query_208 : decode b_Mod_query 208 = .ok (.iinc 7 1, 3) := by decide +kernel
theorem d_Mod_query_211 : decode b_Mod_query 211 = .ok (.goto (-66), 3) := by decide +kernel
theorem d_Mod_query_214 : decode b_Mod_query 214 = .ok (.aload_n 0, 1) := by decide +kernel
theorem d_Mod_query_215 : decode b_Mod_query 215 = .ok (.getfield 105, 3) := by decide +kernel
theorem d_Mod_query_218 : decode b_Mod_query 218 = .ok (.ireturn, 1) := by decide +kernel
theorem d_Mod_looked_0 : decode b_Mod_looked 0 = .ok (.aload_n 0, 1) := by decide +kernel
theorem d_Mod_looked_1 : decode b_Mod_looked 1 = .ok (.getfield 108, 3) := by decide +kernel
theorem d_Mod_looked_4 : decode b_Mod_looked 4 = .ok (.ireturn, 1) := by decide +kernel
theorem d_Mod_found_0 : decode b_Mod_found 0 = .ok (.iload_n 1, 1) := by decide +kernel
theorem d_Mod_found_1 : decode b_Mod_found 1 = .ok (.iconst 0, 1) := by decide +kernel
theorem d_Mod_found_2 : decode b_Mod_found 2 = .ok (.aload_n 0, 1) := by decide +kernel
theorem d_Mod_found_3 : decode b_Mod_found 3 = .ok (.getfield 105, 3) := by decide +kernel
theorem d_Mod_found_6 : decode b_Mod_found 6 = .ok (.iconst 1, 1) := by decide +kernel
theorem d_Mod_found_7 : decode b_Mod_found 7 = .ok (.isub, 1) := by decide +kernel
theorem d_Mod_found_8 : decode b_Mod_found 8 = .ok (.invokestatic 56, 3) := by decide +kernel
theorem d_Mod_found_11 : decode b_Mod_found 11 = .ok (.ifCond .ne 5, 3) := by decide +kernel
theorem d_Mod_found_14 : decode b_Mod_found 14 = .ok (.iconst (-1), 1) := by decide +kernel
theorem d_Mod_found_15 : decode b_Mod_found 15 = .ok (.ireturn, 1) := by decide +kernel
theorem d_Mod_found_16 : decode b_Mod_found 16 = .ok (.aload_n 0, 1) := by decide +kernel
theorem d_Mod_found_17 : decode b_Mod_found 17 = .ok (.getfield 53, 3) := by decide +kernel
theorem d_Mod_found_20 : decode b_Mod_found 20 = .ok (.iload_n 1, 1) := by decide +kernel
theorem d_Mod_found_21 : decode b_Mod_found 21 = .ok (.iaload, 1) := by decide +kernel
theorem d_Mod_found_22 : decode b_Mod_found 22 = .ok (.istore_n 3, 1) := by decide +kernel
theorem d_Mod_found_23 : decode b_Mod_found 23 = .ok (.iload_n 2, 1) := by decide +kernel
theorem d_Mod_found_24 : decode b_Mod_found 24 = .ok (.tableswitch 98 0 5 #[40, 64, 71, 77, 84, 91], 40) := by decide +kernel
theorem d_Mod_found_64 : decode b_Mod_found 64 = .ok (.sipush 3264, 3) := by decide +kernel
theorem d_Mod_found_67 : decode b_Mod_found 67 = .ok (.aload_n 0, 1) := by decide +kernel
theorem d_Mod_found_68 : decode b_Mod_found 68 = .ok (.getfield 40, 3) := by decide +kernel
theorem d_Mod_found_71 : decode b_Mod_found 71 = .ok (.iload_n 3, 1) := by decide +kernel
theorem d_Mod_found_72 : decode b_Mod_found 72 = .ok (.iaload, 1) := by decide +kernel
theorem d_Mod_found_73 : decode b_Mod_found 73 = .ok (.bipush 40, 2) := by decide +kernel
theorem d_Mod_found_75 : decode b_Mod_found 75 = .ok (.idiv, 1) := by decide +kernel
theorem d_Mod_found_76 : decode b_Mod_found 76 = .ok (.imul, 1) := by decide +kernel
theorem d_Mod_found_77 : decode b_Mod_found 77 = .ok (.aload_n 0, 1) := by decide +kernel
theorem d_Mod_found_78 : decode b_Mod_found 78 = .ok (.getfield 40, 3) := by decide +kernel
theorem d_Mod_found_81 : decode b_Mod_found 81 = .ok (.iload_n 3, 1) := by decide +kernel
theorem d_Mod_found_82 : decode b_Mod_found 82 = .ok (.iaload, 1) := by decide +kernel
theorem d_Mod_found_83 : decode b_Mod_found 83 = .ok (.bipush 40, 2) := by decide +kernel
theorem d_Mod_found_85 : decode b_Mod_found 85 = .ok (.irem, 1) := by decide +kernel
theorem d_Mod_found_86 : decode b_Mod_found 86 = .ok (.iadd, 1) := by decide +kernel
theorem d_Mod_found_87 : decode b_Mod_found 87 = .ok (.ireturn, 1) := by decide +kernel
theorem d_Mod_found_88 : decode b_Mod_found 88 = .ok (.aload_n 0, 1) := by decide +kernel
theorem d_Mod_found_89 : decode b_Mod_found 89 = .ok (.getfield 22, 3) := by decide +kernel
theorem d_Mod_found_92 : decode b_Mod_found 92 = .ok (.iload_n 3, 1) := by decide +kernel
theorem d_Mod_found_93 : decode b_Mod_found 93 = .ok (.iaload, 1) := by decide +kernel
theorem d_Mod_found_94 : decode b_Mod_found 94 = .ok (.ireturn, 1) := by decide +kernel
theorem d_Mod_found_95 : decode b_Mod_found 95 = .ok (.aload_n 0, 1) := by decide +kernel
theorem d_Mod_found_96 : decode b_Mod_found 96 = .ok (.iload_n 3, 1) := by decide +kernel
theorem d_Mod_found_97 : decode b_Mod_found 97 = .ok (.invokevirtual 87, 3) := by decide +kernel
theorem d_Mod_found_100 : decode b_Mod_found 100 = .ok (.ireturn, 1) := by decide +kernel
theorem d_Mod_found_101 : decode b_Mod_found 101 = .ok (.aload_n 0, 1) := by decide +kernel
theorem d_Mod_found_102 : decode b_Mod_found 102 = .ok (.getfield 25, 3) := by decide +kernel
theorem d_Mod_found_105 : decode b_Mod_found 105 = .ok (.iload_n 3, 1) := by decide +kernel
theorem d_Mod_found_106 : decode b_Mod_found 106 = .ok (.iaload, 1) := by decide +kernel
theorem d_Mod_found_107 : decode b_Mod_found 107 = .ok (.ireturn, 1) := by decide +kernel
theorem d_Mod_found_108 : decode b_Mod_found 108 = .ok (.aload_n 0, 1) := by decide +kernel
theorem d_Mod_found_109 : decode b_Mod_found 109 = .ok (.getfield 28, 3) := by decide +kernel
theorem d_Mod_found_112 : decode b_Mod_found 112 = .ok (.iload_n 3, 1) := by decide +kernel
theorem d_Mod_found_113 : decode b_Mod_found 113 = .ok (.iaload, 1) := by decide +kernel
theorem d_Mod_found_114 : decode b_Mod_found 114 = .ok (.ireturn, 1) := by decide +kernel
theorem d_Mod_found_115 : decode b_Mod_found 115 = .ok (.aload_n 0, 1) := by decide +kernel
theorem d_Mod_found_116 : decode b_Mod_found 116 = .ok (.getfield 34, 3) := by decide +kernel
theorem d_Mod_found_119 : decode b_Mod_found 119 = .ok (.iload_n 3, 1) := by decide +kernel
theorem d_Mod_found_120 : decode b_Mod_found 120 = .ok (.iaload, 1) := by decide +kernel
theorem d_Mod_found_121 : decode b_Mod_found 121 = .ok (.ireturn, 1) := by decide +kernel
theorem d_Mod_found_122 : decode b_Mod_found 122 = .ok (.iconst (-1), 1) := by decide +kernel
theorem d_Mod_found_123 : decode b_Mod_found 123 = .ok (.ireturn, 1) := by decide +kernel
theorem d_Mod_foundOp_0 : decode b_Mod_foundOp 0 = .ok (.iload_n 1, 1) := by decide +kernel
theorem d_Mod_foundOp_1 : decode b_Mod_foundOp 1 = .ok (.iconst 0, 1) := by decide +kernel
theorem d_Mod_foundOp_2 : decode b_Mod_foundOp 2 = .ok (.aload_n 0, 1) := by decide +kernel
theorem d_Mod_foundOp_3 : decode b_Mod_foundOp 3 = .ok (.getfield 105, 3) := by decide +kernel
theorem d_Mod_foundOp_6 : decode b_Mod_foundOp 6 = .ok (.iconst 1, 1) := by decide +kernel
theorem d_Mod_foundOp_7 : decode b_Mod_foundOp 7 = .ok (.isub, 1) := by decide +kernel
theorem d_Mod_foundOp_8 : decode b_Mod_foundOp 8 = .ok (.invokestatic 56, 3) := by decide +kernel
theorem d_Mod_foundOp_11 : decode b_Mod_foundOp 11 = .ok (.ifCond .eq 24, 3) := by decide +kernel
theorem d_Mod_foundOp_14 : decode b_Mod_foundOp 14 = .ok (.iload_n 2, 1) := by decide +kernel
theorem d_Mod_foundOp_15 : decode b_Mod_foundOp 15 = .ok (.iconst 0, 1) := by decide +kernel
theorem d_Mod_foundOp_16 : decode b_Mod_foundOp 16 = .ok (.aload_n 0, 1) := by decide +kernel
theorem d_Mod_foundOp_17 : decode b_Mod_foundOp 17 = .ok (.getfield 28, 3) := by decide +kernel
theorem d_Mod_foundOp_20 : decode b_Mod_foundOp 20 = .ok (.aload_n 0, 1) := by decide +kernel
theorem d_Mod_foundOp_21 : decode b_Mod_foundOp 21 = .ok (.getfield 53, 3) := by decide +kernel
theorem d_Mod_foundOp_24 : decode b_Mod_foundOp 24 = .ok (.iload_n 1, 1) := by decide +kernel
theorem d_Mod_foundOp_25 : decode b_Mod_foundOp 25 = .ok (.iaload, 1) := by decide +kernel
theorem d_Mod_foundOp_26 : decode b_Mod_foundOp 26 = .ok (.iaload, 1) := by decide +kernel
theorem d_Mod_foundOp_27 : decode b_Mod_foundOp 27 = .ok (.iconst 1, 1) := by decide +kernel
theorem d_Mod_foundOp_28 : decode b_Mod_foundOp 28 = .ok (.isub, 1) := by decide +kernel
theorem d_Mod_foundOp_29 : decode b_Mod_foundOp 29 = .ok (.invokestatic 56, 3) := by decide +kernel
theorem d_Mod_foundOp_32 : decode b_Mod_foundOp 32 = .ok (.ifCond .ne 5, 3) := by decide +kernel
theorem d_Mod_foundOp_35 : decode b_Mod_foundOp 35 = .ok (.iconst (-1), 1) := by decide +kernel
theorem d_Mod_foundOp_36 : decode b_Mod_foundOp 36 = .ok (.ireturn, 1) := by decide +kernel
theorem d_Mod_foundOp_37 : decode b_Mod_foundOp 37 = .ok (.aload_n 0, 1) := by decide +kernel
theorem d_Mod_foundOp_38 : decode b_Mod_foundOp 38 = .ok (.getfield 31, 3) := by decide +kernel
theorem d_Mod_foundOp_41 : decode b_Mod_foundOp 41 = .ok (.iconst 3, 1) := by decide +kernel
theorem d_Mod_foundOp_42 : decode b_Mod_foundOp 42 = .ok (.aload_n 0, 1) := by decide +kernel
theorem d_Mod_foundOp_43 : decode b_Mod_foundOp 43 = .ok (.getfield 53, 3) := by decide +kernel
theorem d_Mod_foundOp_46 : decode b_Mod_foundOp 46 = .ok (.iload_n 1, 1) := by decide +kernel
theorem d_Mod_foundOp_47 : decode b_Mod_foundOp 47 = .ok (.iaload, 1) := by decide +kernel
theorem d_Mod_foundOp_48 : decode b_Mod_foundOp 48 = .ok (.imul, 1) := by decide +kernel
theorem d_Mod_foundOp_49 : decode b_Mod_foundOp 49 = .ok (.iload_n 2, 1) := by decide +kernel
theorem d_Mod_foundOp_50 : decode b_Mod_foundOp 50 = .ok (.iadd, 1) := by decide +kernel
theorem d_Mod_foundOp_51 : decode b_Mod_foundOp 51 = .ok (.iaload, 1) := by decide +kernel
theorem d_Mod_foundOp_52 : decode b_Mod_foundOp 52 = .ok (.ireturn, 1) := by decide +kernel
theorem d_Mod_foundBase_0 : decode b_Mod_foundBase 0 = .ok (.iload_n 1, 1) := by decide +kernel
theorem d_Mod_foundBase_1 : decode b_Mod_foundBase 1 = .ok (.iconst 0, 1) := by decide +kernel
theorem d_Mod_foundBase_2 : decode b_Mod_foundBase 2 = .ok (.aload_n 0, 1) := by decide +kernel
theorem d_Mod_foundBase_3 : decode b_Mod_foundBase 3 = .ok (.getfield 105, 3) := by decide +kernel
theorem d_Mod_foundBase_6 : decode b_Mod_foundBase 6 = .ok (.iconst 1, 1) := by decide +kernel
theorem d_Mod_foundBase_7 : decode b_Mod_foundBase 7 = .ok (.isub, 1) := by decide +kernel
theorem d_Mod_foundBase_8 : decode b_Mod_foundBase 8 = .ok (.invokestatic 56, 3) := by decide +kernel
theorem d_Mod_foundBase_11 : decode b_Mod_foundBase 11 = .ok (.ifCond .eq 24, 3) := by decide +kernel
theorem d_Mod_foundBase_14 : decode b_Mod_foundBase 14 = .ok (.iload_n 2, 1) := by decide +kernel
theorem d_Mod_foundBase_15 : decode b_Mod_foundBase 15 = .ok (.iconst 0, 1) := by decide +kernel
theorem d_Mod_foundBase_16 : decode b_Mod_foundBase 16 = .ok (.aload_n 0, 1) := by decide +kernel
theorem d_Mod_foundBase_17 : decode b_Mod_foundBase 17 = .ok (.getfield 34, 3) := by decide +kernel
theorem d_Mod_foundBase_20 : decode b_Mod_foundBase 20 = .ok (.aload_n 0, 1) := by decide +kernel
theorem d_Mod_foundBase_21 : decode b_Mod_foundBase 21 = .ok (.getfield 53, 3) := by decide +kernel
theorem d_Mod_foundBase_24 : decode b_Mod_foundBase 24 = .ok (.iload_n 1, 1) := by decide +kernel
theorem d_Mod_foundBase_25 : decode b_Mod_foundBase 25 = .ok (.iaload, 1) := by decide +kernel
theorem d_Mod_foundBase_26 : decode b_Mod_foundBase 26 = .ok (.iaload, 1) := by decide +kernel
theorem d_Mod_foundBase_27 : decode b_Mod_foundBase 27 = .ok (.iconst 1, 1) := by decide +kernel
theorem d_Mod_foundBase_28 : decode b_Mod_foundBase 28 = .ok (.isub, 1) := by decide +kernel
theorem d_Mod_foundBase_29 : decode b_Mod_foundBase 29 = .ok (.invokestatic 56, 3) := by decide +kernel
theorem d_Mod_foundBase_32 : decode b_Mod_foundBase 32 = .ok (.ifCond .ne 5, 3) := by decide +kernel
theorem d_Mod_foundBase_35 : decode b_Mod_foundBase 35 = .ok (.iconst (-1), 1) := by decide +kernel
theorem d_Mod_foundBase_36 : decode b_Mod_foundBase 36 = .ok (.ireturn, 1) := by decide +kernel
theorem d_Mod_foundBase_37 : decode b_Mod_foundBase 37 = .ok (.aload_n 0, 1) := by decide +kernel
theorem d_Mod_foundBase_38 : decode b_Mod_foundBase 38 = .ok (.getfield 37, 3) := by decide +kernel
theorem d_Mod_foundBase_41 : decode b_Mod_foundBase 41 = .ok (.bipush 24, 2) := by decide +kernel
theorem d_Mod_foundBase_43 : decode b_Mod_foundBase 43 = .ok (.aload_n 0, 1) := by decide +kernel
theorem d_Mod_foundBase_44 : decode b_Mod_foundBase 44 = .ok (.getfield 53, 3) := by decide +kernel
theorem d_Mod_foundBase_47 : decode b_Mod_foundBase 47 = .ok (.iload_n 1, 1) := by decide +kernel
theorem d_Mod_foundBase_48 : decode b_Mod_foundBase 48 = .ok (.iaload, 1) := by decide +kernel
theorem d_Mod_foundBase_49 : decode b_Mod_foundBase 49 = .ok (.imul, 1) := by decide +kernel
theorem d_Mod_foundBase_50 : decode b_Mod_foundBase 50 = .ok (.iload_n 2, 1) := by decide +kernel
theorem d_Mod_foundBase_51 : decode b_Mod_foundBase 51 = .ok (.iadd, 1) := by decide +kernel
theorem d_Mod_foundBase_52 : decode b_Mod_foundBase 52 = .ok (.iaload, 1) := by decide +kernel
theorem d_Mod_foundBase_53 : decode b_Mod_foundBase 53 = .ok (.ireturn, 1) := by decide +kernel
end
section
theorem d_Law_law_0 : decode b_Law_law 0 = .ok (.new 7, 3) := by decide +kernel
theorem d_Law_law_3 : decode b_Law_law 3 = .ok (.dup, 1) := by decide +kernel
theorem d_Law_law_4 : decode b_Law_law 4 = .ok (.invokespecial 9, 3) := by decide +kernel
theorem d_Law_law_7 : decode b_Law_law 7 = .ok (.astore_n 1, 1) := by decide +kernel
theorem d_Law_law_8 : decode b_Law_law 8 = .ok (.new 10, 3) := by decide +kernel
theorem d_Law_law_11 : decode b_Law_law 11 = .ok (.dup, 1) := by decide +kernel
theorem d_Law_law_12 : decode b_Law_law 12 = .ok (.invokespecial 12, 3) := by decide +kernel
theorem d_Law_law_15 : decode b_Law_law 15 = .ok (.astore_n 2, 1) := by decide +kernel
theorem d_Law_law_16 : decode b_Law_law 16 = .ok (.iconst 0, 1) := by decide +kernel
theorem d_Law_law_17 : decode b_Law_law 17 = .ok (.istore_n 3, 1) := by decide +kernel
theorem d_Law_law_18 : decode b_Law_law 18 = .ok (.iload_n 3, 1) := by decide +kernel
theorem d_Law_law_19 : decode b_Law_law 19 = .ok (.aload_n 0, 1) := by decide +kernel
theorem d_Law_law_20 : decode b_Law_law 20 = .ok (.arraylength, 1) := by decide +kernel
theorem d_Law_law_21 : decode b_Law_law 21 = .ok (.iconst 4, 1) := by decide +kernel
theorem d_Law_law_22 : decode b_Law_law 22 = .ok (.isub, 1) := by decide +kernel
theorem d_Law_law_23 : decode b_Law_law 23 = .ok (.if_icmp .gt 435, 3) := by decide +kernel
theorem d_Law_law_26 : decode b_Law_law 26 = .ok (.aload_n 0, 1) := by decide +kernel
theorem d_Law_law_27 : decode b_Law_law 27 = .ok (.iload_n 3, 1) := by decide +kernel
theorem d_Law_law_28 : decode b_Law_law 28 = .ok (.iaload, 1) := by decide +kernel
theorem d_Law_law_29 : decode b_Law_law 29 = .ok (.bipush 15, 2) := by decide +kernel
theorem d_Law_law_31 : decode b_Law_law 31 = .ok (.iand, 1) := by decide +kernel
theorem d_Law_law_32 : decode b_Law_law 32 = .ok (.tableswitch 420 0 13 #[72, 105, 128, 139, 172, 185, 196, 229, 252, 265, 308, 321, 354, 387], 72) := by decide +kernel
theorem d_Law_law_104 : decode b_Law_law 104 = .ok (.aload_n 1, 1) := by decide +kernel
theorem d_Law_law_105 : decode b_Law_law 105 = .ok (.aload_n 0, 1) := by decide +kernel
theorem d_Law_law_106 : decode b_Law_law 106 = .ok (.iload_n 3, 1) := by decide +kernel
theorem d_Law_law_107 : decode b_Law_law 107 = .ok (.iconst 1, 1) := by decide +kernel
theorem d_Law_law_108 : decode b_Law_law 108 = .ok (.iadd, 1) := by decide +kernel
theorem d_Law_law_109 : decode b_Law_law 109 = .ok (.iaload, 1) := by decide +kernel
theorem d_Law_law_110 : decode b_Law_law 110 = .ok (.aload_n 0, 1) := by decide +kernel
theorem d_Law_law_111 : decode b_Law_law 111 = .ok (.iload_n 3, 1) := by decide +kernel
theorem d_Law_law_112 : decode b_Law_law 112 = .ok (.iconst 2, 1) := by decide +kernel
theorem d_Law_law_113 : decode b_Law_law 113 = .ok (.iadd, 1) := by decide +kernel
theorem d_Law_law_114 : decode b_Law_law 114 = .ok (.iaload, 1) := by decide +kernel
theorem d_Law_law_115 : decode b_Law_law 115 = .ok (.invokevirtual 13, 3) := by decide +kernel
theorem d_Law_law_118 : decode b_Law_law 118 = .ok (.aload_n 2, 1) := by decide +kernel
theorem d_Law_law_119 : decode b_Law_law 119 = .ok (.aload_n 0, 1) := by decide +kernel
theorem d_Law_law_120 : decode b_Law_law 120 = .ok (.iload_n 3, 1) := by decide +kernel
theorem d_Law_law_121 : decode b_Law_law 121 = .ok (.iconst 1, 1) := by decide +kernel
theorem d_Law_law_122 : decode b_Law_law 122 = .ok (.iadd, 1) := by decide +kernel
theorem d_Law_law_123 : decode b_Law_law 123 = .ok (.iaload, 1) := by decide +kernel
theorem d_Law_law_124 : decode b_Law_law 124 = .ok (.aload_n 0, 1) := by decide +kernel
theorem d_Law_law_125 : decode b_Law_law 125 = .ok (.iload_n 3, 1) := by decide +kernel
theorem d_Law_law_126 : decode b_Law_law 126 = .ok (.iconst 2, 1) := by decide +kernel
theorem d_Law_law_127 : decode b_Law_law 127 = .ok (.iadd, 1) := by decide +kernel
theorem d_Law_law_128 : decode b_Law_law 128 = .ok (.iaload, 1) := by decide +kernel
theorem d_Law_law_129 : decode b_Law_law 129 = .ok (.invokevirtual 17, 3) := by decide +kernel
theorem d_Law_law_132 : decode b_Law_law 132 = .ok (.if_icmp .eq 320, 3) := by decide +kernel
theorem d_Law_law_135 : decode b_Law_law 135 = .ok (.iconst 0, 1) := by decide +kernel
theorem d_Law_law_136 : decode b_Law_law 136 = .ok (.ireturn, 1) := by decide +kernel
theorem d_Law_law_137 : decode b_Law_law 137 = .ok (.aload_n 1, 1) := by decide +kernel
theorem d_Law_law_138 : decode b_Law_law 138 = .ok (.aload_n 0, 1) := by decide +kernel
theorem d_Law_law_139 : decode b_Law_law 139 = .ok (.iload_n 3, 1) := by decide +kernel
theorem d_Law_law_140 : decode b_Law_law 140 = .ok (.iconst 1, 1) := by decide +kernel
theorem d_Law_law_141 : decode b_Law_law 141 = .ok (.iadd, 1) := by decide +kernel
theorem d_Law_law_142 : decode b_Law_law 142 = .ok (.iaload, 1) := by decide +kernel
theorem d_Law_law_143 : decode b_Law_law 143 = .ok (.invokevirtual 18, 3) := by decide +kernel
theorem d_Law_law_146 : decode b_Law_law 146 = .ok (.aload_n 2, 1) := by decide +kernel
theorem d_Law_law_147 : decode b_Law_law 147 = .ok (.aload_n 0, 1) := by decide +kernel
theorem d_Law_law_148 : decode b_Law_law 148 = .ok (.iload_n 3, 1) := by decide +kernel
theorem d_Law_law_149 : decode b_Law_law 149 = .ok (.iconst 1, 1) := by decide +kernel
theorem d_Law_law_150 : decode b_Law_law 150 = .ok (.iadd, 1) := by decide +kernel
theorem d_Law_law_151 : decode b_Law_law 151 = .ok (.iaload, 1) := by decide +kernel
theorem d_Law_law_152 : decode b_Law_law 152 = .ok (.invokevirtual 22, 3) := by decide +kernel
theorem d_Law_law_155 : decode b_Law_law 155 = .ok (.if_icmp .eq 297, 3) := by decide +kernel
theorem d_Law_law_158 : decode b_Law_law 158 = .ok (.iconst 0, 1) := by decide +kernel
theorem d_Law_law_159 : decode b_Law_law 159 = .ok (.ireturn, 1) := by decide +kernel
theorem d_Law_law_160 : decode b_Law_law 160 = .ok (.aload_n 1, 1) := by decide +kernel
theorem d_Law_law_161 : decode b_Law_law 161 = .ok (.invokevirtual 23, 3) := by decide +kernel
theorem d_Law_law_164 : decode b_Law_law 164 = .ok (.aload_n 2, 1) := by decide +kernel
theorem d_Law_law_165 : decode b_Law_law 165 = .ok (.invokevirtual 26, 3) := by decide +kernel
theorem d_Law_law_168 : decode b_Law_law 168 = .ok (.goto 284, 3) := by decide +kernel
theorem d_Law_law_171 : decode b_Law_law 171 = .ok (.aload_n 1, 1) := by decide +kernel
theorem d_Law_law_172 : decode b_Law_law 172 = .ok (.aload_n 0, 1) := by decide +kernel
theorem d_Law_law_173 : decode b_Law_law 173 = .ok (.iload_n 3, 1) := by decide +kernel
theorem d_Law_law_174 : decode b_Law_law 174 = .ok (.iconst 1, 1) := by decide +kernel
theorem d_Law_law_175 : decode b_Law_law 175 = .ok (.iadd, 1) := by decide +kernel
theorem d_Law_law_176 : decode b_Law_law 176 = .ok (.iaload, 1) := by decide +kernel
theorem d_Law_law_177 : decode b_Law_law 177 = .ok (.aload_n 0, 1) := by decide +kernel
theorem d_Law_law_178 : decode b_Law_law 178 = .ok (.iload_n 3, 1) := by decide +kernel
theorem d_Law_law_179 : decode b_Law_law 179 = .ok (.iconst 2, 1) := by decide +kernel
theorem d_Law_law_180 : decode b_Law_law 180 = .ok (.iadd, 1) := by decide +kernel
theorem d_Law_law_181 : decode b_Law_law 181 = .ok (.iaload, 1) := by decide +kernel
theorem d_Law_law_182 : decode b_Law_law 182 = .ok (.invokevirtual 27, 3) := by decide +kernel
theorem d_Law_law_185 : decode b_Law_law 185 = .ok (.aload_n 2, 1) := by decide +kernel
theorem d_Law_law_186 : decode b_Law_law 186 = .ok (.aload_n 0, 1) := by decide +kernel
theorem d_Law_law_187 : decode b_Law_law 187 = .ok (.iload_n 3, 1) := by decide +kernel
theorem d_Law_law_188 : decode b_Law_law 188 = .ok (.iconst 1, 1) := by decide +kernel
theorem d_Law_law_189 : decode b_Law_law 189 = .ok (.iadd, 1) := by decide +kernel
theorem d_Law_law_190 : decode b_Law_law 190 = .ok (.iaload, 1) := by decide +kernel
theorem d_Law_law_191 : decode b_Law_law 191 = .ok (.aload_n 0, 1) := by decide +kernel
theorem d_Law_law_192 : decode b_Law_law 192 = .ok (.iload_n 3, 1) := by decide +kernel
theorem d_Law_law_193 : decode b_Law_law 193 = .ok (.iconst 2, 1) := by decide +kernel
theorem d_Law_law_194 : decode b_Law_law 194 = .ok (.iadd, 1) := by decide +kernel
theorem d_Law_law_195 : decode b_Law_law 195 = .ok (.iaload, 1) := by decide +kernel
theorem d_Law_law_196 : decode b_Law_law 196 = .ok (.invokevirtual 31, 3) := by decide +kernel
theorem d_Law_law_199 : decode b_Law_law 199 = .ok (.if_icmp .eq 253, 3) := by decide +kernel
theorem d_Law_law_202 : decode b_Law_law 202 = .ok (.iconst 0, 1) := by decide +kernel
theorem d_Law_law_203 : decode b_Law_law 203 = .ok (.ireturn, 1) := by decide +kernel
theorem d_Law_law_204 : decode b_Law_law 204 = .ok (.aload_n 1, 1) := by decide +kernel
theorem d_Law_law_205 : decode b_Law_law 205 = .ok (.invokevirtual 32, 3) := by decide +kernel
theorem d_Law_law_208 : decode b_Law_law 208 = .ok (.aload_n 2, 1) := by decide +kernel
theorem d_Law_law_209 : decode b_Law_law 209 = .ok (.invokevirtual 36, 3) := by decide +kernel
theorem d_Law_law_212 : decode b_Law_law 212 = .ok (.if_icmp .eq 240, 3) := by decide +kernel
theorem d_Law_law_215 : decode b_Law_law 215 = .ok (.iconst 0, 1) := by decide +kernel
theorem d_Law_law_216 : decode b_Law_law 216 = .ok (.ireturn, 1) := by decide +kernel
theorem d_Law_law_217 : decode b_Law_law 217 = .ok (.aload_n 1, 1) := by decide +kernel
theorem d_Law_law_218 : decode b_Law_law 218 = .ok (.invokevirtual 37, 3) := by decide +kernel
theorem d_Law_law_221 : decode b_Law_law 221 = .ok (.aload_n 2, 1) := by decide +kernel
theorem d_Law_law_222 : decode b_Law_law 222 = .ok (.invokevirtual 40, 3) := by decide +kernel
theorem d_Law_law_225 : decode b_Law_law 225 = .ok (.goto 227, 3) := by decide +kernel
theorem d_Law_law_228 : decode b_Law_law 228 = .ok (.aload_n 1, 1) := by decide +kernel
theorem d_Law_law_229 : decode b_Law_law 229 = .ok (.aload_n 0, 1) := by decide +kernel
theorem d_Law_law_230 : decode b_Law_law 230 = .ok (.iload_n 3, 1) := by decide +kernel
theorem d_Law_law_231 : decode b_Law_law 231 = .ok (.iconst 1, 1) := by decide +kernel
theorem d_Law_law_232 : decode b_Law_law 232 = .ok (.iadd, 1) := by decide +kernel
theorem d_Law_law_233 : decode b_Law_law 233 = .ok (.iaload, 1) := by decide +kernel
theorem d_Law_law_234 : decode b_Law_law 234 = .ok (.aload_n 0, 1) := by decide +kernel
theorem d_Law_law_235 : decode b_Law_law 235 = .ok (.iload_n 3, 1) := by decide +kernel
theorem d_Law_law_236 : decode b_Law_law 236 = .ok (.iconst 2, 1) := by decide +kernel
theorem d_Law_law_237 : decode b_Law_law 237 = .ok (.iadd, 1) := by decide +kernel
theorem d_Law_law_238 : decode b_Law_law 238 = .ok (.iaload, 1) := by decide +kernel
theorem d_Law_law_239 : decode b_Law_law 239 = .ok (.invokevirtual 41, 3) := by decide +kernel
theorem d_Law_law_242 : decode b_Law_law 242 = .ok (.aload_n 2, 1) := by decide +kernel
theorem d_Law_law_243 : decode b_Law_law 243 = .ok (.aload_n 0, 1) := by decide +kernel
theorem d_Law_law_244 : decode b_Law_law 244 = .ok (.iload_n 3, 1) := by decide +kernel
theorem d_Law_law_245 : decode b_Law_law 245 = .ok (.iconst 1, 1) := by decide +kernel
theorem d_Law_law_246 : decode b_Law_law 246 = .ok (.iadd, 1) := by decide +kernel
theorem d_Law_law_247 : decode b_Law_law 247 = .ok (.iaload, 1) := by decide +kernel
theorem d_Law_law_248 : decode b_Law_law 248 = .ok (.aload_n 0, 1) := by decide +kernel
theorem d_Law_law_249 : decode b_Law_law 249 = .ok (.iload_n 3, 1) := by decide +kernel
theorem d_Law_law_250 : decode b_Law_law 250 = .ok (.iconst 2, 1) := by decide +kernel
theorem d_Law_law_251 : decode b_Law_law 251 = .ok (.iadd, 1) := by decide +kernel
theorem d_Law_law_252 : decode b_Law_law 252 = .ok (.iaload, 1) := by decide +kernel
theorem d_Law_law_253 : decode b_Law_law 253 = .ok (.invokevirtual 44, 3) := by decide +kernel
theorem d_Law_law_256 : decode b_Law_law 256 = .ok (.if_icmp .eq 196, 3) := by decide +kernel
theorem d_Law_law_259 : decode b_Law_law 259 = .ok (.iconst 0, 1) := by decide +kernel
theorem d_Law_law_260 : decode b_Law_law 260 = .ok (.ireturn, 1) := by decide +kernel
theorem d_Law_law_261 : decode b_Law_law 261 = .ok (.aload_n 1, 1) := by decide +kernel
theorem d_Law_law_262 : decode b_Law_law 262 = .ok (.aload_n 0, 1) := by decide +kernel
theorem d_Law_law_263 : decode b_Law_law 263 = .ok (.iload_n 3, 1) := by decide +kernel
theorem d_Law_law_264 : decode b_Law_law 264 = .ok (.iconst 1, 1) := by decide +kernel
theorem d_Law_law_265 : decode b_Law_law 265 = .ok (.iadd, 1) := by decide +kernel
theorem d_Law_law_266 : decode b_Law_law 266 = .ok (.iaload, 1) := by decide +kernel
theorem d_Law_law_267 : decode b_Law_law 267 = .ok (.invokevirtual 45, 3) := by decide +kernel
theorem d_Law_law_270 : decode b_Law_law 270 = .ok (.aload_n 2, 1) := by decide +kernel
theorem d_Law_law_271 : decode b_Law_law 271 = .ok (.aload_n 0, 1) := by decide +kernel
theorem d_Law_law_272 : decode b_Law_law 272 = .ok (.iload_n 3, 1) := by decide +kernel
theorem d_Law_law_273 : decode b_Law_law 273 = .ok (.iconst 1, 1) := by decide +kernel
theorem d_Law_law_274 : decode b_Law_law 274 = .ok (.iadd, 1) := by decide +kernel
theorem d_Law_law_275 : decode b_Law_law 275 = .ok (.iaload, 1) := by decide +kernel
theorem d_Law_law_276 : decode b_Law_law 276 = .ok (.invokevirtual 49, 3) := by decide +kernel
theorem d_Law_law_279 : decode b_Law_law 279 = .ok (.if_icmp .eq 173, 3) := by decide +kernel
theorem d_Law_law_282 : decode b_Law_law 282 = .ok (.iconst 0, 1) := by decide +kernel
theorem d_Law_law_283 : decode b_Law_law 283 = .ok (.ireturn, 1) := by decide +kernel
theorem d_Law_law_284 : decode b_Law_law 284 = .ok (.aload_n 1, 1) := by decide +kernel
theorem d_Law_law_285 : decode b_Law_law 285 = .ok (.invokevirtual 50, 3) := by decide +kernel
theorem d_Law_law_288 : decode b_Law_law 288 = .ok (.aload_n 2, 1) := by decide +kernel
theorem d_Law_law_289 : decode b_Law_law 289 = .ok (.invokevirtual 53, 3) := by decide +kernel
theorem d_Law_law_292 : decode b_Law_law 292 = .ok (.if_icmp .eq 160, 3) := by decide +kernel
theorem d_Law_law_295 : decode b_Law_law 295 = .ok (.iconst 0, 1) := by decide +kernel
theorem d_Law_law_296 : decode b_Law_law 296 = .ok (.ireturn, 1) := by decide +kernel
theorem d_Law_law_297 : decode b_Law_law 297 = .ok (.aload_n 1, 1) := by decide +kernel
theorem d_Law_law_298 : decode b_Law_law 298 = .ok (.aload_n 0, 1) := by decide +kernel
theorem d_Law_law_299 : decode b_Law_law 299 = .ok (.iload_n 3, 1) := by decide +kernel
theorem d_Law_law_300 : decode b_Law_law 300 = .ok (.iconst 1, 1) := by decide +kernel
theorem d_Law_law_301 : decode b_Law_law 301 = .ok (.iadd, 1) := by decide +kernel
theorem d_Law_law_302 : decode b_Law_law 302 = .ok (.iaload, 1) := by decide +kernel
theorem d_Law_law_303 : decode b_Law_law 303 = .ok (.aload_n 0, 1) := by decide +kernel
theorem d_Law_law_304 : decode b_Law_law 304 = .ok (.iload_n 3, 1) := by decide +kernel
theorem d_Law_law_305 : decode b_Law_law 305 = .ok (.iconst 2, 1) := by decide +kernel
theorem d_Law_law_306 : decode b_Law_law 306 = .ok (.iadd, 1) := by decide +kernel
theorem d_Law_law_307 : decode b_Law_law 307 = .ok (.iaload, 1) := by decide +kernel
theorem d_Law_law_308 : decode b_Law_law 308 = .ok (.aload_n 0, 1) := by decide +kernel
theorem d_Law_law_309 : decode b_Law_law 309 = .ok (.iload_n 3, 1) := by decide +kernel
theorem d_Law_law_310 : decode b_Law_law 310 = .ok (.iconst 3, 1) := by decide +kernel
theorem d_Law_law_311 : decode b_Law_law 311 = .ok (.iadd, 1) := by decide +kernel
theorem d_Law_law_312 : decode b_Law_law 312 = .ok (.iaload, 1) := by decide +kernel
theorem d_Law_law_313 : decode b_Law_law 313 = .ok (.invokevirtual 54, 3) := by decide +kernel
theorem d_Law_law_316 : decode b_Law_law 316 = .ok (.aload_n 2, 1) := by decide +kernel
theorem d_Law_law_317 : decode b_Law_law 317 = .ok (.aload_n 0, 1) := by decide +kernel
theorem d_Law_law_318 : decode b_Law_law 318 = .ok (.iload_n 3, 1) := by decide +kernel
theorem d_Law_law_319 : decode b_Law_law 319 = .ok (.iconst 1, 1) := by decide +kernel
theorem d_Law_law_320 : decode b_Law_law 320 = .ok (.iadd, 1) := by decide +kernel
theorem d_Law_law_321 : decode b_Law_law 321 = .ok (.iaload, 1) := by decide +kernel
theorem d_Law_law_322 : decode b_Law_law 322 = .ok (.aload_n 0, 1) := by decide +kernel
theorem d_Law_law_323 : decode b_Law_law 323 = .ok (.iload_n 3, 1) := by decide +kernel
theorem d_Law_law_324 : decode b_Law_law 324 = .ok (.iconst 2, 1) := by decide +kernel
theorem d_Law_law_325 : decode b_Law_law 325 = .ok (.iadd, 1) := by decide +kernel
theorem d_Law_law_326 : decode b_Law_law 326 = .ok (.iaload, 1) := by decide +kernel
theorem d_Law_law_327 : decode b_Law_law 327 = .ok (.aload_n 0, 1) := by decide +kernel
theorem d_Law_law_328 : decode b_Law_law 328 = .ok (.iload_n 3, 1) := by decide +kernel
theorem d_Law_law_329 : decode b_Law_law 329 = .ok (.iconst 3, 1) := by decide +kernel
theorem d_Law_law_330 : decode b_Law_law 330 = .ok (.iadd, 1) := by decide +kernel
theorem d_Law_law_331 : decode b_Law_law 331 = .ok (.iaload, 1) := by decide +kernel
theorem d_Law_law_332 : decode b_Law_law 332 = .ok (.invokevirtual 58, 3) := by decide +kernel
theorem d_Law_law_335 : decode b_Law_law 335 = .ok (.if_icmp .eq 117, 3) := by decide +kernel
theorem d_Law_law_338 : decode b_Law_law 338 = .ok (.iconst 0, 1) := by decide +kernel
theorem d_Law_law_339 : decode b_Law_law 339 = .ok (.ireturn, 1) := by decide +kernel
theorem d_Law_law_340 : decode b_Law_law 340 = .ok (.aload_n 1, 1) := by decide +kernel
theorem d_Law_law_341 : decode b_Law_law 341 = .ok (.invokevirtual 59, 3) := by decide +kernel
theorem d_Law_law_344 : decode b_Law_law 344 = .ok (.aload_n 2, 1) := by decide +kernel
theorem d_Law_law_345 : decode b_Law_law 345 = .ok (.invokevirtual 62, 3) := by decide +kernel
theorem d_Law_law_348 : decode b_Law_law 348 = .ok (.if_icmp .eq 104, 3) := by decide +kernel
theorem d_Law_law_351 : decode b_Law_law 351 = .ok (.iconst 0, 1) := by decide +kernel
theorem d_Law_law_352 : decode b_Law_law 352 = .ok (.ireturn, 1) := by decide +kernel
theorem d_Law_law_353 : decode b_Law_law 353 = .ok (.aload_n 1, 1) := by decide +kernel
theorem d_Law_law_354 : decode b_Law_law 354 = .ok (.aload_n 0, 1) := by decide +kernel
theorem d_Law_law_355 : decode b_Law_law 355 = .ok (.iload_n 3, 1) := by decide +kernel
theorem d_Law_law_356 : decode b_Law_law 356 = .ok (.iconst 1, 1) := by decide +kernel
theorem d_Law_law_357 : decode b_Law_law 357 = .ok (.iadd, 1) := by decide +kernel
theorem d_Law_law_358 : decode b_Law_law 358 = .ok (.iaload, 1) := by decide +kernel
theorem d_Law_law_359 : decode b_Law_law 359 = .ok (.aload_n 0, 1) := by decide +kernel
theorem d_Law_law_360 : decode b_Law_law 360 = .ok (.iload_n 3, 1) := by decide +kernel
theorem d_Law_law_361 : decode b_Law_law 361 = .ok (.iconst 2, 1) := by decide +kernel
theorem d_Law_law_362 : decode b_Law_law 362 = .ok (.iadd, 1) := by decide +kernel
theorem d_Law_law_363 : decode b_Law_law 363 = .ok (.iaload, 1) := by decide +kernel
theorem d_Law_law_364 : decode b_Law_law 364 = .ok (.invokevirtual 63, 3) := by decide +kernel
theorem d_Law_law_367 : decode b_Law_law 367 = .ok (.aload_n 2, 1) := by decide +kernel
theorem d_Law_law_368 : decode b_Law_law 368 = .ok (.aload_n 0, 1) := by decide +kernel
theorem d_Law_law_369 : decode b_Law_law 369 = .ok (.iload_n 3, 1) := by decide +kernel
theorem d_Law_law_370 : decode b_Law_law 370 = .ok (.iconst 1, 1) := by decide +kernel
theorem d_Law_law_371 : decode b_Law_law 371 = .ok (.iadd, 1) := by decide +kernel
theorem d_Law_law_372 : decode b_Law_law 372 = .ok (.iaload, 1) := by decide +kernel
theorem d_Law_law_373 : decode b_Law_law 373 = .ok (.aload_n 0, 1) := by decide +kernel
theorem d_Law_law_374 : decode b_Law_law 374 = .ok (.iload_n 3, 1) := by decide +kernel
theorem d_Law_law_375 : decode b_Law_law 375 = .ok (.iconst 2, 1) := by decide +kernel
theorem d_Law_law_376 : decode b_Law_law 376 = .ok (.iadd, 1) := by decide +kernel
theorem d_Law_law_377 : decode b_Law_law 377 = .ok (.iaload, 1) := by decide +kernel
theorem d_Law_law_378 : decode b_Law_law 378 = .ok (.invokevirtual 66, 3) := by decide +kernel
theorem d_Law_law_381 : decode b_Law_law 381 = .ok (.if_icmp .eq 71, 3) := by decide +kernel
theorem d_Law_law_384 : decode b_Law_law 384 = .ok (.iconst 0, 1) := by decide +kernel
theorem d_Law_law_385 : decode b_Law_law 385 = .ok (.ireturn, 1) := by decide +kernel
theorem d_Law_law_386 : decode b_Law_law 386 = .ok (.aload_n 1, 1) := by decide +kernel
theorem d_Law_law_387 : decode b_Law_law 387 = .ok (.aload_n 0, 1) := by decide +kernel
theorem d_Law_law_388 : decode b_Law_law 388 = .ok (.iload_n 3, 1) := by decide +kernel
theorem d_Law_law_389 : decode b_Law_law 389 = .ok (.iconst 1, 1) := by decide +kernel
theorem d_Law_law_390 : decode b_Law_law 390 = .ok (.iadd, 1) := by decide +kernel
theorem d_Law_law_391 : decode b_Law_law 391 = .ok (.iaload, 1) := by decide +kernel
theorem d_Law_law_392 : decode b_Law_law 392 = .ok (.aload_n 0, 1) := by decide +kernel
theorem d_Law_law_393 : decode b_Law_law 393 = .ok (.iload_n 3, 1) := by decide +kernel
theorem d_Law_law_394 : decode b_Law_law 394 = .ok (.iconst 2, 1) := by decide +kernel
theorem d_Law_law_395 : decode b_Law_law 395 = .ok (.iadd, 1) := by decide +kernel
theorem d_Law_law_396 : decode b_Law_law 396 = .ok (.iaload, 1) := by decide +kernel
theorem d_Law_law_397 : decode b_Law_law 397 = .ok (.invokevirtual 67, 3) := by decide +kernel
theorem d_Law_law_400 : decode b_Law_law 400 = .ok (.aload_n 2, 1) := by decide +kernel
theorem d_Law_law_401 : decode b_Law_law 401 = .ok (.aload_n 0, 1) := by decide +kernel
theorem d_Law_law_402 : decode b_Law_law 402 = .ok (.iload_n 3, 1) := by decide +kernel
theorem d_Law_law_403 : decode b_Law_law 403 = .ok (.iconst 1, 1) := by decide +kernel
theorem d_Law_law_404 : decode b_Law_law 404 = .ok (.iadd, 1) := by decide +kernel
theorem d_Law_law_405 : decode b_Law_law 405 = .ok (.iaload, 1) := by decide +kernel
theorem d_Law_law_406 : decode b_Law_law 406 = .ok (.aload_n 0, 1) := by decide +kernel
theorem d_Law_law_407 : decode b_Law_law 407 = .ok (.iload_n 3, 1) := by decide +kernel
theorem d_Law_law_408 : decode b_Law_law 408 = .ok (.iconst 2, 1) := by decide +kernel
theorem d_Law_law_409 : decode b_Law_law 409 = .ok (.iadd, 1) := by decide +kernel
theorem d_Law_law_410 : decode b_Law_law 410 = .ok (.iaload, 1) := by decide +kernel
theorem d_Law_law_411 : decode b_Law_law 411 = .ok (.invokevirtual 70, 3) := by decide +kernel
theorem d_Law_law_414 : decode b_Law_law 414 = .ok (.if_icmp .eq 38, 3) := by decide +kernel
theorem d_Law_law_417 : decode b_Law_law 417 = .ok (.iconst 0, 1) := by decide +kernel
theorem d_Law_law_418 : decode b_Law_law 418 = .ok (.ireturn, 1) := by decide +kernel
theorem d_Law_law_419 : decode b_Law_law 419 = .ok (.aload_n 1, 1) := by decide +kernel
theorem d_Law_law_420 : decode b_Law_law 420 = .ok (.aload_n 0, 1) := by decide +kernel
theorem d_Law_law_421 : decode b_Law_law 421 = .ok (.iload_n 3, 1) := by decide +kernel
theorem d_Law_law_422 : decode b_Law_law 422 = .ok (.iconst 1, 1) := by decide +kernel
theorem d_Law_law_423 : decode b_Law_law 423 = .ok (.iadd, 1) := by decide +kernel
theorem d_Law_law_424 : decode b_Law_law 424 = .ok (.iaload, 1) := by decide +kernel
theorem d_Law_law_425 : decode b_Law_law 425 = .ok (.aload_n 0, 1) := by decide +kernel
theorem d_Law_law_426 : decode b_Law_law 426 = .ok (.iload_n 3, 1) := by decide +kernel
theorem d_Law_law_427 : decode b_Law_law 427 = .ok (.iconst 2, 1) := by decide +kernel
theorem d_Law_law_428 : decode b_Law_law 428 = .ok (.iadd, 1) := by decide +kernel
theorem d_Law_law_429 : decode b_Law_law 429 = .ok (.iaload, 1) := by decide +kernel
theorem d_Law_law_430 : decode b_Law_law 430 = .ok (.invokevirtual 71, 3) := by decide +kernel
theorem d_Law_law_433 : decode b_Law_law 433 = .ok (.aload_n 2, 1) := by decide +kernel
theorem d_Law_law_434 : decode b_Law_law 434 = .ok (.aload_n 0, 1) := by decide +kernel
theorem d_Law_law_435 : decode b_Law_law 435 = .ok (.iload_n 3, 1) := by decide +kernel
theorem d_Law_law_436 : decode b_Law_law 436 = .ok (.iconst 1, 1) := by decide +kernel
theorem d_Law_law_437 : decode b_Law_law 437 = .ok (.iadd, 1) := by decide +kernel
theorem d_Law_law_438 : decode b_Law_law 438 = .ok (.iaload, 1) := by decide +kernel
theorem d_Law_law_439 : decode b_Law_law 439 = .ok (.aload_n 0, 1) := by decide +kernel
theorem d_Law_law_440 : decode b_Law_law 440 = .ok (.iload_n 3, 1) := by decide +kernel
theorem d_Law_law_441 : decode b_Law_law 441 = .ok (.iconst 2, 1) := by decide +kernel
theorem d_Law_law_442 : decode b_Law_law 442 = .ok (.iadd, 1) := by decide +kernel
theorem d_Law_law_443 : decode b_Law_law 443 = .ok (.iaload, 1) := by decide +kernel
theorem d_Law_law_444 : decode b_Law_law 444 = .ok (.invokevirtual 74, 3) := by decide +kernel
theorem d_Law_law_447 : decode b_Law_law 447 = .ok (.if_icmp .eq 5, 3) := by decide +kernel
theorem d_Law_law_450 : decode b_Law_law 450 = .ok (.iconst 0, 1) := by decide +kernel
theorem d_Law_law_451 : decode b_Law_law 451 = .ok (.ireturn, 1) := by decide +kernel
theorem d_Law_law_452 : decode b_Law_law 452 = .ok (.iinc 3 4, 3) := by decide +kernel
theorem d_Law_law_455 : decode b_Law_law 455 = .ok (.goto (-437), 3) := by decide +kernel
theorem d_Law_law_458 : decode b_Law_law 458 = .ok (.iconst 1, 1) := by decide +kernel
theorem d_Law_law_459 : decode b_Law_law 459 = .ok (.ireturn, 1) := by decide +kernel
end
section
/-! base: ints as mathematical integers, rows over them, the shape of every contract, calls -/
-- ints
def iI (a : Int) : Int32 := Int32.ofInt a
theorem iI_ti {a : Int} (h : -2147483648 ≤ a ∧ a < 2147483648) : (iI a).toInt = a := Int32.toInt_ofInt_of_le (by omega) (by omega)
theorem iI_of (x : Int32) : x = iI x.toInt := (Int32.ofInt_toInt x).symm
theorem iI_rg (x : Int32) : -2147483648 ≤ x.toInt ∧ x.toInt < 2147483648 := by
  have h1 := Int32.le_toInt x
  have h2 := Int32.toInt_lt x
  omega
theorem iI_add (a b : Int) : iI a + iI b = iI (a + b) := (Int32.ofInt_add a b).symm
theorem iI_sub (a b : Int) : iI a - iI b = iI (a - b) := (Int32.ofInt_sub a b).symm
theorem iI_mul (a b : Int) : iI a * iI b = iI (a * b) := (Int32.ofInt_mul a b).symm
theorem iI_lt {a b : Int} (ha : -2147483648 ≤ a ∧ a < 2147483648) (hb : -2147483648 ≤ b ∧ b < 2147483648) : iI a < iI b ↔ a < b := by rw [Int32.lt_iff_toInt_lt, iI_ti ha, iI_ti hb]
theorem iI_le {a b : Int} (ha : -2147483648 ≤ a ∧ a < 2147483648) (hb : -2147483648 ≤ b ∧ b < 2147483648) : iI a ≤ iI b ↔ a ≤ b := by rw [Int32.le_iff_toInt_le, iI_ti ha, iI_ti hb]
theorem iI_eq {a b : Int} (ha : -2147483648 ≤ a ∧ a < 2147483648) (hb : -2147483648 ≤ b ∧ b < 2147483648) : iI a = iI b ↔ a = b := by rw [← Int32.toInt_inj, iI_ti ha, iI_ti hb]
theorem iI_0 : (0 : Int32) = iI 0 := by decide
theorem iI_div {a b : Int} (ha : 0 ≤ a ∧ a < 2147483648) (hb : 0 < b ∧ b < 2147483648) : iI a / iI b = iI (a / b) := by
  have h1 : Int32.minValue.toInt = -2147483648 := by decide
  have h2 : Int32.maxValue.toInt = 2147483647 := by decide
  rw [← Int.tdiv_eq_ediv_of_nonneg ha.1]
  exact (Int32.ofInt_tdiv (by omega) (by omega) (by omega) (by omega)).symm
theorem iI_rem {a b : Int} (ha : 0 ≤ a ∧ a < 2147483648) (hb : 0 < b ∧ b < 2147483648) : iI a - iI a / iI b * iI b = iI (a % b) := by
  rw [iI_div ha hb, iI_mul, iI_sub, Int.emod_def, Int.mul_comm b]
theorem iI_cl {a : Int} {j : Nat} (hj : a = j) (h : j < 2147483648) : (iI a).toNatClampNeg = j := by
  rw [← Int32.toNat_toInt, iI_ti (by omega)]
  omega
theorem iI_in {a : Int} {j n : Nat} (hj : a = j) (h : j < n) (hn : n ≤ 2147483647) : vp_in (iI a) n := by
  rw [vp_in_iff, iI_ti (by omega)]
  omega
theorem iI_ne0 {b : Int} (hb : 0 < b ∧ b < 2147483648) : ¬ iI b = 0 := fun h => by
  rw [iI_0, iI_eq (by omega) (by omega)] at h
  omega
/-- truth values -/
def bI (b : Bool) : Int := if b then 1 else 0
theorem bI_rg (b : Bool) : 0 ≤ bI b ∧ bI b ≤ 1 := by cases b <;> decide
theorem bI_nar (b : Bool) : narrow .boolean (.int (iI (bI b))) = .int (iI (bI b)) := by cases b <;> decide +kernel
theorem iI_nar0 : narrow .boolean (.int (iI 0)) = .int (iI 0) := by decide +kernel
theorem iI_nar1 : narrow .boolean (.int (iI 1)) = .int (iI 1) := by decide +kernel
theorem nar01 {r : Int} (h : r = 0 ∨ r = 1) : narrow .boolean (.int (iI r)) = .int (iI r) := by
  rcases h with rfl | rfl
  · exact iI_nar0
  · exact iI_nar1
-- arrays of ints
def bU (F : Nat → Int) (k : Nat) (v : Int) : Nat → Int := fun j => if j = k then v else F j
theorem bU_s {F : Nat → Int} {k : Nat} {v : Int} : bU F k v k = v := if_pos rfl
theorem bU_n {F : Nat → Int} {k j : Nat} {v : Int} (h : j ≠ k) : bU F k v j = F j := if_neg h
theorem bU_upd (F : Nat → Int) (k : Nat) (v : Int) : upd (fun j => iI (F j)) k (iI v) = fun j => iI (bU F k v j) := by
  funext j
  by_cases h : j = k
  · subst h
    simp [upd, bU]
  · simp [upd, bU, h]
abbrev ar (cA : ClassId) (n : Nat) (F : Nat → Int) : va_E := .inl (cA, n, .inl (fun j => iI (F j)))
/-- an array of references -/
abbrev aq (cA : ClassId) (n : Nat) (f : Nat → Option Nat) : va_E := .inl (cA, n, .inr (.inr (.inr (.inr f))))
section BKR
variable {p : Program} {l : Launch} {e : Env} {R : Room} {s : State} {m : MethodId} {args : Array Value} {below : List Frame} {meth : Method} {c : Code} {H : Heap} {locs : List Loc} {cells slots : Nat} {Q : State → Prop}
variable {cc : ByteArray} {pc : Nat} {ls : Array Slot} {rest : List Value} {D : va_G} {cl : List vw_C} {A : Nat → Prop} {q : Nat} {tys : List (ClassId × FieldType)} {ws : va_W} {H0 : Heap} {a b off : Int} {tgt : Nat}
theorem bk_top {x y : Int32} (h : x = y) (k : W p l e R s m args below meth c H locs cells slots Q (F0 m pc ls (.int y :: rest))) : W p l e R s m args below meth c H locs cells slots Q (F0 m pc ls (.int x :: rest)) := by
  rw [h]
  exact k
theorem bk_add (hx : p.tables.exec = Jvm.exec) (hb : c.code = cc) (hdg : decode cc pc = .ok (.iadd, 1)) (k : W p l e R s m args below meth c H locs cells slots Q (F0 m (pc + 1) ls (.int (iI (a + b)) :: rest))) : W p l e R s m args below meth c H locs cells slots Q (F0 m pc ls (.int (iI b) :: .int (iI a) :: rest)) := lv_iadd hx hb hdg (bk_top (iI_add a b) k)
theorem bk_sub (hx : p.tables.exec = Jvm.exec) (hb : c.code = cc) (hdg : decode cc pc = .ok (.isub, 1)) (k : W p l e R s m args below meth c H locs cells slots Q (F0 m (pc + 1) ls (.int (iI (a - b)) :: rest))) : W p l e R s m args below meth c H locs cells slots Q (F0 m pc ls (.int (iI b) :: .int (iI a) :: rest)) := lv_isub hx hb hdg (bk_top (iI_sub a b) k)
theorem bk_mul (hx : p.tables.exec = Jvm.exec) (hb : c.code = cc) (hdg : decode cc pc = .ok (.imul, 1)) (k : W p l e R s m args below meth c H locs cells slots Q (F0 m (pc + 1) ls (.int (iI (a * b)) :: rest))) : W p l e R s m args below meth c H locs cells slots Q (F0 m pc ls (.int (iI b) :: .int (iI a) :: rest)) := lv_imul hx hb hdg (bk_top (iI_mul a b) k)
theorem bk_div (hx : p.tables.exec = Jvm.exec) (hb : c.code = cc) (hdg : decode cc pc = .ok (.idiv, 1)) (h1 : 0 ≤ a ∧ a < 2147483648) (h2 : 0 < b ∧ b < 2147483648) (k : W p l e R s m args below meth c H locs cells slots Q (F0 m (pc + 1) ls (.int (iI (a / b)) :: rest))) : W p l e R s m args below meth c H locs cells slots Q (F0 m pc ls (.int (iI b) :: .int (iI a) :: rest)) := lv_idiv hx hb hdg (iI_ne0 h2) (bk_top (iI_div h1 h2) k)
theorem bk_rem (hx : p.tables.exec = Jvm.exec) (hb : c.code = cc) (hdg : decode cc pc = .ok (.irem, 1)) (h1 : 0 ≤ a ∧ a < 2147483648) (h2 : 0 < b ∧ b < 2147483648) (k : W p l e R s m args below meth c H locs cells slots Q (F0 m (pc + 1) ls (.int (iI (a % b)) :: rest))) : W p l e R s m args below meth c H locs cells slots Q (F0 m pc ls (.int (iI b) :: .int (iI a) :: rest)) := lv_irem hx hb hdg (iI_ne0 h2) (bk_top (iI_rem h1 h2) k)
theorem bk_icmp_lt (hx : p.tables.exec = Jvm.exec) (hb : c.code = cc) (hdg : decode cc pc = .ok (.if_icmp .lt off, 3)) (ht : (pc : Int) + off = (tgt : Int)) (h1 : -2147483648 ≤ a ∧ a < 2147483648) (h2 : -2147483648 ≤ b ∧ b < 2147483648) (kt : a < b → W p l e R s m args below meth c H locs cells slots Q (F0 m tgt ls rest)) (kf : b ≤ a → W p l e R s m args below meth c H locs cells slots Q (F0 m (pc + 3) ls rest)) : W p l e R s m args below meth c H locs cells slots Q (F0 m pc ls (.int (iI b) :: .int (iI a) :: rest)) := lv_icmp_lt hx hb hdg ht (fun h => kt ((iI_lt h1 h2).mp h)) (fun h => kf (Int.not_lt.mp fun q => h ((iI_lt h1 h2).mpr q)))
theorem bk_icmp_ge (hx : p.tables.exec = Jvm.exec) (hb : c.code = cc) (hdg : decode cc pc = .ok (.if_icmp .ge off, 3)) (ht : (pc : Int) + off = (tgt : Int)) (h1 : -2147483648 ≤ a ∧ a < 2147483648) (h2 : -2147483648 ≤ b ∧ b < 2147483648) (kt : b ≤ a → W p l e R s m args below meth c H locs cells slots Q (F0 m tgt ls rest)) (kf : a < b → W p l e R s m args below meth c H locs cells slots Q (F0 m (pc + 3) ls rest)) : W p l e R s m args below meth c H locs cells slots Q (F0 m pc ls (.int (iI b) :: .int (iI a) :: rest)) := lv_icmp_ge hx hb hdg ht (fun h => kt ((iI_le h2 h1).mp h)) (fun h => kf (Int.not_le.mp fun q => h ((iI_le h2 h1).mpr q)))
theorem bk_icmp_gt (hx : p.tables.exec = Jvm.exec) (hb : c.code = cc) (hdg : decode cc pc = .ok (.if_icmp .gt off, 3)) (ht : (pc : Int) + off = (tgt : Int)) (h1 : -2147483648 ≤ a ∧ a < 2147483648) (h2 : -2147483648 ≤ b ∧ b < 2147483648) (kt : b < a → W p l e R s m args below meth c H locs cells slots Q (F0 m tgt ls rest)) (kf : a ≤ b → W p l e R s m args below meth c H locs cells slots Q (F0 m (pc + 3) ls rest)) : W p l e R s m args below meth c H locs cells slots Q (F0 m pc ls (.int (iI b) :: .int (iI a) :: rest)) := lv_icmp_gt hx hb hdg ht (fun h => kt ((iI_lt h2 h1).mp h)) (fun h => kf (Int.not_lt.mp fun q => h ((iI_lt h2 h1).mpr q)))
theorem bk_icmp_le (hx : p.tables.exec = Jvm.exec) (hb : c.code = cc) (hdg : decode cc pc = .ok (.if_icmp .le off, 3)) (ht : (pc : Int) + off = (tgt : Int)) (h1 : -2147483648 ≤ a ∧ a < 2147483648) (h2 : -2147483648 ≤ b ∧ b < 2147483648) (kt : a ≤ b → W p l e R s m args below meth c H locs cells slots Q (F0 m tgt ls rest)) (kf : b < a → W p l e R s m args below meth c H locs cells slots Q (F0 m (pc + 3) ls rest)) : W p l e R s m args below meth c H locs cells slots Q (F0 m pc ls (.int (iI b) :: .int (iI a) :: rest)) := lv_icmp_le hx hb hdg ht (fun h => kt ((iI_le h1 h2).mp h)) (fun h => kf (Int.not_le.mp fun q => h ((iI_le h1 h2).mpr q)))
theorem bk_icmp_eq (hx : p.tables.exec = Jvm.exec) (hb : c.code = cc) (hdg : decode cc pc = .ok (.if_icmp .eq off, 3)) (ht : (pc : Int) + off = (tgt : Int)) (h1 : -2147483648 ≤ a ∧ a < 2147483648) (h2 : -2147483648 ≤ b ∧ b < 2147483648) (kt : a = b → W p l e R s m args below meth c H locs cells slots Q (F0 m tgt ls rest)) (kf : ¬ a = b → W p l e R s m args below meth c H locs cells slots Q (F0 m (pc + 3) ls rest)) : W p l e R s m args below meth c H locs cells slots Q (F0 m pc ls (.int (iI b) :: .int (iI a) :: rest)) := lv_icmp_eq hx hb hdg ht (fun h => kt ((iI_eq h1 h2).mp h)) (fun h => kf (fun q => h ((iI_eq h1 h2).mpr q)))
theorem bk_icmp_ne (hx : p.tables.exec = Jvm.exec) (hb : c.code = cc) (hdg : decode cc pc = .ok (.if_icmp .ne off, 3)) (ht : (pc : Int) + off = (tgt : Int)) (h1 : -2147483648 ≤ a ∧ a < 2147483648) (h2 : -2147483648 ≤ b ∧ b < 2147483648) (kt : ¬ a = b → W p l e R s m args below meth c H locs cells slots Q (F0 m tgt ls rest)) (kf : a = b → W p l e R s m args below meth c H locs cells slots Q (F0 m (pc + 3) ls rest)) : W p l e R s m args below meth c H locs cells slots Q (F0 m pc ls (.int (iI b) :: .int (iI a) :: rest)) := lv_icmp_ne hx hb hdg ht (fun h => kt (fun q => h ((iI_eq h1 h2).mpr q))) (fun h => kf ((iI_eq h1 h2).mp h))
theorem iI_equ {a b : Int} (ha : 0 ≤ a ∧ a < 4294967296) (hb : 0 ≤ b ∧ b < 4294967296) : iI a = iI b ↔ a = b := by
  refine ⟨fun h => ?_, fun h => by rw [h]⟩
  obtain ⟨n, rfl⟩ := Int.eq_ofNat_of_zero_le ha.1
  obtain ⟨k, rfl⟩ := Int.eq_ofNat_of_zero_le hb.1
  have h1 : Int32.ofNat n = Int32.ofNat k := by rw [← Int32.ofInt_eq_ofNat, ← Int32.ofInt_eq_ofNat]; exact h
  have h2 : (nI n).toBitVec.toNat = (nI k).toBitVec.toNat := congrArg (fun x : Int32 => x.toBitVec.toNat) h1
  rw [pk_tn (by omega), pk_tn (by omega)] at h2
  rw [h2]
theorem bk_icmpU_ne (hx : p.tables.exec = Jvm.exec) (hb : c.code = cc) (hdg : decode cc pc = .ok (.if_icmp .ne off, 3)) (ht : (pc : Int) + off = (tgt : Int)) (h1 : 0 ≤ a ∧ a < 4294967296) (h2 : 0 ≤ b ∧ b < 4294967296) (kt : ¬ a = b → W p l e R s m args below meth c H locs cells slots Q (F0 m tgt ls rest)) (kf : a = b → W p l e R s m args below meth c H locs cells slots Q (F0 m (pc + 3) ls rest)) : W p l e R s m args below meth c H locs cells slots Q (F0 m pc ls (.int (iI b) :: .int (iI a) :: rest)) := lv_icmp_ne hx hb hdg ht (fun h => kt (fun q => h ((iI_equ h1 h2).mpr q))) (fun h => kf ((iI_equ h1 h2).mp h))
theorem bk_if_eq (hx : p.tables.exec = Jvm.exec) (hb : c.code = cc) (hdg : decode cc pc = .ok (.ifCond .eq off, 3)) (ht : (pc : Int) + off = (tgt : Int)) (h1 : -2147483648 ≤ a ∧ a < 2147483648) (kt : a = 0 → W p l e R s m args below meth c H locs cells slots Q (F0 m tgt ls rest)) (kf : ¬ a = 0 → W p l e R s m args below meth c H locs cells slots Q (F0 m (pc + 3) ls rest)) : W p l e R s m args below meth c H locs cells slots Q (F0 m pc ls (.int (iI a) :: rest)) := lv_if_eq hx hb hdg ht (fun h => kt ((iI_eq h1 (by omega)).mp h)) (fun h => kf (fun q => h ((iI_eq (b := 0) h1 (by omega)).mpr q)))
theorem bk_if_ne (hx : p.tables.exec = Jvm.exec) (hb : c.code = cc) (hdg : decode cc pc = .ok (.ifCond .ne off, 3)) (ht : (pc : Int) + off = (tgt : Int)) (h1 : -2147483648 ≤ a ∧ a < 2147483648) (kt : ¬ a = 0 → W p l e R s m args below meth c H locs cells slots Q (F0 m tgt ls rest)) (kf : a = 0 → W p l e R s m args below meth c H locs cells slots Q (F0 m (pc + 3) ls rest)) : W p l e R s m args below meth c H locs cells slots Q (F0 m pc ls (.int (iI a) :: rest)) := lv_if_ne hx hb hdg ht (fun h => kt (fun q => h ((iI_eq (b := 0) h1 (by omega)).mpr q))) (fun h => kf ((iI_eq h1 (by omega)).mp h))
theorem bk_if_lt (hx : p.tables.exec = Jvm.exec) (hb : c.code = cc) (hdg : decode cc pc = .ok (.ifCond .lt off, 3)) (ht : (pc : Int) + off = (tgt : Int)) (h1 : -2147483648 ≤ a ∧ a < 2147483648) (kt : a < 0 → W p l e R s m args below meth c H locs cells slots Q (F0 m tgt ls rest)) (kf : 0 ≤ a → W p l e R s m args below meth c H locs cells slots Q (F0 m (pc + 3) ls rest)) : W p l e R s m args below meth c H locs cells slots Q (F0 m pc ls (.int (iI a) :: rest)) := lv_if_lt hx hb hdg ht (fun h => kt ((iI_lt h1 (by omega)).mp h)) (fun h => kf (Int.not_lt.mp fun q => h ((iI_lt (b := 0) h1 (by omega)).mpr q)))
theorem bk_if_ge (hx : p.tables.exec = Jvm.exec) (hb : c.code = cc) (hdg : decode cc pc = .ok (.ifCond .ge off, 3)) (ht : (pc : Int) + off = (tgt : Int)) (h1 : -2147483648 ≤ a ∧ a < 2147483648) (kt : 0 ≤ a → W p l e R s m args below meth c H locs cells slots Q (F0 m tgt ls rest)) (kf : a < 0 → W p l e R s m args below meth c H locs cells slots Q (F0 m (pc + 3) ls rest)) : W p l e R s m args below meth c H locs cells slots Q (F0 m pc ls (.int (iI a) :: rest)) := lv_if_ge hx hb hdg ht (fun h => kt ((iI_le (by omega) h1).mp h)) (fun h => kf (Int.not_le.mp fun q => h ((iI_le (a := 0) (by omega) h1).mpr q)))
theorem bk_if_gt (hx : p.tables.exec = Jvm.exec) (hb : c.code = cc) (hdg : decode cc pc = .ok (.ifCond .gt off, 3)) (ht : (pc : Int) + off = (tgt : Int)) (h1 : -2147483648 ≤ a ∧ a < 2147483648) (kt : 0 < a → W p l e R s m args below meth c H locs cells slots Q (F0 m tgt ls rest)) (kf : a ≤ 0 → W p l e R s m args below meth c H locs cells slots Q (F0 m (pc + 3) ls rest)) : W p l e R s m args below meth c H locs cells slots Q (F0 m pc ls (.int (iI a) :: rest)) := lv_if_gt hx hb hdg ht (fun h => kt ((iI_lt (by omega) h1).mp h)) (fun h => kf (Int.not_lt.mp fun q => h ((iI_lt (a := 0) (by omega) h1).mpr q)))
theorem bk_if_le (hx : p.tables.exec = Jvm.exec) (hb : c.code = cc) (hdg : decode cc pc = .ok (.ifCond .le off, 3)) (ht : (pc : Int) + off = (tgt : Int)) (h1 : -2147483648 ≤ a ∧ a < 2147483648) (kt : a ≤ 0 → W p l e R s m args below meth c H locs cells slots Q (F0 m tgt ls rest)) (kf : 0 < a → W p l e R s m args below meth c H locs cells slots Q (F0 m (pc + 3) ls rest)) : W p l e R s m args below meth c H locs cells slots Q (F0 m pc ls (.int (iI a) :: rest)) := lv_if_le hx hb hdg ht (fun h => kt ((iI_le h1 (by omega)).mp h)) (fun h => kf (Int.not_le.mp fun q => h ((iI_le (b := 0) h1 (by omega)).mpr q)))
theorem bk_iald (hx : p.tables.exec = Jvm.exec) (hb : c.code = cc) (hK : va_K D cl tys s) (hP : va_P D cl ws H) (q0 t0 : Nat) {cA : ClassId} {n : Nat} {F : Nat → Int} (ha : ws[q0]? = some (q, ar cA n F)) (ht : tys[t0]? = some (cA, .int)) (j : Nat) (hj : a = (j : Int) ∧ j < n) (hn : n ≤ 2147483647) (hdg : decode cc pc = .ok (.iaload, 1))
    (k : W p l e R s m args below meth c H locs cells slots Q (F0 m (pc + 1) ls (.int (iI (F j)) :: rest))) : W p l e R s m args below meth c H locs cells slots Q (F0 m pc ls (.int (iI a) :: .ref q :: rest)) := by
  refine va_iald hx hb hK hP q0 t0 ha ht (iI_in hj.1 hj.2 hn) hdg ?_
  rw [iI_cl hj.1 (by omega)]
  exact k
theorem bk_iast (hx : p.tables.exec = Jvm.exec) (hb : c.code = cc) (hK : va_K D cl tys s) (hP : va_P D cl ws H) (hD : va_D A ws) (hS : va_S A H0 H locs) (q0 t0 : Nat) {cA : ClassId} {n : Nat} {F : Nat → Int} (ha : ws[q0]? = some (q, ar cA n F)) (ht : tys[t0]? = some (cA, .int)) (j : Nat) (hj : a = (j : Int) ∧ j < n) (hn : n ≤ 2147483647) (hdg : decode cc pc = .ok (.iastore, 1))
    (kk : ∀ (H1 : Heap) (locs1 : List Loc), va_P D cl (ws.set q0 (q, ar cA n (bU F j b))) H1 → va_D A (ws.set q0 (q, ar cA n (bU F j b))) → va_S A H0 H1 locs1 → W p l e R s m args below meth c H1 locs1 cells slots Q (F0 m (pc + 1) ls rest)) : W p l e R s m args below meth c H locs cells slots Q (F0 m pc ls (.int (iI b) :: .int (iI a) :: .ref q :: rest)) := by
  refine va_iast hx hb hK hP hD hS q0 t0 ha ht (iI_in hj.1 hj.2 hn) hdg (fun H1 locs1 h1 h2 h3 => ?_)
  rw [iI_cl hj.1 (by omega), bU_upd] at h1 h2
  exact kk H1 locs1 h1 h2 h3
/-- a row of an array of arrays -/
theorem bk_aald (hx : p.tables.exec = Jvm.exec) (hb : c.code = cc) (hK : va_K D cl tys s) (hP : va_P D cl ws H) (q0 t0 : Nat) {cA : ClassId} {ty : FieldType} {n : Nat} {f : Nat → Option Nat} (ha : ws[q0]? = some (q, aq cA n f)) (ht : tys[t0]? = some (cA, .array ty)) (j : Nat) (hj : a = (j : Int) ∧ j < n) (hn : n ≤ 2147483647) {r : Nat} (hr : f j = some r) (hdg : decode cc pc = .ok (.aaload, 1))
    (k : W p l e R s m args below meth c H locs cells slots Q (F0 m (pc + 1) ls (.ref r :: rest))) : W p l e R s m args below meth c H locs cells slots Q (F0 m pc ls (.int (iI a) :: .ref q :: rest)) := by
  have hin := iI_in hj.1 hj.2 hn
  have hc := iI_cl hj.1 (by omega)
  refine W.aald (v := .ref r) (ty := .array ty) hx hb (hP q0 _ ha) ((hK.2 t0 _ ht).1 n (fun j => va_rf (f j))) rfl (fun q => by cases q) (by show ¬ (_ ∨ (arrV _ _ _).slots.size ≤ _); rw [arrV_size]; exact hin) (by show (arrV _ _ _).slots[_]? = _; rw [hc, arrV_read _ _ hj.2, hr]; rfl) rfl rfl hdg k
/-- a new array of ints, its class by its name -/
theorem bk_newa (hx : p.tables.exec = Jvm.exec) (hb : c.code = cc) (harr : (Cond.arrayClass .int).before args s = true) (hK : va_K D cl tys s) {cI : ClassId} (t0 : Nat) (ht : tys[t0]? = some (cI, .int)) (hP : va_P D cl ws H) (hD : va_D A ws) (hS : va_S A H0 H locs) (hA : ∀ q, H0.size ≤ q → A q) (N : Nat) (hN : a = (N : Int) ∧ N ≤ 100000) (hcells : cells + 1 ≤ R.cells) (hslots : slots + N ≤ R.slots) (hdg : decode cc pc = .ok (.newarray .int, 2))
    (kk : ∀ (q : Nat) (H1 : Heap), va_P D cl (ws ++ [(q, ar cI N (fun _ => 0))]) H1 → va_D A (ws ++ [(q, ar cI N (fun _ => 0))]) → va_S A H0 H1 locs → W p l e R s m args below meth c H1 locs (cells + 1) (slots + N) Q (F0 m (pc + 2) ls (.ref q :: rest))) : W p l e R s m args below meth c H locs cells slots Q (F0 m pc ls (.int (iI a) :: rest)) := by
  refine va_newa (atype := .int) (ty := .int) (N' := N) (a0 := (N, .inl (fun _ => iI 0))) hx hb harr rfl hK hP hD hS hA (fun cA => by rw [vp_cell_i]; rfl) (fun h => ?_) (iI_cl hN.1 (by omega)) (by show N * 4 ≤ _; omega) hcells hslots hdg (fun q cA H1 hK1 h1 h2 h3 => ?_)
  · rw [iI_0, iI_lt (by omega) (by omega)] at h
    omega
  · have e1 := (hK1.2 tys.length (cA, .int) (by simp)).2
    have e2 := (hK.2 t0 _ ht).2
    have e3 : cA = cI := Option.some.inj (Eq.trans (Eq.symm e1) e2)
    subst e3
    exact kk q H1 h1 h2 h3
end BKR
end
section
/-! the shape of every contract; starts, ends and calls, a row each -/
/-- links to private members of nest mates, as (from, entry, to, host); words that no call carries on -/
def nestQ : List (String × Nat × MethodName × String) := [("BinnedReads", 11, ⟨"BinnedReads$Draft", "<init>", "()V"⟩, "BinnedReads"), ("BinnedReads", 18, ⟨"BinnedReads$Stream", "<init>", "()V"⟩, "BinnedReads"), ("BinnedReads", 25, ⟨"BinnedReads$Index", "<init>", "()V"⟩, "BinnedReads"), ("BinnedReads", 32, ⟨"BinnedReads$Disk", "<init>", "()V"⟩, "BinnedReads"), ("BinnedReads", 39, ⟨"BinnedReads$Finding", "<init>", "()V"⟩, "BinnedReads"), ("BinnedReads$Draft", 25, ⟨"BinnedReads", "spanOf", "([III)I"⟩, "BinnedReads"), ("BinnedReads$Draft", 29, ⟨"BinnedReads", "kindOf", "(I)I"⟩, "BinnedReads"), ("BinnedReads$Draft", 33, ⟨"BinnedReads", "lengthOf", "(I)I"⟩, "BinnedReads"), ("BinnedReads$Index", 45, ⟨"BinnedReads", "binMeets", "(III)Z"⟩, "BinnedReads"), ("BinnedReads$Finding", 48, ⟨"BinnedReads", "spanOf", "([III)I"⟩, "BinnedReads")]
def nestW (q : String × Nat × MethodName × String) : Cond := .methodLinkNest q.1 q.2.1 q.2.2.1 q.2.2.2
theorem nestW_tbl : ∀ q ∈ nestQ, nestW q ∈ lw_tbl := by
  intro q hq
  simp only [nestQ, List.mem_cons, List.not_mem_nil, or_false] at hq
  rcases hq with rfl | rfl | rfl | rfl | rfl | rfl | rfl | rfl | rfl | rfl
  · exact tw_19
  · exact tw_42
  · exact tw_58
  · exact tw_93
  · exact tw_117
  · exact tw_200
  · exact tw_213
  · exact tw_214
  · exact tw_340
  · exact tw_397
def nw (U : State) : Prop := (∀ q ∈ nestQ, va_Nw (nestW q) U) ∧ (Cond.arrayOver (.array .int)).before #[] U = true
theorem nw.warm {s U : State} (hW : s.WarmedH U.vm) (h : nw s) : nw U :=
  ⟨fun q hq => va_Nw.warmM hW (h.1 q hq), Cond.overAtom_setVm (args := #[]) hW.alike (.arrayOver (.array .int)) rfl h.2⟩
theorem nw.same {u U : State} (e : u.vm = U.vm) (h : nw u) : nw U :=
  ⟨fun q hq => va_Nw.same rfl e (h.1 q hq), by
    have h1 : u.setVm U.vm = u := by rw [← e]; rfl
    have h2 := h.2
    rw [← h1] at h2
    exact h2⟩
/-- what a method knows of the tables -/
def kn (D : va_G) (cI cO : ClassId) (U : State) : Prop := va_K D classes [(cI, .int), (cO, .array .int)] U ∧ nw U
/-- a contract's start: the arguments, and the world W0 -/
def Pr (D : va_G) (cI cO : ClassId) (av : List Value) (W0 : va_W) (sz : Nat) : Array Value → State → Prop := va_Pc av (fun U => U.heap.size = sz ∧ va_P D classes W0 U.heap ∧ va_D (fun _ => True) W0 ∧ kn D cI cO U)
theorem Pr.blind {D : va_G} {cI cO : ClassId} {av : List Value} {W0 : va_W} {sz : Nat} : FrameBlind (Pr D cI cO av W0 sz) := fun a U g mk q => by
  obtain ⟨q0, q1, qP, qD, qK⟩ := q
  exact ⟨q0, q1, qP, qD, va_K.moved (u := U) (U := U.calling g mk a) (Vm.Alike.refl U.vm) qK.1, nw.same (u := U) (U := U.calling g mk a) rfl qK.2⟩
abbrev Bw {S : Type} (D : va_G) (W1 : S → va_W) (W0 : va_W) (sz : Nat) : S → State → Prop := fun u t => va_P D classes (W1 u) t.heap ∧ va_D (va_A W0 sz) (W1 u)
abbrev Qi {S : Type} (D : va_G) (post : Int → S → Prop) (W1 : S → va_W) (W0 : va_W) (sz : Nat) : Array Value → State → Outcome → State → Prop := va_Qi (fun r u => ∃ a : Int, r = iI a ∧ post a u) (Bw D W1 W0 sz) (va_A W0 sz)
abbrev Qv {S : Type} (D : va_G) (post : S → Prop) (W1 : S → va_W) (W0 : va_W) (sz : Nat) : Array Value → State → Outcome → State → Prop := va_Qv post (Bw D W1 W0 sz) (va_A W0 sz)
/-- a contract of a method that answers an int (Mi) or nothing (Mv): its world W0 becomes W1 u for some u with 'post' -/
abbrev Mi {S : Type} (l : Launch) (y : MethodName) (b : ByteArray) (maxL : Nat) (rt : FieldType) (rm : Room) (D : va_G) (cI cO : ClassId) (av : List Value) (W0 : va_W) (post : Int → S → Prop) (W1 : S → va_W) (mc ms : Nat) : Prop := ∀ sz : Nat, Met l y (Cond.code y b maxL (some rt) :: tb) rm (Pr D cI cO av W0 sz) (Qi D post W1 W0 sz) mc ms (va_A W0 sz)
abbrev Mv {S : Type} (l : Launch) (y : MethodName) (b : ByteArray) (maxL : Nat) (rm : Room) (D : va_G) (cI cO : ClassId) (av : List Value) (W0 : va_W) (post : S → Prop) (W1 : S → va_W) (mc ms : Nat) : Prop := ∀ sz : Nat, Met l y (Cond.code y b maxL none :: tb) rm (Pr D cI cO av W0 sz) (Qv D post W1 W0 sz) mc ms (va_A W0 sz)
/-- the start of a method's walk -/
theorem bk_start {l : Launch} {y : MethodName} {cc : ByteArray} {maxL : Nat} {ret : Option FieldType} {rm : Room} {D : va_G} {cI cO : ClassId} {av : List Value} {W0 : va_W} {Qc : Nat → Array Value → State → Outcome → State → Prop} {mc ms : Nat} (hy : plainName y.cls = true) (hlen : (lg_sl av).length ≤ maxL)
    (body : ∀ (p : Program) (e : Env) (s : State) (m : MethodId) (args : Array Value) (below : List Frame) (meth : Method) (c : Code) (A : Nat → Prop) (ls : Array Slot) (Q : State → Prop), p.tables.exec = Jvm.exec → c.code = cc → meth.sig.returnType = ret → c.maxLocals = maxL → meth.locks = false → s.vm.findClass y.cls = some m.cls → meth.name = y.name → (∀ w ∈ tb, w.before args s = true) → kn D cI cO s → (∀ q, s.heap.size ≤ q → A q) → A = va_A W0 s.heap.size → Q = MQ below (Qc s.heap.size) args s mc ms (va_A W0 s.heap.size) → va_P D classes W0 s.heap → va_D A W0 → va_S A s.heap s.heap [] → lv_has ls maxL (lv_args 0 av) →
      W p l e rm s m args below meth c s.heap [] 0 0 Q (F0 m 0 ls [])) (sz : Nat) : Met l y (Cond.code y cc maxL ret :: tb) rm (Pr D cI cO av W0 sz) (Qc sz) mc ms (va_A W0 sz) := by
  refine Met.ofW (cc := cc) (maxL := maxL) (ret := ret) hy rfl ?_
  intro p e s m args below meth c s₁ B hml hv
  obtain ⟨hargs, hsz, hP, hD0, hK⟩ := hv
  subst hsz
  have hts := atoms_spec (ws := Cond.code y cc maxL ret :: tb) B.pre
  have hD := hD0.self (sz := s.heap.size)
  have hl := lv_entry av (n := maxL) hlen
  have he : entryFrame m args maxL = F0 m 0 ((lg_sl av ++ List.replicate (maxL - (lg_sl av).length) Slot.unset).toArray) [] := by rw [hargs, lg_entry_eq]
  rw [he]
  generalize (lg_sl av ++ List.replicate (maxL - (lg_sl av).length) Slot.unset).toArray = ls at hl ⊢
  exact body p e s m args below meth c _ ls _ B.exec B.bytes B.returns hml B.notSynchronized (findClass_of_methodNamed B.named) (name_of_methodNamed B.named B.method).1 (fun w h => hts w (List.mem_cons_of_mem _ h)) hK (fun q h => Or.inr h) rfl rfl hP hD va_S.rf hl
/-- parts of a world that has a pool behind it -/
theorem bk_inX {X pl Wc : va_W} (is : List Nat) (hs : is.map (fun i => X[i]?) = Wc.map some) (k : Nat) (q : Nat × va_E) (hk : Wc[k]? = some q) : ∃ i, is[k]? = some i ∧ (X ++ pl)[i]? = some q := by
  obtain ⟨i, h1, h2⟩ := va_in_of is hs hk
  refine ⟨i, h1, ?_⟩
  rw [List.getElem?_append_left (List.getElem?_eq_some_iff.mp h2).1]
  exact h2
theorem bk_subP {D : va_G} {cl : List vw_C} {X pl Wc : va_W} {H : Heap} (h : va_P D cl (X ++ pl) H) (is : List Nat) (hs : is.map (fun i => X[i]?) = Wc.map some) : va_P D cl Wc H := fun k q hk => by
  obtain ⟨i, -, h2⟩ := bk_inX (pl := pl) is hs k q hk
  exact h i q h2
theorem bk_subD {A : Nat → Prop} {X pl Wc : va_W} (h : va_D A (X ++ pl)) (is : List Nat) (hn : va_nd is = true) (hs : is.map (fun i => X[i]?) = Wc.map some) : va_D A Wc := by
  refine (h.part is hn hs).by id (fun k q hq => ?_) (fun i j _ _ e => e)
  show (Wc ++ pl)[k]? = some q
  rw [List.getElem?_append_left (List.getElem?_eq_some_iff.mp hq).1]
  exact hq
theorem bk_freeX {A : Nat → Prop} {X pl Wc : va_W} {H0 H : Heap} {locs : List Loc} (hD : va_D A (X ++ pl)) (hS : va_S A H0 H locs) (hA : ∀ q, H0.size ≤ q → A q) (is : List Nat) (hs : is.map (fun i => X[i]?) = Wc.map some) : ∀ q, va_A Wc H.size q → A q := by
  intro q h
  rcases h with ⟨k, e, h⟩ | h
  · obtain ⟨i, -, h2⟩ := bk_inX (pl := pl) is hs k _ h
    exact hD.2 i _ h2
  · exact hA q (Nat.le_trans hS.1 h)
theorem gd_tb {ws : List Cond} (h : ∀ w ∈ ws, w ∈ tb) : GoodIn tb ws := fun w hw => ⟨h w hw, good_of_word (tb_good w (h w hw))⟩
theorem gd_code {y : MethodName} {b : ByteArray} {n : Nat} {r : Option FieldType} (h : Cond.code y b n r ∈ tb) : GoodIn tb (Cond.code y b n r :: tb) := gd_tb fun w hw => by
  rcases List.mem_cons.mp hw with rfl | hw
  · exact h
  · exact hw
theorem gd_V {own : String} {idx : Nat} {C : String} {y : MethodName} {b : ByteArray} {n : Nat} {r : Option FieldType} (h1 : Cond.methodLink own idx y ∈ tb) (h2 : Cond.instanceMethod y ∈ tb) (h3 : Cond.selects C y y ∈ tb) (h4 : Cond.initialized C ∈ tb) (h5 : Cond.code y b n r ∈ tb) : GoodIn tb (wsV own idx C y (Cond.code y b n r :: tb)) := gd_tb fun w hw => by
  simp only [wsV, List.mem_append, List.mem_cons, List.not_mem_nil, or_false] at hw
  rcases hw with (rfl | rfl | rfl | rfl) | rfl | hw
  · exact h1
  · exact h2
  · exact h3
  · exact h4
  · exact h5
  · exact hw
theorem gd_S {own : String} {idx : Nat} {y : MethodName} {b : ByteArray} {n : Nat} {r : Option FieldType} (h1 : Cond.methodLink own idx y ∈ tb) (h2 : Cond.static y ∈ tb) (h4 : Cond.initialized own ∈ tb) (h5 : Cond.code y b n r ∈ tb) : GoodIn tb (wsS own idx y (Cond.code y b n r :: tb)) := gd_tb fun w hw => by
  simp only [wsS, List.mem_append, List.mem_cons, List.not_mem_nil, or_false] at hw
  rcases hw with (rfl | rfl | rfl) | rfl | hw
  · exact h1
  · exact h2
  · exact h4
  · exact h5
  · exact hw
section BKC
variable {p : Program} {l : Launch} {e : Env} {R : Room} {s : State} {m : MethodId} {args : Array Value} {below : List Frame} {meth : Method} {c : Code} {H : Heap} {locs : List Loc} {cells slots : Nat} {Q : State → Prop}
variable {cc : ByteArray} {pc nL : Nat} {ls : Array Slot} {rest st0 As : List Value} {D : va_G} {cI cO : ClassId} {A : Nat → Prop} {H0 : Heap} {X pl Wc wr rx : va_W} {b mc ms index maxL : Nat} {y : MethodName} {bytes : ByteArray} {ret : Option FieldType} {rm : Room} {Qc : Nat → Array Value → State → Outcome → State → Prop} {own C host : String}
/-- the end of a method that answers an int -/
theorem bk_reti {S : Type} {post : Int → S → Prop} {W1 : S → va_W} {W0 : va_W} {ty : FieldType} {r : Int} (hx : p.tables.exec = Jvm.exec) (hb : c.code = cc) (hr : meth.sig.returnType = some ty) (hn : narrow ty (.int (iI r)) = .int (iI r)) (hlk : meth.locks = false) (hAe : A = va_A W0 s.heap.size) (hQ : Q = MQ below (Qi D post W1 W0 s.heap.size) args s cells slots (va_A W0 s.heap.size)) (hS : va_S A s.heap H locs) (u : S) (hq : post r u) (hP : va_P D classes (W1 u) H) (hD : va_D A (W1 u)) (hdg : decode cc pc = .ok (.ireturn, 1)) :
    W p l e R s m args below meth c H locs cells slots Q (F0 m pc ls [.int (iI r)]) := by
  subst hAe
  subst hQ
  exact W.zret hx hb hr hn (fun t ht hW => ⟨⟨iI r, u, rfl, ⟨r, rfl, hq⟩, by rw [ht]; exact hP, hD⟩, hS.F ht⟩) hS.2.2 hdg hlk
/-- the end of a method that answers nothing -/
theorem bk_retv {S : Type} {post : S → Prop} {W1 : S → va_W} {W0 : va_W} (hx : p.tables.exec = Jvm.exec) (hb : c.code = cc) (hr : meth.sig.returnType = none) (hlk : meth.locks = false) (hAe : A = va_A W0 s.heap.size) (hQ : Q = MQ below (Qv D post W1 W0 s.heap.size) args s cells slots (va_A W0 s.heap.size)) (hS : va_S A s.heap H locs) (u : S) (hq : post u) (hP : va_P D classes (W1 u) H) (hD : va_D A (W1 u)) (hdg : decode cc pc = .ok (.return_, 1)) :
    W p l e R s m args below meth c H locs cells slots Q (F0 m pc ls []) := by
  subst hAe
  subst hQ
  exact W.vret hx hb hr (fun t ht hW => ⟨⟨u, rfl, hq, by rw [ht]; exact hP, hD⟩, hS.F ht⟩) hS.2.2 hdg hlk
/-- what a callee gets -/
theorem bk_pre {av : List Value} (hK : kn D cI cO s) (hP : va_P D classes Wc H) (hD : va_D A Wc) : PreS s H (Pr D cI cO av Wc H.size) av := ⟨Pr.blind, fun U hU hW => ⟨rfl, by rw [hU], by rw [hU]; exact hP, hD.weaken (fun _ _ _ _ => trivial), va_K.moved hW.alike hK.1, hK.2.warm hW⟩⟩
/-- invokevirtual -/
theorem bk_rV (hx : p.tables.exec = Jvm.exec) (hb : c.code = cc) (hml : c.maxLocals = nL) (hown : s.vm.findClass own = some m.cls) (hT : ∀ w ∈ tb, w.before args s = true) (hK : kn D cI cO s) (hM : ∀ sz : Nat, Met l y (Cond.code y bytes maxL ret :: tb) rm (Pr D cI cO (.ref b :: As) Wc sz) (Qc sz) mc ms (va_A Wc sz)) (hP : va_P D classes Wc H) (hD : va_D A Wc) (q0 ci : Nat) {fs : List Value} {cq : vw_C} (he : Wc[q0]? = some (b, .inr (ci, fs))) (hc : classes[ci]? = some cq) (hcq : cq.1 = C)
    (h1 : Cond.methodLink own index y ∈ tb) (h2 : Cond.instanceMethod y ∈ tb) (h3 : Cond.selects C y y ∈ tb) (h4 : Cond.initialized C ∈ tb) (h5 : Cond.code y bytes maxL ret ∈ tb) (hd : y.cls = C ∧ y.cls ≠ "java/lang/invoke/MethodHandle" ∧ y.cls ≠ "java/lang/invoke/VarHandle" ∧ (parseMethodDescriptor y.desc).map (fun d => d.parameters.length) = some As.length) (hrm : rm.cells = mc ∧ rm.slots = ms) (hR : rm.frames + 1 ≤ R.frames ∧ 8 + (maxL + 11) + rm.locals ≤ R.locals)
    (hls : ls.size = nL) (hst : st0 = As.reverse ++ .ref b :: rest) (hW : (rest.map fun v => v.category).sum ≤ 8) (hdg : decode cc pc = .ok (.invokevirtual index, 3)) (hf : cells + mc ≤ R.cells ∧ slots + ms ≤ R.slots) : va_Run p l e R s m args below meth c H locs cells slots mc ms (F0 m pc ls st0) rest (Qc H.size (Value.ref b :: As).toArray) (va_A Wc H.size) := by
  have hpre := bk_pre (av := .ref b :: As) hK hP hD
  have hrec := va_recv hK.1 hP hc he
  rw [hcq] at hrec
  exact va_runV (C := C) (As := As) (rest := rest) ⟨hx, hb, hml, hown, hT⟩ (hM H.size) (cwV As.length hT (gd_V h1 h2 h3 h4 h5) rfl hrm.1 hrm.2 hd hR) ⟨hpre.1, hrec, hpre.2⟩ rfl rfl hls hst (lv_room hW) hdg hf
/-- invokestatic in the own class -/
theorem bk_rS (hx : p.tables.exec = Jvm.exec) (hb : c.code = cc) (hml : c.maxLocals = nL) (hown : s.vm.findClass own = some m.cls) (hT : ∀ w ∈ tb, w.before args s = true) (hK : kn D cI cO s) (hM : ∀ sz : Nat, Met l y (Cond.code y bytes maxL ret :: tb) rm (Pr D cI cO As Wc sz) (Qc sz) mc ms (va_A Wc sz)) (hP : va_P D classes Wc H) (hD : va_D A Wc)
    (h1 : Cond.methodLink own index y ∈ tb) (h2 : Cond.static y ∈ tb) (h4 : Cond.initialized own ∈ tb) (h5 : Cond.code y bytes maxL ret ∈ tb) (hd : y.cls = own ∧ y.cls ≠ "java/lang/invoke/MethodHandle" ∧ y.cls ≠ "java/lang/invoke/VarHandle" ∧ (parseMethodDescriptor y.desc).map (fun d => d.parameters.length) = some As.length) (hrm : rm.cells = mc ∧ rm.slots = ms) (hR : rm.frames + 1 ≤ R.frames ∧ 8 + (maxL + 11) + rm.locals ≤ R.locals)
    (hls : ls.size = nL) (hst : st0 = As.reverse ++ rest) (hW : (rest.map fun v => v.category).sum ≤ 8) (hdg : decode cc pc = .ok (.invokestatic index, 3)) (hf : cells + mc ≤ R.cells ∧ slots + ms ≤ R.slots) : va_Run p l e R s m args below meth c H locs cells slots mc ms (F0 m pc ls st0) rest (Qc H.size As.toArray) (va_A Wc H.size) :=
  va_runS (As := As) (rest := rest) ⟨hx, hb, hml, hown, hT⟩ (hM H.size) (cwS As.length hT (gd_S h1 h2 h4 h5) rfl hrm.1 hrm.2 hd hR) (bk_pre (av := As) hK hP hD) rfl rfl hls hst (lv_room hW) hdg hf
/-- invokestatic of a nest mate's private method -/
theorem bk_rSN (hx : p.tables.exec = Jvm.exec) (hb : c.code = cc) (hml : c.maxLocals = nL) (hown : s.vm.findClass own = some m.cls) (hT : ∀ w ∈ tb, w.before args s = true) (hK : kn D cI cO s) (hM : ∀ sz : Nat, Met l y (Cond.code y bytes maxL ret :: tb) rm (Pr D cI cO As Wc sz) (Qc sz) mc ms (va_A Wc sz)) (hP : va_P D classes Wc H) (hD : va_D A Wc)
    (h1 : (own, index, y, host) ∈ nestQ) (h2 : Cond.static y ∈ tb) (h4 : Cond.initialized y.cls ∈ tb) (h5 : Cond.code y bytes maxL ret ∈ tb) (hd : y.cls ≠ "java/lang/invoke/MethodHandle" ∧ y.cls ≠ "java/lang/invoke/VarHandle" ∧ (parseMethodDescriptor y.desc).map (fun d => d.parameters.length) = some As.length) (hrm : rm.cells = mc ∧ rm.slots = ms) (hR : rm.frames + 1 ≤ R.frames ∧ 8 + (maxL + 11) + rm.locals ≤ R.locals)
    (hls : ls.size = nL) (hst : st0 = As.reverse ++ rest) (hW : (rest.map fun v => v.category).sum ≤ 8) (hdg : decode cc pc = .ok (.invokestatic index, 3)) (hf : cells + mc ≤ R.cells ∧ slots + ms ≤ R.slots) : va_Run p l e R s m args below meth c H locs cells slots mc ms (F0 m pc ls st0) rest (Qc H.size As.toArray) (va_A Wc H.size) :=
  va_runSN (As := As) (rest := rest) ⟨hx, hb, hml, hown, hT⟩ (hM H.size) ⟨va_cnB As.length hT (gd_code h5) rfl hrm.1 hrm.2 (hK.2.1 _ h1) (hT _ h4) hd hR, hT _ h2, trivial⟩ (bk_pre (av := As) hK hP hD) rfl rfl hls hst (lv_room hW) hdg hf
/-- invokespecial of a nest mate's private constructor -/
theorem bk_rIN {y : MethodName} {Qc : Nat → Array Value → State → Outcome → State → Prop} (hx : p.tables.exec = Jvm.exec) (hb : c.code = cc) (hml : c.maxLocals = nL) (hown : s.vm.findClass own = some m.cls) (hT : ∀ w ∈ tb, w.before args s = true) (hK : kn D cI cO s) (hM : ∀ sz : Nat, Met l y (Cond.code y bytes maxL none :: tb) rm (Pr D cI cO [.ref b] Wc sz) (Qc sz) mc ms (va_A Wc sz)) (hP : va_P D classes Wc H) (hD : va_D A Wc)
    (h1 : (own, index, y, host) ∈ nestQ) (h2 : Cond.instanceMethod y ∈ tb) (h4 : Cond.initialized y.cls ∈ tb) (h5 : Cond.code y bytes maxL none ∈ tb) (hd : y.cls ≠ "java/lang/invoke/MethodHandle" ∧ y.cls ≠ "java/lang/invoke/VarHandle" ∧ (parseMethodDescriptor y.desc).map (fun d => d.parameters.length) = some 0) (hyn : y.name = "<init>") (hrm : rm.cells = mc ∧ rm.slots = ms) (hR : rm.frames + 1 ≤ R.frames ∧ 8 + (maxL + 11) + rm.locals ≤ R.locals)
    (hls : ls.size = nL) (hW : (rest.map fun v => v.category).sum ≤ 8) (hdg : decode cc pc = .ok (.invokespecial index, 3)) (hf : cells + mc ≤ R.cells ∧ slots + ms ≤ R.slots) : va_Run p l e R s m args below meth c H locs cells slots mc ms (F0 m pc ls (.ref b :: rest)) rest (Qc H.size [Value.ref b].toArray) (va_A Wc H.size) :=
  va_runIN (As := []) (rest := rest) ⟨hx, hb, hml, hown, hT⟩ (hM H.size) ⟨va_cnB 0 hT (gd_code h5) rfl hrm.1 hrm.2 (hK.2.1 _ h1) (hT _ h4) hd hR, hyn, hT _ h2⟩ (bk_pre (av := [.ref b]) hK hP hD) rfl rfl hls rfl (lv_room hW) hdg hf
/-- invokespecial of a public constructor -/
theorem bk_rI {y : MethodName} {Qc : Nat → Array Value → State → Outcome → State → Prop} (hx : p.tables.exec = Jvm.exec) (hb : c.code = cc) (hml : c.maxLocals = nL) (hown : s.vm.findClass own = some m.cls) (hT : ∀ w ∈ tb, w.before args s = true) (hK : kn D cI cO s) (hM : ∀ sz : Nat, Met l y (Cond.code y bytes maxL none :: tb) rm (Pr D cI cO [.ref b] Wc sz) (Qc sz) mc ms (va_A Wc sz)) (hP : va_P D classes Wc H) (hD : va_D A Wc)
    (h1 : Cond.methodLink own index y ∈ tb) (h2 : Cond.instanceMethod y ∈ tb) (h4 : Cond.initialized y.cls ∈ tb) (h5 : Cond.code y bytes maxL none ∈ tb) (hd : y.cls ≠ "java/lang/invoke/MethodHandle" ∧ y.cls ≠ "java/lang/invoke/VarHandle" ∧ (parseMethodDescriptor y.desc).map (fun d => d.parameters.length) = some 0) (hyn : y.name = "<init>") (hrm : rm.cells = mc ∧ rm.slots = ms) (hR : rm.frames + 1 ≤ R.frames ∧ 8 + (maxL + 11) + rm.locals ≤ R.locals)
    (hls : ls.size = nL) (hW : (rest.map fun v => v.category).sum ≤ 8) (hdg : decode cc pc = .ok (.invokespecial index, 3)) (hf : cells + mc ≤ R.cells ∧ slots + ms ≤ R.slots) : va_Run p l e R s m args below meth c H locs cells slots mc ms (F0 m pc ls (.ref b :: rest)) rest (Qc H.size [Value.ref b].toArray) (va_A Wc H.size) :=
  va_runI (As := []) (rest := rest) ⟨hx, hb, hml, hown, hT⟩ (hM H.size) (cwI 0 hT (gd_code h5) rfl hrm.1 hrm.2 (hT _ h4) (hT _ h1) (hT _ h2) hyn hd hR) (bk_pre (av := [.ref b]) hK hP hD) rfl rfl hls rfl (lv_room hW) hdg hf
/-- behind a call that answers an int; the world X ++ pl (pl may be []), the callee's cells at the places isC of X, the rest at isR -/
theorem bk_fi {S : Type} {post : Int → S → Prop} {W1 : S → va_W} {aa : Array Value} (isC isR : List Nat) (hC : isC.map (fun i => X[i]?) = Wc.map some) (hR : isR.map (fun i => X[i]?) = wr.map some) (hn : va_nd isR = true) (hdis : ∀ i ∈ isR, i ∉ isC) (hP : va_P D classes (X ++ pl) H) (hD : va_D A (X ++ pl)) (hS : va_S A H0 H locs) (hA : ∀ q, H0.size ≤ q → A q)
    (hr : va_Run p l e R s m args below meth c H locs cells slots mc ms (F0 m pc ls st0) rest (Qi D post W1 Wc H.size aa) (va_A Wc H.size))
    (kk : ∀ (r : Int) (u : S) (H1 : Heap) (locs1 : List Loc), post r u → va_P D classes ((wr ++ W1 u) ++ pl) H1 → va_D A ((wr ++ W1 u) ++ pl) → va_S A H0 H1 locs1 → W p l e R s m args below meth c H1 locs1 (cells + mc) (slots + ms) Q (F0 m (pc + 3) ls (.int (iI r) :: rest))) : W p l e R s m args below meth c H locs cells slots Q (F0 m pc ls st0) := by
  have hF := bk_freeX hD hS hA isC hC
  refine va_calli hr hS (fun q _ h => hF q h) hF (fun r u t H1 locs1 ht hvm hp hB hz hk hS1 => ?_)
  obtain ⟨a, rfl, hp⟩ := hp
  obtain ⟨hP1, hD1⟩ := hB
  rw [ht] at hP1
  obtain ⟨hP2, hD2⟩ := va_joinQ hP hD isC isR hC hR hn hdis hk hF hP1 hD1
  exact kk a u H1 locs1 hp hP2 hD2 hS1
theorem bk_fv {S : Type} {post : S → Prop} {W1 : S → va_W} {aa : Array Value} (isC isR : List Nat) (hC : isC.map (fun i => X[i]?) = Wc.map some) (hR : isR.map (fun i => X[i]?) = wr.map some) (hn : va_nd isR = true) (hdis : ∀ i ∈ isR, i ∉ isC) (hP : va_P D classes (X ++ pl) H) (hD : va_D A (X ++ pl)) (hS : va_S A H0 H locs) (hA : ∀ q, H0.size ≤ q → A q)
    (hr : va_Run p l e R s m args below meth c H locs cells slots mc ms (F0 m pc ls st0) rest (Qv D post W1 Wc H.size aa) (va_A Wc H.size))
    (kk : ∀ (u : S) (H1 : Heap) (locs1 : List Loc), post u → va_P D classes ((wr ++ W1 u) ++ pl) H1 → va_D A ((wr ++ W1 u) ++ pl) → va_S A H0 H1 locs1 → W p l e R s m args below meth c H1 locs1 (cells + mc) (slots + ms) Q (F0 m (pc + 3) ls rest)) : W p l e R s m args below meth c H locs cells slots Q (F0 m pc ls st0) := by
  have hF := bk_freeX hD hS hA isC hC
  refine va_callv hr hS (fun q _ h => hF q h) hF (fun u t H1 locs1 ht hvm hp hB hz hk hS1 => ?_)
  obtain ⟨hP1, hD1⟩ := hB
  rw [ht] at hP1
  obtain ⟨hP2, hD2⟩ := va_joinQ hP hD isC isR hC hR hn hdis hk hF hP1 hD1
  exact kk u H1 locs1 hp hP2 hD2 hS1
/-- behind a call that had the pool too: Wc ++ pl became rx u ++ pl1 u -/
theorem bk_fiP {S : Type} {post : Int → S → Prop} {rx pl1 : S → va_W} {aa : Array Value} (isC isR : List Nat) (hC : isC.map (fun i => X[i]?) = Wc.map some) (hR : isR.map (fun i => X[i]?) = wr.map some) (hn : va_nd isR = true) (hdis : ∀ i ∈ isR, i ∉ isC) (hP : va_P D classes (X ++ pl) H) (hD : va_D A (X ++ pl)) (hS : va_S A H0 H locs) (hA : ∀ q, H0.size ≤ q → A q)
    (hr : va_Run p l e R s m args below meth c H locs cells slots mc ms (F0 m pc ls st0) rest (Qi D post (fun u => rx u ++ pl1 u) (Wc ++ pl) H.size aa) (va_A (Wc ++ pl) H.size))
    (kk : ∀ (r : Int) (u : S) (H1 : Heap) (locs1 : List Loc), post r u → va_P D classes ((wr ++ rx u) ++ pl1 u) H1 → va_D A ((wr ++ rx u) ++ pl1 u) → va_S A H0 H1 locs1 → W p l e R s m args below meth c H1 locs1 (cells + mc) (slots + ms) Q (F0 m (pc + 3) ls (.int (iI r) :: rest))) : W p l e R s m args below meth c H locs cells slots Q (F0 m pc ls st0) := by
  have hF := va_freeP hD hS hA isC hC
  refine va_calli hr hS (fun q _ h => hF q h) hF (fun r u t H1 locs1 ht hvm hp hB hz hk hS1 => ?_)
  obtain ⟨a, rfl, hp⟩ := hp
  obtain ⟨hP1, hD1⟩ := hB
  rw [ht] at hP1
  obtain ⟨hP2, hD2⟩ := va_joinP hP hD isC isR hC hR hn hdis hk hF hP1 hD1
  exact kk a u H1 locs1 hp hP2 hD2 hS1
theorem bk_fvP {S : Type} {post : S → Prop} {rx pl1 : S → va_W} {aa : Array Value} (isC isR : List Nat) (hC : isC.map (fun i => X[i]?) = Wc.map some) (hR : isR.map (fun i => X[i]?) = wr.map some) (hn : va_nd isR = true) (hdis : ∀ i ∈ isR, i ∉ isC) (hP : va_P D classes (X ++ pl) H) (hD : va_D A (X ++ pl)) (hS : va_S A H0 H locs) (hA : ∀ q, H0.size ≤ q → A q)
    (hr : va_Run p l e R s m args below meth c H locs cells slots mc ms (F0 m pc ls st0) rest (Qv D post (fun u => rx u ++ pl1 u) (Wc ++ pl) H.size aa) (va_A (Wc ++ pl) H.size))
    (kk : ∀ (u : S) (H1 : Heap) (locs1 : List Loc), post u → va_P D classes ((wr ++ rx u) ++ pl1 u) H1 → va_D A ((wr ++ rx u) ++ pl1 u) → va_S A H0 H1 locs1 → W p l e R s m args below meth c H1 locs1 (cells + mc) (slots + ms) Q (F0 m (pc + 3) ls rest)) : W p l e R s m args below meth c H locs cells slots Q (F0 m pc ls st0) := by
  have hF := va_freeP hD hS hA isC hC
  refine va_callv hr hS (fun q _ h => hF q h) hF (fun u t H1 locs1 ht hvm hp hB hz hk hS1 => ?_)
  obtain ⟨hP1, hD1⟩ := hB
  rw [ht] at hP1
  obtain ⟨hP2, hD2⟩ := va_joinP hP hD isC isR hC hR hn hdis hk hF hP1 hD1
  exact kk u H1 locs1 hp hP2 hD2 hS1
end BKC
/-- where a callee's cells lie in the caller's world -/
theorem bk_hs {X pl Wc : va_W} (is : List Nat) (hs : is.map (fun i => X[i]?) = Wc.map some) (k : Nat) (q : Nat × va_E) (hk : Wc[k]? = some q) : ∃ i : Nat, (X ++ pl)[i]? = some q := (bk_inX (pl := pl) is hs k q hk).elim fun i h => ⟨i, h.2⟩
theorem bk_hsP {X pl Wc : va_W} (is : List Nat) (hs : is.map (fun i => X[i]?) = Wc.map some) (k : Nat) (q : Nat × va_E) (hk : (Wc ++ pl)[k]? = some q) : ∃ i : Nat, (X ++ pl)[i]? = some q := ⟨_, va_part is hs k q hk⟩
theorem bk_hs1 {ws : va_W} {i : Nat} {q0 : Nat × va_E} (h : ws[i]? = some q0) (k : Nat) (q : Nat × va_E) (hk : [q0][k]? = some q) : ∃ i : Nat, ws[i]? = some q := by
  have h0 : k < 1 := (List.getElem?_eq_some_iff.mp hk).1
  rw [show k = 0 by omega] at hk
  cases hk
  exact ⟨i, h⟩
theorem bk_P1 {D : va_G} {cl : List vw_C} {ws : va_W} {H : Heap} {i : Nat} {q0 : Nat × va_E} (hP : va_P D cl ws H) (h : ws[i]? = some q0) : va_P D cl [q0] H := fun k q hk => by
  obtain ⟨i, hi⟩ := bk_hs1 h k q hk
  exact hP i q hi
theorem bk_D1 {A : Nat → Prop} {ws : va_W} {i : Nat} {q0 : Nat × va_E} (hD : va_D A ws) (h : ws[i]? = some q0) : va_D A [q0] := by
  refine ⟨fun a b x y hx hy _ => ?_, fun k q hk => ?_⟩
  · have h1 : a < 1 := (List.getElem?_eq_some_iff.mp hx).1
    have h2 : b < 1 := (List.getElem?_eq_some_iff.mp hy).1
    omega
  · obtain ⟨i, hi⟩ := bk_hs1 h k q hk
    exact hD.2 i q hi
section BKF
variable {p : Program} {l : Launch} {e : Env} {R : Room} {s : State} {m : MethodId} {args : Array Value} {below : List Frame} {meth : Method} {c : Code} {H : Heap} {locs : List Loc} {cells slots : Nat} {Q : State → Prop}
variable {pc : Nat} {ls : Array Slot} {rest st0 : List Value} {D : va_G} {A : Nat → Prop} {H0 : Heap} {ws Wc : va_W} {mc ms : Nat}
/-- behind a call that leaves its world as it was: the caller's world is the same -/
theorem bk_fR {S : Type} {post : Int → S → Prop} {W1 : S → va_W} {aa : Array Value} (h1 : ∀ u, W1 u = Wc) (hsub : ∀ (k : Nat) (q : Nat × va_E), Wc[k]? = some q → ∃ i : Nat, ws[i]? = some q) (hP : va_P D classes ws H) (hD : va_D A ws) (hS : va_S A H0 H locs) (hA : ∀ q, H0.size ≤ q → A q)
    (hr : va_Run p l e R s m args below meth c H locs cells slots mc ms (F0 m pc ls st0) rest (Qi D post W1 Wc H.size aa) (va_A Wc H.size))
    (kk : ∀ (r : Int) (u : S) (H1 : Heap) (locs1 : List Loc), post r u → va_P D classes ws H1 → va_S A H0 H1 locs1 → W p l e R s m args below meth c H1 locs1 (cells + mc) (slots + ms) Q (F0 m (pc + 3) ls (.int (iI r) :: rest))) : W p l e R s m args below meth c H locs cells slots Q (F0 m pc ls st0) := by
  have hF : ∀ q, va_A Wc H.size q → A q := fun q h => by
    rcases h with ⟨k, e, h⟩ | h
    · obtain ⟨i, hi⟩ := hsub k _ h
      exact hD.2 i _ hi
    · exact hA q (Nat.le_trans hS.1 h)
  refine va_calli hr hS (fun q _ h => hF q h) hF (fun r u t H1 locs1 ht hvm hp hB hz hk hS1 => ?_)
  obtain ⟨a, rfl, hp⟩ := hp
  obtain ⟨hP1, hD1⟩ := hB
  rw [ht, h1 u] at hP1
  refine kk a u H1 locs1 hp (fun i q hi => ?_) hS1
  by_cases hq : ∃ (k : Nat) (e : va_E), Wc[k]? = some (q.1, e)
  · obtain ⟨k, e, hke⟩ := hq
    obtain ⟨i2, hi2⟩ := hsub k _ hke
    have e1 := hD.1 i i2 q (q.1, e) hi hi2 rfl
    subst e1
    have e2 : q = (q.1, e) := Option.some.inj (hi.symm.trans hi2)
    rw [e2]
    exact hP1 k _ hke
  · refine (hP i q hi).kept (hk q.1 (hP i q hi).lt (fun h => ?_))
    rcases h with ⟨k, e, h⟩ | h
    · exact hq ⟨k, e, h⟩
    · have := (hP i q hi).lt
      omega
end BKF
/-! the rows of an array of arrays: 24 arrays of 22 ints -/
def rwP (cI : ClassId) (R : Nat → Nat) (G : Nat → Nat → Int) : va_W := (List.range 24).map (fun i => (R i, ar cI 22 (G i)))
def rwF (R : Nat → Nat) : Nat → Option Nat := fun i => if i < 24 then some (R i) else none
def gU (G : Nat → Nat → Int) (k j : Nat) (v : Int) : Nat → Nat → Int := fun i => if i = k then bU (G i) j v else G i
theorem rw_len (cI : ClassId) (R : Nat → Nat) (G : Nat → Nat → Int) : (rwP cI R G).length = 24 := by simp [rwP]
theorem rw_at {cI : ClassId} {R : Nat → Nat} {G : Nat → Nat → Int} {k : Nat} (hk : k < 24) : (rwP cI R G)[k]? = some (R k, ar cI 22 (G k)) := by
  unfold rwP
  rw [List.getElem?_map, List.getElem?_range hk]
  rfl
theorem rw_get {X : va_W} {n : Nat} {cI : ClassId} {R : Nat → Nat} {G : Nat → Nat → Int} {k : Nat} (hn : X.length = n) (hk : k < 24) : (X ++ rwP cI R G)[n + k]? = some (R k, ar cI 22 (G k)) := by
  subst hn
  rw [List.getElem?_append_right (by omega), Nat.add_sub_cancel_left]
  exact rw_at hk
theorem rw_set {X : va_W} {n : Nat} {cI : ClassId} {R : Nat → Nat} {G : Nat → Nat → Int} {k j : Nat} {v : Int} (hn : X.length = n) (hk : k < 24) : (X ++ rwP cI R G).set (n + k) (R k, ar cI 22 (bU (G k) j v)) = X ++ rwP cI R (gU G k j v) := by
  subst hn
  apply List.ext_getElem?
  intro i
  by_cases hi : i < X.length
  · rw [List.getElem?_set_ne (by omega), List.getElem?_append_left hi, List.getElem?_append_left hi]
  · by_cases e : i = X.length + k
    · subst e
      rw [List.getElem?_set_self (by rw [List.length_append, rw_len]; omega), List.getElem?_append_right (by omega), Nat.add_sub_cancel_left, rw_at hk]
      simp [gU]
    · rw [List.getElem?_set_ne (fun q => e q.symm), List.getElem?_append_right (by omega), List.getElem?_append_right (by omega)]
      by_cases h24 : i - X.length < 24
      · rw [rw_at h24, rw_at h24]
        simp [gU, show ¬ i - X.length = k by omega]
      · rw [List.getElem?_eq_none (by rw [rw_len]; omega), List.getElem?_eq_none (by rw [rw_len]; omega)]
section BKP
variable {p : Program} {l : Launch} {e : Env} {R0 : Room} {s : State} {m : MethodId} {args : Array Value} {below : List Frame} {meth : Method} {c : Code} {H : Heap} {locs : List Loc} {cells slots : Nat} {Q : State → Prop}
variable {cc : ByteArray} {pc : Nat} {ls : Array Slot} {rest : List Value} {D : va_G} {A : Nat → Prop} {cI cO : ClassId} {X : va_W} {H0 : Heap} {a b : Int} {R : Nat → Nat} {G : Nat → Nat → Int}
theorem bk_iastP (hx : p.tables.exec = Jvm.exec) (hb : c.code = cc) (hK : va_K D classes [(cI, .int), (cO, .array .int)] s) (hP : va_P D classes (X ++ rwP cI R G) H) (hD : va_D A (X ++ rwP cI R G)) (hS : va_S A H0 H locs) (k : Nat) (hk : k < 24) {n : Nat} (hn : X.length = n) (j : Nat) (hj : a = (j : Int) ∧ j < 22) (hdg : decode cc pc = .ok (.iastore, 1))
    (kk : ∀ (H1 : Heap) (locs1 : List Loc), va_P D classes (X ++ rwP cI R (gU G k j b)) H1 → va_D A (X ++ rwP cI R (gU G k j b)) → va_S A H0 H1 locs1 → W p l e R0 s m args below meth c H1 locs1 cells slots Q (F0 m (pc + 1) ls rest)) : W p l e R0 s m args below meth c H locs cells slots Q (F0 m pc ls (.int (iI b) :: .int (iI a) :: .ref (R k) :: rest)) := by
  refine bk_iast hx hb hK hP hD hS (n + k) 0 (rw_get hn hk) rfl j hj (by decide) hdg (fun H1 locs1 h1 h2 h3 => ?_)
  rw [rw_set hn hk] at h1 h2
  exact kk H1 locs1 h1 h2 h3
end BKP
end
section
/-! the document's words in numbers: span, width, bins -/
def spanN (G : Nat → Int) : Nat → Int
  | 0 => 0
  | n + 1 => spanN G n + (if G n % 4 = 1 then 0 else G n / 4)
theorem spanN_step {G : Nat → Int} {n : Nat} (h : ¬ G n % 4 = 1) : spanN G (n + 1) = spanN G n + G n / 4 := by
  show spanN G n + (if G n % 4 = 1 then 0 else G n / 4) = _
  rw [if_neg h]
theorem spanN_skip {G : Nat → Int} {n : Nat} (h : G n % 4 = 1) : spanN G (n + 1) = spanN G n := by
  show spanN G n + (if G n % 4 = 1 then 0 else G n / 4) = _
  rw [if_pos h, Int.add_zero]
theorem spanN_rg {G : Nat → Int} {k : Nat} (h : ∀ i, i < k → 0 ≤ G i ∧ G i ≤ 255) : 0 ≤ spanN G k ∧ spanN G k ≤ 63 * k := by
  induction k with
  | zero => exact ⟨Int.le_refl _, by show (0 : Int) ≤ _; omega⟩
  | succ k ih =>
    have h1 := ih (fun i hi => h i (by omega))
    have h2 := h k (by omega)
    show 0 ≤ spanN G k + (if G k % 4 = 1 then 0 else G k / 4) ∧ spanN G k + (if G k % 4 = 1 then 0 else G k / 4) ≤ _
    split <;> omega
theorem spanN_congr {G G' : Nat → Int} {k : Nat} (h : ∀ i, i < k → G i = G' i) : spanN G k = spanN G' k := by
  induction k with
  | zero => rfl
  | succ k ih =>
    show spanN G k + (if G k % 4 = 1 then 0 else G k / 4) = spanN G' k + (if G' k % 4 = 1 then 0 else G' k / 4)
    rw [ih (fun i hi => h i (by omega)), h k (by omega)]
def widthN (G : Nat → Int) : Nat → Int
  | 0 => 0
  | n + 1 => widthN G n + (if G n % 4 = 0 ∨ G n % 4 = 1 then G n / 4 else 0)
theorem widthN_step {G : Nat → Int} {n : Nat} (h : G n % 4 = 0 ∨ G n % 4 = 1) : widthN G (n + 1) = widthN G n + G n / 4 := by
  show widthN G n + (if G n % 4 = 0 ∨ G n % 4 = 1 then G n / 4 else 0) = _
  rw [if_pos h]
theorem widthN_skip {G : Nat → Int} {n : Nat} (h : ¬ G n % 4 = 0) (h2 : ¬ G n % 4 = 1) : widthN G (n + 1) = widthN G n := by
  show widthN G n + (if G n % 4 = 0 ∨ G n % 4 = 1 then G n / 4 else 0) = _
  rw [if_neg (by omega), Int.add_zero]
theorem widthN_rg {G : Nat → Int} {k : Nat} (h : ∀ i, i < k → 0 ≤ G i ∧ G i ≤ 255) : 0 ≤ widthN G k ∧ widthN G k ≤ 63 * k := by
  induction k with
  | zero => exact ⟨Int.le_refl _, by show (0 : Int) ≤ _; omega⟩
  | succ k ih =>
    have h1 := ih (fun i hi => h i (by omega))
    have h2 := h k (by omega)
    show 0 ≤ widthN G k + (if G k % 4 = 0 ∨ G k % 4 = 1 then G k / 4 else 0) ∧ widthN G k + (if G k % 4 = 0 ∨ G k % 4 = 1 then G k / 4 else 0) ≤ _
    split <;> omega
/-- the bin of the places from a to before b -/
def binI (a b : Int) : Int := if a / 64 = (b - 1) / 64 then 9 + a / 64 else if a / 512 = (b - 1) / 512 then 1 + a / 512 else 0
theorem binI_rg {a b : Int} (h : 0 ≤ a ∧ a < b ∧ b ≤ 4096) : 0 ≤ binI a b ∧ binI a b ≤ 72 := by
  unfold binI
  split
  · omega
  · split <;> omega
/-- where a bin begins and ends -/
def binB (n : Int) : Int := if 9 ≤ n then 64 * (n - 9) else if 1 ≤ n then 512 * (n - 1) else 0
def binE (n : Int) : Int := if 9 ≤ n then 64 * (n - 9) + 64 else if 1 ≤ n then 512 * (n - 1) + 512 else 4096
theorem binB_rg {n : Int} (h : 0 ≤ n ∧ n ≤ 72) : 0 ≤ binB n ∧ binB n ≤ 4096 := by
  unfold binB
  split
  · omega
  · split <;> omega
theorem binE_rg {n : Int} (h : 0 ≤ n ∧ n ≤ 72) : 0 ≤ binE n ∧ binE n ≤ 4096 := by
  unfold binE
  split
  · omega
  · split <;> omega
/-- Math.max, Math.min -/
theorem bk_max {a b : Int} (ha : -2147483648 ≤ a ∧ a < 2147483648) (hb : -2147483648 ≤ b ∧ b < 2147483648) : (if iI a < iI b then iI b else iI a) = iI (max a b) := by
  by_cases h : a < b
  · rw [if_pos ((iI_lt ha hb).mpr h), Int.max_def, if_pos (by omega)]
  · rw [if_neg (fun q => h ((iI_lt ha hb).mp q)), Int.max_def]
    by_cases h2 : a ≤ b
    · rw [if_pos h2, show a = b by omega]
    · rw [if_neg h2]
theorem bk_min {a b : Int} (ha : -2147483648 ≤ a ∧ a < 2147483648) (hb : -2147483648 ≤ b ∧ b < 2147483648) : (if iI b < iI a then iI b else iI a) = iI (min a b) := by
  by_cases h : b < a
  · rw [if_pos ((iI_lt hb ha).mpr h), Int.min_def, if_neg (by omega)]
  · rw [if_neg (fun q => h ((iI_lt hb ha).mp q)), Int.min_def, if_pos (by omega)]
/-- the numbers from lo to before n that P holds of, in their order -/
def selN (P : Nat → Bool) (lo : Nat) : Nat → List Nat
  | 0 => []
  | n + 1 => selN P lo n ++ (if lo ≤ n ∧ P n = true then [n] else [])
theorem selN_yes {P : Nat → Bool} {lo n : Nat} (h : lo ≤ n) (hp : P n = true) : selN P lo (n + 1) = selN P lo n ++ [n] := by
  show selN P lo n ++ (if lo ≤ n ∧ P n = true then [n] else []) = _
  rw [if_pos ⟨h, hp⟩]
theorem selN_no {P : Nat → Bool} {lo n : Nat} (hp : ¬ P n = true) : selN P lo (n + 1) = selN P lo n := by
  show selN P lo n ++ (if lo ≤ n ∧ P n = true then [n] else []) = _
  rw [if_neg (fun q => hp q.2), List.append_nil]
theorem selN_lo {P : Nat → Bool} {lo n : Nat} (h : n ≤ lo) : selN P lo n = [] := by
  induction n with
  | zero => rfl
  | succ n ih =>
    show selN P lo n ++ (if lo ≤ n ∧ P n = true then [n] else []) = _
    rw [ih (by omega), if_neg (by omega)]
    rfl
theorem selN_len {P : Nat → Bool} {lo n : Nat} : (selN P lo n).length ≤ n := by
  induction n with
  | zero => exact Nat.le_refl _
  | succ n ih =>
    show (selN P lo n ++ (if lo ≤ n ∧ P n = true then [n] else [])).length ≤ _
    rw [List.length_append]
    split
    · show _ + 1 ≤ _
      omega
    · show _ + 0 ≤ _
      omega
theorem selN_mem {P : Nat → Bool} {lo n i : Nat} : i ∈ selN P lo n ↔ lo ≤ i ∧ i < n ∧ P i = true := by
  induction n with
  | zero =>
    constructor
    · intro h
      cases h
    · intro h
      omega
  | succ n ih =>
    show i ∈ selN P lo n ++ (if lo ≤ n ∧ P n = true then [n] else []) ↔ _
    rw [List.mem_append, ih]
    constructor
    · rintro (h | h)
      · exact ⟨h.1, by omega, h.2.2⟩
      · by_cases hc : lo ≤ n ∧ P n = true
        · rw [if_pos hc] at h
          have := List.mem_singleton.mp h
          subst this
          exact ⟨hc.1, by omega, hc.2⟩
        · rw [if_neg hc] at h
          cases h
    · rintro ⟨h1, h2, h3⟩
      by_cases hn : i = n
      · subst hn
        exact Or.inr (by rw [if_pos ⟨h1, h3⟩]; exact List.mem_singleton.mpr rfl)
      · exact Or.inl ⟨h1, by omega, h3⟩
theorem getD_mem {L : List Nat} {i : Nat} (h : i < L.length) : L.getD i 0 ∈ L := by
  rw [List.getD_eq_getElem?_getD, List.getElem?_eq_getElem h]
  exact List.getElem_mem h
theorem mem_getD {L : List Nat} {z : Nat} (h : z ∈ L) : ∃ i, i < L.length ∧ L.getD i 0 = z := by
  obtain ⟨i, hi, e⟩ := List.mem_iff_getElem.mp h
  exact ⟨i, hi, by rw [List.getD_eq_getElem?_getD, List.getElem?_eq_getElem hi]; exact e⟩
theorem getD_app {L L2 : List Nat} {i : Nat} (h : i < L.length) : (L ++ L2).getD i 0 = L.getD i 0 := by
  rw [List.getD_eq_getElem?_getD, List.getD_eq_getElem?_getD, List.getElem?_append_left h]
theorem getD_last {L : List Nat} {n : Nat} : (L ++ [n]).getD L.length 0 = n := by
  rw [List.getD_eq_getElem?_getD, List.getElem?_append_right (Nat.le_refl _), Nat.sub_self]
  rfl
/-- an array holds a list of places -/
def holdsL (F : Nat → Int) (L : List Nat) : Prop := ∀ k, k < L.length → F k = ((L.getD k 0 : Nat) : Int)
theorem holdsL_nil {F : Nat → Int} : holdsL F [] := fun k h => absurd h (Nat.not_lt_zero k)
theorem holdsL_push {F : Nat → Int} {L : List Nat} {n : Nat} (h : holdsL F L) : holdsL (bU F L.length (n : Int)) (L ++ [n]) := fun k hk => by
  rw [List.length_append] at hk
  have hk : k < L.length + 1 := hk
  by_cases e : k = L.length
  · subst e
    rw [bU_s]
    rw [getD_last]
  · rw [bU_n e, h k (by omega)]
    rw [getD_app (by omega)]
/-- bits of small numbers -/
theorem iI_n (n : Nat) : iI (n : Int) = nI n := Int32.ofInt_eq_ofNat
theorem iI_and255 {a : Int} (h : 0 ≤ a ∧ a < 2147483648) : iI a &&& iI 255 = iI (a % 256) := by
  obtain ⟨n, rfl⟩ := Int.eq_ofNat_of_zero_le h.1
  rw [iI_n, pk_andN (by omega) 8 (by decide), ← iI_n]
  exact congrArg iI (by omega)
theorem iI_and15 {a : Int} (h : 0 ≤ a ∧ a < 2147483648) : iI a &&& iI 15 = iI (a % 16) := by
  obtain ⟨n, rfl⟩ := Int.eq_ofNat_of_zero_le h.1
  rw [iI_n, pk_andN (by omega) 4 (by decide), ← iI_n]
  exact congrArg iI (by omega)
theorem iI_ushr8 {a : Int} (h : 0 ≤ a ∧ a < 2147483648) : ((iI a).toUInt32 >>> ((iI 8).toUInt32 &&& Int32.toUInt32 31)).toInt32 = iI (a / 256) := by
  obtain ⟨n, rfl⟩ := Int.eq_ofNat_of_zero_le h.1
  rw [iI_n, pk_ushrN (by omega) _ 8 (by decide), ← iI_n]
  exact congrArg iI (by omega)
theorem iI_ushr4 {a : Int} (h : 0 ≤ a ∧ a < 2147483648) : ((iI a).toUInt32 >>> ((iI 4).toUInt32 &&& Int32.toUInt32 31)).toInt32 = iI (a / 16) := by
  obtain ⟨n, rfl⟩ := Int.eq_ofNat_of_zero_le h.1
  rw [iI_n, pk_ushrN (by omega) _ 4 (by decide), ← iI_n]
  exact congrArg iI (by omega)
theorem iI_shr8 {a : Int} (h : 0 ≤ a ∧ a < 2147483648) : iI a >>> (iI 8 &&& 31) = iI (a / 256) := by
  obtain ⟨n, rfl⟩ := Int.eq_ofNat_of_zero_le h.1
  rw [iI_n, pk_shrN (by omega) _ 8 (by decide), ← iI_n]
  exact congrArg iI (by omega)
/-- byte j of a read's row -/
def rB (ref pos bin : Int) (no nb : Nat) (O B : Nat → Int) (j : Nat) : Int :=
  if j = 0 then ((6 + no + (nb + 1) / 2 : Nat) : Int) else if j = 1 then ref else if j = 2 then pos % 256 else if j = 3 then pos / 256 else if j = 4 then bin else if j = 5 then (no : Int) else if j = 6 then (nb : Int)
  else if j < 7 + no then O (j - 7) else 16 * B (2 * (j - 7 - no)) + (if 2 * (j - 7 - no) + 1 < nb then B (2 * (j - 7 - no) + 1) else 0)
/-- a row's length -/
abbrev rL (no nb : Nat) : Nat := 7 + no + (nb + 1) / 2
end
section
/-! words of 32 bits as iI (c : Int), c < 2^32; the sum of bytes; numbers in bytes -/
theorem bw_xor (a b : Nat) : nI a ^^^ nI b = nI (a ^^^ b) := Int32.toBitVec_inj.1 (BitVec.eq_of_toNat_eq (by
  show (BitVec.ofNat 32 a ^^^ BitVec.ofNat 32 b).toNat = (BitVec.ofNat 32 (a ^^^ b)).toNat
  simp [BitVec.toNat_xor, BitVec.toNat_ofNat, Nat.xor_mod_two_pow]))
theorem bw_or (a b : Nat) : nI a ||| nI b = nI (a ||| b) := Int32.toBitVec_inj.1 (BitVec.eq_of_toNat_eq (by
  show (BitVec.ofNat 32 a ||| BitVec.ofNat 32 b).toNat = (BitVec.ofNat 32 (a ||| b)).toNat
  simp [BitVec.toNat_or, BitVec.toNat_ofNat, Nat.or_mod_two_pow]))
theorem iI_inj32 {a b : Nat} (ha : a < 4294967296) (hb : b < 4294967296) (h : iI (a : Int) = iI (b : Int)) : a = b := by
  rw [iI_n, iI_n] at h
  have h2 : (nI a).toBitVec.toNat = (nI b).toBitVec.toNat := congrArg (fun x : Int32 => x.toBitVec.toNat) h
  rw [pk_tn (by omega), pk_tn (by omega)] at h2
  exact h2
theorem iI_xorN (a b : Nat) : iI (a : Int) ^^^ iI (b : Int) = iI ((a ^^^ b : Nat) : Int) := by rw [iI_n, iI_n, bw_xor, iI_n]
theorem iI_xorV (a : Nat) {v : Int} (hv : 0 ≤ v) : iI (a : Int) ^^^ iI v = iI ((a ^^^ v.toNat : Nat) : Int) := by
  obtain ⟨n, rfl⟩ := Int.eq_ofNat_of_zero_le hv
  exact iI_xorN a n
theorem iI_xorVV {v w : Int} (hv : 0 ≤ v) (hw : 0 ≤ w) : iI v ^^^ iI w = iI ((v.toNat ^^^ w.toNat : Nat) : Int) := by
  obtain ⟨n, rfl⟩ := Int.eq_ofNat_of_zero_le hv
  exact iI_xorV n hw
theorem iI_m1 : iI (-1) = iI ((4294967295 : Nat) : Int) := by decide
theorem iI_mask : iI (-306674912) = iI ((3988292384 : Nat) : Int) := by decide
theorem iI_xorM (a : Nat) : iI (a : Int) ^^^ iI (-306674912) = iI ((a ^^^ 3988292384 : Nat) : Int) := by rw [iI_mask, iI_xorN]
theorem iI_not (a : Nat) : iI (a : Int) ^^^ iI (-1) = iI ((a ^^^ 4294967295 : Nat) : Int) := by rw [iI_m1, iI_xorN]
theorem iI_and1 {a : Nat} (h : a < 4294967296) : iI (a : Int) &&& iI 1 = iI ((a % 2 : Nat) : Int) := by
  rw [iI_n, pk_andN (by omega) 1 (by decide), iI_n]
theorem iI_andB {a : Nat} (h : a < 4294967296) : iI (a : Int) &&& iI 255 = iI ((a % 256 : Nat) : Int) := by
  rw [iI_n, pk_andN (by omega) 8 (by decide), iI_n]
theorem iI_andW {a : Nat} (h : a < 4294967296) : iI (a : Int) &&& iI 65535 = iI ((a % 65536 : Nat) : Int) := by
  rw [iI_n, pk_andN (by omega) 16 (by decide), iI_n]
theorem iI_andm1 : iI (-1) &&& iI 255 = iI 255 := by decide
theorem iI_ushr1 {a : Nat} (h : a < 4294967296) : ((iI (a : Int)).toUInt32 >>> ((iI 1).toUInt32 &&& Int32.toUInt32 31)).toInt32 = iI ((a / 2 : Nat) : Int) := by
  rw [iI_n, pk_ushrN (by omega) _ 1 (by decide), iI_n]
/-- a word's byte i, 0 to 3 -/
theorem iI_ushrB {a i : Nat} (h : a < 4294967296) (hi : i < 4) : ((iI (a : Int)).toUInt32 >>> ((iI ((8 * i : Nat) : Int)).toUInt32 &&& Int32.toUInt32 31)).toInt32 = iI ((a / 256 ^ i : Nat) : Int) := by
  have hk : ∀ j, j < 4 → (((iI ((8 * j : Nat) : Int)).toUInt32 &&& Int32.toUInt32 31).toBitVec % 32).toNat = 8 * j := by decide
  rw [iI_n a, pk_ushrN (by omega) _ (8 * i) (hk i hi), iI_n, Nat.pow_mul]
theorem iI_shlB {a i : Nat} (h : a < 256) (hi : i < 4) : iI (a : Int) <<< (iI ((8 * i : Nat) : Int) &&& 31) = iI ((a * 256 ^ i : Nat) : Int) := by
  have hk : ∀ j, j < 4 → ((iI ((8 * j : Nat) : Int) &&& 31).toBitVec.smod 32).toNat = 8 * j := by decide
  have hp : (2 : Nat) ^ (8 * i) = 256 ^ i := by rw [Nat.pow_mul]
  have hb : (256 : Nat) ^ i ≤ 16777216 := by
    have h4 : ∀ j, j < 4 → 256 ^ j ≤ 16777216 := by decide
    exact h4 i hi
  rw [iI_n a, pk_shlN _ (8 * i) (hk i hi) (by rw [hp]; exact Nat.lt_of_le_of_lt (Nat.mul_le_mul (show a ≤ 255 by omega) hb) (by decide)), hp, iI_n]
theorem iI_shl1 {i : Int} (hi : 0 ≤ i ∧ i ≤ 7) : iI 1 <<< (iI i &&& 31) = iI ((2 ^ i.toNat : Nat) : Int) := by
  have hk : ∀ j, j < 8 → iI 1 <<< (iI ((j : Nat) : Int) &&& 31) = iI ((2 ^ j : Nat) : Int) := by decide
  obtain ⟨n, rfl⟩ := Int.eq_ofNat_of_zero_le hi.1
  exact hk n (by omega)
/-- one step of the sum; k steps; a byte; n bytes of F from f on -/
def crc1 (c : Nat) : Nat := if c % 2 = 1 then (c / 2) ^^^ 3988292384 else c / 2
def crcK (c : Nat) : Nat → Nat
  | 0 => c
  | k + 1 => crc1 (crcK c k)
def crcN (F : Nat → Int) (f : Nat) : Nat → Nat
  | 0 => 4294967295
  | n + 1 => crcK (crcN F f n ^^^ (F (f + n)).toNat) 8
theorem crcK_odd {c k : Nat} (h : crcK c k % 2 = 1) : crcK c (k + 1) = (crcK c k / 2) ^^^ 3988292384 := by
  show (if crcK c k % 2 = 1 then _ else _) = _
  rw [if_pos h]
theorem crcK_even {c k : Nat} (h : ¬ crcK c k % 2 = 1) : crcK c (k + 1) = crcK c k / 2 := by
  show (if crcK c k % 2 = 1 then _ else _) = _
  rw [if_neg h]
theorem xor32 {a b : Nat} (ha : a < 4294967296) (hb : b < 4294967296) : a ^^^ b < 4294967296 := Nat.xor_lt_two_pow (n := 32) ha hb
theorem crc1_lt {c : Nat} (h : c < 4294967296) : crc1 c < 4294967296 := by
  unfold crc1
  split
  · exact xor32 (by omega) (by decide)
  · omega
theorem crcK_lt {c k : Nat} (h : c < 4294967296) : crcK c k < 4294967296 := by
  induction k with
  | zero => exact h
  | succ k ih => exact crc1_lt ih
theorem crcN_lt {F : Nat → Int} {f n : Nat} (h : ∀ j, j < n → 0 ≤ F (f + j) ∧ F (f + j) ≤ 255) : crcN F f n < 4294967296 := by
  induction n with
  | zero => exact (by decide : (4294967295 : Nat) < 4294967296)
  | succ n ih =>
    have h1 := h n (by omega)
    exact crcK_lt (xor32 (ih (fun j hj => h j (by omega))) (by omega))
theorem crcN_congr {F F' : Nat → Int} {f f' n : Nat} (h : ∀ j, j < n → F (f + j) = F' (f' + j)) : crcN F f n = crcN F' f' n := by
  induction n with
  | zero => rfl
  | succ n ih =>
    show crcK (crcN F f n ^^^ (F (f + n)).toNat) 8 = crcK (crcN F' f' n ^^^ (F' (f' + n)).toNat) 8
    rw [ih (fun j hj => h j (by omega)), h n (by omega)]
/-- a step loses nothing -/
theorem crc1_inj {a b : Nat} (ha : a < 4294967296) (hb : b < 4294967296) (h : crc1 a = crc1 b) : a = b := by
  have top : ∀ x : Nat, x < 2147483648 → (x ^^^ 3988292384).testBit 31 = true := fun x hx => by
    rw [Nat.testBit_xor, Nat.testBit_lt_two_pow (show x < 2 ^ 31 from hx)]
    decide
  have low : ∀ x : Nat, x < 2147483648 → x.testBit 31 = false := fun x hx => Nat.testBit_lt_two_pow (show x < 2 ^ 31 from hx)
  unfold crc1 at h
  by_cases h1 : a % 2 = 1 <;> by_cases h2 : b % 2 = 1
  · rw [if_pos h1, if_pos h2] at h
    have h3 : a / 2 = b / 2 := by
      have := congrArg (fun z => z ^^^ 3988292384) h
      simpa [Nat.xor_assoc] using this
    omega
  · rw [if_pos h1, if_neg h2] at h
    have h3 := top (a / 2) (by omega)
    rw [h, low (b / 2) (by omega)] at h3
    cases h3
  · rw [if_neg h1, if_pos h2] at h
    have h3 := top (b / 2) (by omega)
    rw [← h, low (a / 2) (by omega)] at h3
    cases h3
  · rw [if_neg h1, if_neg h2] at h
    omega
theorem crcK_inj {a b k : Nat} (ha : a < 4294967296) (hb : b < 4294967296) (h : crcK a k = crcK b k) : a = b := by
  induction k with
  | zero => exact h
  | succ k ih => exact ih (crc1_inj (crcK_lt ha) (crcK_lt hb) h)
theorem xor_can {a b c : Nat} (h : a ^^^ c = b ^^^ c) : a = b := by
  have := congrArg (fun z => z ^^^ c) h
  simpa [Nat.xor_assoc] using this
theorem xor_can2 {a b c : Nat} (h : c ^^^ a = c ^^^ b) : a = b := by
  rw [Nat.xor_comm c a, Nat.xor_comm c b] at h
  exact xor_can h
/-- one byte that differs is noticed -/
theorem crcN_one {F F' : Nat → Int} {f n i : Nat} (hF : ∀ j, j < n → 0 ≤ F (f + j) ∧ F (f + j) ≤ 255) (hF' : ∀ j, j < n → 0 ≤ F' (f + j) ∧ F' (f + j) ≤ 255) (hi : i < n) (hne : F (f + i) ≠ F' (f + i)) (hsame : ∀ j, j < n → j ≠ i → F (f + j) = F' (f + j)) : crcN F f n ≠ crcN F' f n := by
  induction n with
  | zero => omega
  | succ n ih =>
    intro h
    have h1 := crcN_lt (F := F) (f := f) (n := n) (fun j hj => hF j (by omega))
    have h2 := crcN_lt (F := F') (f := f) (n := n) (fun j hj => hF' j (by omega))
    have h3 := hF n (by omega)
    have h4 := hF' n (by omega)
    have h5 : crcN F f n ^^^ (F (f + n)).toNat = crcN F' f n ^^^ (F' (f + n)).toNat := crcK_inj (xor32 h1 (by omega)) (xor32 h2 (by omega)) h
    by_cases e : i = n
    · subst e
      rw [crcN_congr (F := F) (F' := F') (f := f) (f' := f) (fun j hj => hsame j (by omega) (by omega))] at h5
      have h6 := xor_can2 h5
      exact hne (by omega)
    · rw [hsame n (by omega) (fun q => e q.symm)] at h5
      exact ih (fun j hj => hF j (by omega)) (fun j hj => hF' j (by omega)) (by omega) (fun j hj => hsame j (by omega)) (xor_can h5)
/-- the number in n bytes of F from f on, the lowest first -/
def numN (F : Nat → Int) (f : Nat) : Nat → Nat
  | 0 => 0
  | n + 1 => numN F f n + (F (f + n)).toNat * 256 ^ n
theorem numN_lt {F : Nat → Int} {f n : Nat} (h : ∀ j, j < n → 0 ≤ F (f + j) ∧ F (f + j) ≤ 255) : numN F f n < 256 ^ n := by
  induction n with
  | zero => exact (by decide : (0 : Nat) < 1)
  | succ n ih =>
    have h1 := ih (fun j hj => h j (by omega))
    have h2 := h n (by omega)
    show numN F f n + (F (f + n)).toNat * 256 ^ n < 256 ^ (n + 1)
    rw [Nat.pow_succ]
    have h3 : (F (f + n)).toNat * 256 ^ n ≤ 255 * 256 ^ n := Nat.mul_le_mul_right _ (by omega)
    omega
theorem or_add {a b n : Nat} (h : a < 256 ^ n) : a ||| b * 256 ^ n = a + b * 256 ^ n := by
  have hp : (256 : Nat) ^ n = 2 ^ (8 * n) := by rw [Nat.pow_mul]
  rw [hp] at h ⊢
  rw [Nat.or_comm, Nat.mul_comm, ← Nat.two_pow_add_eq_or_of_lt h, Nat.add_comm]
theorem iI_orB {a b n : Nat} (h : a < 256 ^ n) : iI (a : Int) ||| iI ((b * 256 ^ n : Nat) : Int) = iI ((a + b * 256 ^ n : Nat) : Int) := by
  rw [iI_n, iI_n, bw_or, or_add h, iI_n]
/-- bytes of c appended at z -/
def apN (F : Nat → Int) (z c k : Nat) : Nat → Int := fun j => if z ≤ j ∧ j < z + k then ((c / 256 ^ (j - z) % 256 : Nat) : Int) else F j
theorem apN_0 (F : Nat → Int) (z c : Nat) : apN F z c 0 = F := funext fun j => if_neg (by omega)
theorem apN_s (F : Nat → Int) (z c k : Nat) : bU (apN F z c k) (z + k) ((c / 256 ^ k % 256 : Nat) : Int) = apN F z c (k + 1) := by
  funext j
  unfold bU apN
  by_cases e : j = z + k
  · subst e
    rw [if_pos rfl, if_pos (by omega), Nat.add_sub_cancel_left]
  · rw [if_neg e]
    by_cases h : z ≤ j ∧ j < z + k
    · rw [if_pos h, if_pos (by omega)]
    · rw [if_neg h, if_neg (by omega)]
/-- byte t of the block of cnt bytes of F from f on -/
def blkB (F : Nat → Int) (f cnt t : Nat) : Int :=
  if t = 0 then 31 else if t = 1 then 139 else if t = 2 then 1 else if t < 5 then ((cnt / 256 ^ (t - 3) % 256 : Nat) : Int) else if t < 7 then (((cnt ^^^ 4294967295) / 256 ^ (t - 5) % 256 : Nat) : Int)
  else if t < 7 + cnt then F (f + (t - 7)) else (((crcN F f cnt ^^^ 4294967295) / 256 ^ (t - 7 - cnt) % 256 : Nat) : Int)
/-- SB from f on, t bytes of it, copied into F at z -/
def cpN (F : Nat → Int) (z : Nat) (SB : Nat → Int) (f t : Nat) : Nat → Int := fun j => if z ≤ j ∧ j < z + t then SB (f + (j - z)) else F j
theorem cpN_0 (F : Nat → Int) (z : Nat) (SB : Nat → Int) (f : Nat) : cpN F z SB f 0 = F := funext fun j => if_neg (by omega)
theorem cpN_s (F : Nat → Int) (z : Nat) (SB : Nat → Int) (f t : Nat) : bU (cpN F z SB f t) (z + t) (SB (f + t)) = cpN F z SB f (t + 1) := by
  funext j
  unfold bU cpN
  by_cases e : j = z + t
  · subst e
    rw [if_pos rfl, if_pos (by omega), Nat.add_sub_cancel_left]
  · rw [if_neg e]
    by_cases h : z ≤ j ∧ j < z + t
    · rw [if_pos h, if_pos (by omega)]
    · rw [if_neg h, if_neg (by omega)]
theorem cpN_in {F SB : Nat → Int} {z f t j : Nat} (h : j < t) : cpN F z SB f t (z + j) = SB (f + j) := by
  unfold cpN
  rw [if_pos (by omega), Nat.add_sub_cancel_left]
/-- what a disk is once a block is appended, in the steps in which it is written -/
def hdN (DB : Nat → Int) (sz k : Nat) : Nat → Int := apN (apN (bU (bU (bU DB sz 31) (sz + 1) 139) (sz + 1 + 1) 1) (sz + 1 + 1 + 1) k 2) (sz + 1 + 1 + 1 + 2) (k ^^^ 4294967295) 2
def bkN (DB SB : Nat → Int) (sz f k : Nat) : Nat → Int := apN (cpN (hdN DB sz k) (sz + 7) SB f k) (sz + 7 + k) (crcN SB f k ^^^ 4294967295) 4
theorem hdN_lo {DB : Nat → Int} {sz k j : Nat} (h : j < sz) : hdN DB sz k j = DB j := by
  unfold hdN apN bU
  rw [if_neg (by omega), if_neg (by omega), if_neg (by omega), if_neg (by omega), if_neg (by omega)]
theorem hdN_hi {DB : Nat → Int} {sz k t : Nat} (h : t < 7) : hdN DB sz k (sz + t) = blkB DB 0 k t := by
  unfold hdN apN bU blkB
  rcases (show t = 0 ∨ t = 1 ∨ t = 2 ∨ t = 3 ∨ t = 4 ∨ t = 5 ∨ t = 6 by omega) with rfl | rfl | rfl | rfl | rfl | rfl | rfl
  · rw [if_neg (by omega), if_neg (by omega), if_neg (by omega), if_neg (by omega), if_pos (by omega), if_pos rfl]
  · rw [if_neg (by omega), if_neg (by omega), if_neg (by omega), if_pos (by omega), if_neg (by omega), if_pos rfl]
  · rw [if_neg (by omega), if_neg (by omega), if_pos (by omega), if_neg (by omega), if_neg (by omega), if_pos rfl]
  · rw [if_neg (by omega), if_pos (by omega), if_neg (by omega), if_neg (by omega), if_neg (by omega), if_pos (by omega), show sz + 3 - (sz + 1 + 1 + 1) = 3 - 3 by omega]
  · rw [if_neg (by omega), if_pos (by omega), if_neg (by omega), if_neg (by omega), if_neg (by omega), if_pos (by omega), show sz + 4 - (sz + 1 + 1 + 1) = 4 - 3 by omega]
  · rw [if_pos (by omega), if_neg (by omega), if_neg (by omega), if_neg (by omega), if_neg (by omega), if_pos (by omega), show sz + 5 - (sz + 1 + 1 + 1 + 2) = 5 - 5 by omega]
  · rw [if_pos (by omega), if_neg (by omega), if_neg (by omega), if_neg (by omega), if_neg (by omega), if_pos (by omega), show sz + 6 - (sz + 1 + 1 + 1 + 2) = 6 - 5 by omega]
theorem blkB_head {F F' : Nat → Int} {f f' k t : Nat} (h : t < 7) : blkB F f k t = blkB F' f' k t := by
  unfold blkB
  rcases (show t = 0 ∨ t = 1 ∨ t = 2 ∨ t = 3 ∨ t = 4 ∨ t = 5 ∨ t = 6 by omega) with rfl | rfl | rfl | rfl | rfl | rfl | rfl <;> rfl
theorem blkB_rg {F : Nat → Int} {f k t : Nat} (hF : ∀ j, j < k → 0 ≤ F (f + j) ∧ F (f + j) ≤ 255) : 0 ≤ blkB F f k t ∧ blkB F f k t ≤ 255 := by
  unfold blkB
  split
  · omega
  · split
    · omega
    · split
      · omega
      · split
        · omega
        · split
          · omega
          · split
            · exact hF (t - 7) (by omega)
            · omega
theorem blk_cp {DB SB : Nat → Int} {sz sl f k n : Nat} (hDB : ∀ j, j < sz → 0 ≤ DB j ∧ DB j ≤ 255) (hSB : ∀ j, j < sl → 0 ≤ SB j ∧ SB j ≤ 255) (hfk : f + k ≤ sl) (hn : n ≤ sz + 7 + k) : ∀ j, j < n → 0 ≤ cpN (hdN DB sz k) (sz + 7) SB f k j ∧ cpN (hdN DB sz k) (sz + 7) SB f k j ≤ 255 := by
  intro j hj
  unfold cpN
  by_cases h : sz + 7 ≤ j ∧ j < sz + 7 + k
  · rw [if_pos h]
    exact hSB _ (by omega)
  · rw [if_neg h]
    by_cases h2 : j < sz
    · rw [hdN_lo h2]
      exact hDB j h2
    · obtain ⟨t, rfl⟩ : ∃ t, j = sz + t := ⟨j - sz, by omega⟩
      rw [hdN_hi (show t < 7 by omega), blkB_head (F' := SB) (f' := f) (show t < 7 by omega)]
      exact blkB_rg (fun j hj => hSB _ (by omega))
theorem bkN_lo {DB SB : Nat → Int} {sz f k j : Nat} (h : j < sz) : bkN DB SB sz f k j = DB j := by
  unfold bkN apN cpN
  rw [if_neg (by omega), if_neg (by omega), hdN_lo h]
theorem bkN_hi {DB SB : Nat → Int} {sz f k t : Nat} (h : t < k + 11) : bkN DB SB sz f k (sz + t) = blkB SB f k t := by
  by_cases h7 : t < 7
  · unfold bkN apN cpN
    rw [if_neg (by omega), if_neg (by omega), hdN_hi h7]
    exact blkB_head h7
  · unfold bkN apN cpN blkB
    rw [if_neg (show ¬ t = 0 by omega), if_neg (show ¬ t = 1 by omega), if_neg (show ¬ t = 2 by omega), if_neg (show ¬ t < 5 by omega), if_neg h7]
    by_cases hk : t < 7 + k
    · rw [if_neg (by omega), if_pos (by omega), if_pos hk, show sz + t - (sz + 7) = t - 7 by omega]
    · rw [if_pos (by omega), if_neg hk, show sz + t - (sz + 7 + k) = t - 7 - k by omega]
/-- the check of the block that begins at st -/
def sndN (DB : Nat → Int) (sz st : Nat) : Prop := DB st = 31 ∧ DB (st + 1) = 139 ∧ DB (st + 2) = 1 ∧ numN DB (st + 5) 2 = (numN DB (st + 3) 2 ^^^ 4294967295) % 65536 ∧ st + 7 + numN DB (st + 3) 2 + 4 ≤ sz ∧ numN DB (st + 7 + numN DB (st + 3) 2) 4 = crcN DB (st + 7) (numN DB (st + 3) 2) ^^^ 4294967295
/-- byte j of the stream, as it lies on the disk -/
def sbD (DB KS : Nat → Int) (j : Nat) : Int := DB ((KS (j / 40)).toNat + 7 + j % 40)
theorem rwF_some {R : Nat → Nat} {j : Nat} (h : j < 24) : rwF R j = some (R j) := if_pos h
theorem gU_ne {G : Nat → Nat → Int} {k j z : Nat} {v : Int} (h : z ≠ k) : gU G k j v z = G z := if_neg h
theorem gU_row {G : Nat → Nat → Int} {S : Nat → Int} {k i t : Nat} (h : ∀ t, t < i → G k t = S t) (ht : t < i + 1) : gU G k i (S i) k t = S t := by
  unfold gU
  rw [if_pos rfl]
  by_cases e : t = i
  · subst e
    exact bU_s
  · rw [bU_n e]
    exact h t (by omega)
/-- the reference's sum of the lengths of ops of three kinds -/
def sumK (K L : Nat → Int) (x y z : Int) : Nat → Int
  | 0 => 0
  | n + 1 => sumK K L x y z n + (if K n = x ∨ K n = y ∨ K n = z then L n else 0)
theorem sumK_yes {K L : Nat → Int} {x y z : Int} {n : Nat} (h : K n = x ∨ K n = y ∨ K n = z) : sumK K L x y z (n + 1) = sumK K L x y z n + L n := by
  show sumK K L x y z n + (if K n = x ∨ K n = y ∨ K n = z then L n else 0) = _
  rw [if_pos h]
theorem sumK_no {K L : Nat → Int} {x y z : Int} {n : Nat} (h : ¬ (K n = x ∨ K n = y ∨ K n = z)) : sumK K L x y z (n + 1) = sumK K L x y z n := by
  show sumK K L x y z n + (if K n = x ∨ K n = y ∨ K n = z then L n else 0) = _
  rw [if_neg h, Int.add_zero]
theorem sumK_rg {K L : Nat → Int} {x y z : Int} {n : Nat} (h : ∀ t, t < n → 1 ≤ L t ∧ L t ≤ 63) : 0 ≤ sumK K L x y z n ∧ sumK K L x y z n ≤ 63 * n := by
  induction n with
  | zero => exact ⟨Int.le_refl _, by show (0 : Int) ≤ _; omega⟩
  | succ n ih =>
    have h1 := ih (fun t ht => h t (by omega))
    have h2 := h n (by omega)
    show 0 ≤ sumK K L x y z n + (if K n = x ∨ K n = y ∨ K n = z then L n else 0) ∧ sumK K L x y z n + (if K n = x ∨ K n = y ∨ K n = z then L n else 0) ≤ _
    split <;> omega
/-- byte k of a disk of which the bit u (8 * byte + bit, or -1) is turned -/
def byN (Dk : Nat → Int) (u k : Int) : Int := if 0 ≤ u ∧ u / 8 = k then (((Dk k.toNat).toNat ^^^ ((2 ^ (u % 8).toNat : Nat) : Int).toNat : Nat) : Int) else Dk k.toNat
theorem byN_yes {Dk : Nat → Int} {u k : Int} (h : 0 ≤ u ∧ u / 8 = k) : byN Dk u k = (((Dk k.toNat).toNat ^^^ ((2 ^ (u % 8).toNat : Nat) : Int).toNat : Nat) : Int) := if_pos h
theorem byN_no {Dk : Nat → Int} {u k : Int} (h : ¬ (0 ≤ u ∧ u / 8 = k)) : byN Dk u k = Dk k.toNat := if_neg h
theorem bin_facts (n : Int) : (9 ≤ n → binB n = 64 * (n - 9) ∧ binE n = 64 * (n - 9) + 64) ∧ (1 ≤ n → n < 9 → binB n = 512 * (n - 1) ∧ binE n = 512 * (n - 1) + 512) ∧ (n < 1 → binB n = 0 ∧ binE n = 4096) := by
  unfold binB binE
  refine ⟨fun h => ?_, fun h1 h2 => ?_, fun h => ?_⟩
  · rw [if_pos h, if_pos h]
    exact ⟨rfl, rfl⟩
  · rw [if_neg (by omega), if_pos h1, if_neg (by omega), if_pos h1]
    exact ⟨rfl, rfl⟩
  · rw [if_neg (by omega), if_neg (by omega), if_neg (by omega), if_neg (by omega)]
    exact ⟨rfl, rfl⟩
/-- what found tells of read r -/
def fndN (Bg Ps En Oc Bc : Nat → Int) (r : Nat) (v : Int) : Int := if v = 0 then 3264 * (Bg r / 40) + Bg r % 40 else if v = 1 then Ps r else if v = 2 then binI (Ps r) (En r) else if v = 3 then En r else if v = 4 then Oc r else if v = 5 then Bc r else -1
/-- a row's first seven bytes, as they are appended -/
def r7N (v0 : Int) (SB : Nat → Int) (sl : Nat) (x y b : Int) (no nb : Nat) : Nat → Int := bU (bU (bU (bU (bU (bU (bU SB sl v0) (sl + 1) x) (sl + 1 + 1) (y % 256)) (sl + 1 + 1 + 1) (y / 256)) (sl + 1 + 1 + 1 + 1) b) (sl + 1 + 1 + 1 + 1 + 1) (no : Int)) (sl + 1 + 1 + 1 + 1 + 1 + 1) (nb : Int)
theorem r7_lo {v0 : Int} {SB : Nat → Int} {sl : Nat} {x y b : Int} {no nb j : Nat} (h : j < sl) : r7N v0 SB sl x y b no nb j = SB j := by
  unfold r7N
  rw [bU_n (by omega), bU_n (by omega), bU_n (by omega), bU_n (by omega), bU_n (by omega), bU_n (by omega), bU_n (by omega)]
theorem r7_hi {v0 : Int} {SB : Nat → Int} {sl : Nat} {x y b : Int} {no nb j : Nat} {O B : Nat → Int} (h1 : 1 ≤ j) (h2 : j < 7) : r7N v0 SB sl x y b no nb (sl + j) = rB x y b no nb O B j := by
  unfold r7N rB bU
  rcases (show j = 1 ∨ j = 2 ∨ j = 3 ∨ j = 4 ∨ j = 5 ∨ j = 6 by omega) with rfl | rfl | rfl | rfl | rfl | rfl
  · rw [if_neg (by omega), if_neg (by omega), if_neg (by omega), if_neg (by omega), if_neg (by omega), if_pos (by omega)]
    rfl
  · rw [if_neg (by omega), if_neg (by omega), if_neg (by omega), if_neg (by omega), if_pos (by omega)]
    rfl
  · rw [if_neg (by omega), if_neg (by omega), if_neg (by omega), if_pos (by omega)]
    rfl
  · rw [if_neg (by omega), if_neg (by omega), if_pos (by omega)]
    rfl
  · rw [if_neg (by omega), if_pos (by omega)]
    rfl
  · rw [if_pos (by omega)]
    rfl
theorem rB_op {x y b : Int} {no nb i : Nat} {O B : Nat → Int} (h : i < no) : rB x y b no nb O B (7 + i) = O i := by
  unfold rB
  rw [if_neg (by omega), if_neg (by omega), if_neg (by omega), if_neg (by omega), if_neg (by omega), if_neg (by omega), if_neg (by omega), if_pos (by omega), Nat.add_sub_cancel_left]
theorem rB_pair {x y b : Int} {no nb t : Nat} {O B : Nat → Int} : rB x y b no nb O B (7 + no + t) = 16 * B (2 * t) + (if 2 * t + 1 < nb then B (2 * t + 1) else 0) := by
  unfold rB
  rw [if_neg (by omega), if_neg (by omega), if_neg (by omega), if_neg (by omega), if_neg (by omega), if_neg (by omega), if_neg (by omega), if_neg (by omega), show 7 + no + t - 7 - no = t by omega]
theorem row_up {S2 f : Nat → Int} {sl n : Nat} {v : Int} (h : ∀ j, 1 ≤ j → j < n → S2 (sl + j) = f j) (hv : v = f n) : ∀ j, 1 ≤ j → j < n + 1 → bU S2 (sl + n) v (sl + j) = f j := fun j h1 h2 => by
  by_cases e : j = n
  · subst e
    rw [bU_s, hv]
  · rw [bU_n (by omega)]
    exact h j h1 (by omega)
theorem r7_hi0 {SB : Nat → Int} {sl : Nat} {x y b : Int} {no nb j : Nat} {O B : Nat → Int} (h2 : j < 7) : r7N ((6 + no + (nb + 1) / 2 : Nat) : Int) SB sl x y b no nb (sl + j) = rB x y b no nb O B j := by
  by_cases h : j = 0
  · subst h
    unfold r7N rB bU
    rw [if_neg (by omega), if_neg (by omega), if_neg (by omega), if_neg (by omega), if_neg (by omega), if_neg (by omega), if_pos (by omega), if_pos rfl]
  · exact r7_hi (by omega) h2
theorem row_up0 {S2 f : Nat → Int} {sl n : Nat} {v : Int} (h : ∀ j, j < n → S2 (sl + j) = f j) (hv : v = f n) : ∀ j, j < n + 1 → bU S2 (sl + n) v (sl + j) = f j := fun j h2 => by
  by_cases e : j = n
  · subst e
    rw [bU_s, hv]
  · rw [bU_n (by omega)]
    exact h j (by omega)
theorem lo_up {S2 SB : Nat → Int} {sl n : Nat} {v : Int} (h : ∀ j, j < sl → S2 j = SB j) : ∀ j, j < sl → bU S2 (sl + n) v j = SB j := fun j hj => (bU_n (by omega)).trans (h j hj)
/-- a byte of a word, by an arithmetic shift -/
theorem sarB {c i : Nat} (h : c < 4294967296) (hi : i < 4) : (iI (c : Int) >>> (iI ((8 * i : Nat) : Int) &&& 31)) &&& iI 255 = iI ((c / 256 ^ i % 256 : Nat) : Int) := by
  have hk : ∀ j, j < 4 → ((iI ((8 * j : Nat) : Int) &&& 31).toBitVec.smod 32).toNat = 8 * j := by decide
  have h1 := pk_shr (iI (c : Int)) (iI ((8 * i : Nat) : Int) &&& 31) (8 * i) (hk i hi)
  have hm : (iI 255).toBitVec.toNat = 2 ^ 8 - 1 := by decide
  generalize (iI (c : Int) >>> (iI ((8 * i : Nat) : Int) &&& 31)) = x at h1 ⊢
  rw [pk_and _ 8 hm, iI_n]
  refine congrArg nI ?_
  have e1 : (iI (c : Int)).toBitVec.toNat = c := by rw [iI_n]; exact pk_tn h
  have e2 : (iI (c : Int)).toInt = if 2 * c < 4294967296 then (c : Int) else (c : Int) - 4294967296 := by
    show (iI (c : Int)).toBitVec.toInt = _
    rw [BitVec.toInt_eq_toNat_cond, e1]
    rfl
  have e3 : x.toInt = if 2 * x.toBitVec.toNat < 4294967296 then (x.toBitVec.toNat : Int) else (x.toBitVec.toNat : Int) - 4294967296 := by
    show x.toBitVec.toInt = _
    rw [BitVec.toInt_eq_toNat_cond]
    rfl
  rw [Int.shiftRight_eq_div_pow, e2, e3] at h1
  have hx := x.toBitVec.isLt
  generalize x.toBitVec.toNat = y at h1 hx ⊢
  rcases (show i = 0 ∨ i = 1 ∨ i = 2 ∨ i = 3 by omega) with rfl | rfl | rfl | rfl
  · have h2 : (if 2 * y < 4294967296 then (y : Int) else (y : Int) - 4294967296) = (if 2 * c < 4294967296 then (c : Int) else (c : Int) - 4294967296) / 1 := h1
    show y % 256 = c / 1 % 256
    split at h2 <;> split at h2 <;> omega
  · have h2 : (if 2 * y < 4294967296 then (y : Int) else (y : Int) - 4294967296) = (if 2 * c < 4294967296 then (c : Int) else (c : Int) - 4294967296) / 256 := h1
    show y % 256 = c / 256 % 256
    split at h2 <;> split at h2 <;> omega
  · have h2 : (if 2 * y < 4294967296 then (y : Int) else (y : Int) - 4294967296) = (if 2 * c < 4294967296 then (c : Int) else (c : Int) - 4294967296) / 65536 := h1
    show y % 256 = c / 65536 % 256
    split at h2 <;> split at h2 <;> omega
  · have h2 : (if 2 * y < 4294967296 then (y : Int) else (y : Int) - 4294967296) = (if 2 * c < 4294967296 then (c : Int) else (c : Int) - 4294967296) / 16777216 := h1
    show y % 256 = c / 16777216 % 256
    split at h2 <;> split at h2 <;> omega
theorem and255s {a : Int} (h : 0 ≤ a ∧ a ≤ 255) : iI a &&& iI 255 = iI ((a.toNat : Nat) : Int) := by
  rw [iI_and255 (by omega)]
  exact congrArg iI (by omega)
/-- a block's first seven bytes, as the reference stores them -/
def m7N (Dk : Nat → Int) (mz n : Nat) : Nat → Int := bU (bU (bU (bU (bU (bU (bU Dk mz ((31 : Nat) : Int)) (mz + 1) ((139 : Nat) : Int)) (mz + 1 + 1) ((1 : Nat) : Int)) (mz + 1 + 1 + 1) ((n % 256 : Nat) : Int)) (mz + 1 + 1 + 1 + 1) ((n / 256 ^ 1 % 256 : Nat) : Int)) (mz + 1 + 1 + 1 + 1 + 1) (((n ^^^ 4294967295) % 256 : Nat) : Int)) (mz + 1 + 1 + 1 + 1 + 1 + 1) (((n ^^^ 4294967295) / 256 ^ 1 % 256 : Nat) : Int)
theorem m7_lo {Dk : Nat → Int} {mz n j : Nat} (h : j < mz) : m7N Dk mz n j = Dk j := by
  unfold m7N
  rw [bU_n (by omega), bU_n (by omega), bU_n (by omega), bU_n (by omega), bU_n (by omega), bU_n (by omega), bU_n (by omega)]
theorem m7_hi {Dk Sm : Nat → Int} {mz f n j : Nat} (h : j < 7) : m7N Dk mz n (mz + j) = blkB Sm f n j := by
  unfold m7N blkB bU
  rcases (show j = 0 ∨ j = 1 ∨ j = 2 ∨ j = 3 ∨ j = 4 ∨ j = 5 ∨ j = 6 by omega) with rfl | rfl | rfl | rfl | rfl | rfl | rfl
  · rw [if_neg (by omega), if_neg (by omega), if_neg (by omega), if_neg (by omega), if_neg (by omega), if_neg (by omega), if_pos (by omega)]
    rfl
  · rw [if_neg (by omega), if_neg (by omega), if_neg (by omega), if_neg (by omega), if_neg (by omega), if_pos (by omega)]
    rfl
  · rw [if_neg (by omega), if_neg (by omega), if_neg (by omega), if_neg (by omega), if_pos (by omega)]
    rfl
  · rw [if_neg (by omega), if_neg (by omega), if_neg (by omega), if_pos (by omega)]
    show _ = ((n / 1 % 256 : Nat) : Int)
    rw [Nat.div_one]
  · rw [if_neg (by omega), if_neg (by omega), if_pos (by omega)]
    rfl
  · rw [if_neg (by omega), if_pos (by omega)]
    show _ = (((n ^^^ 4294967295) / 1 % 256 : Nat) : Int)
    rw [Nat.div_one]
  · rw [if_pos (by omega)]
    rfl
theorem blkB_piece {F : Nat → Int} {f n t : Nat} (h : t < n) : blkB F f n (7 + t) = F (f + t) := by
  unfold blkB
  rw [if_neg (by omega), if_neg (by omega), if_neg (by omega), if_neg (by omega), if_neg (by omega), if_pos (by omega), Nat.add_sub_cancel_left]
theorem blkB_tail {F : Nat → Int} {f n k : Nat} : blkB F f n (7 + n + k) = (((crcN F f n ^^^ 4294967295) / 256 ^ k % 256 : Nat) : Int) := by
  unfold blkB
  rw [if_neg (by omega), if_neg (by omega), if_neg (by omega), if_neg (by omega), if_neg (by omega), if_neg (by omega), show 7 + n + k - 7 - n = k by omega]
/-- blocks written one behind the other -/
theorem wr_blk {D2 SB : Nat → Int} {sl b zz : Nat} (h : ∀ z, z < b → ∀ t, t < (min 40 (sl - 40 * z)) + 11 → D2 (51 * z + t) = blkB SB (40 * z) (min 40 (sl - 40 * z)) t) (hz : zz = 51 * b) : ∀ z, z < b + 1 → ∀ t, t < (min 40 (sl - 40 * z)) + 11 → bkN D2 SB zz (40 * b) (min 40 (sl - 40 * b)) (51 * z + t) = blkB SB (40 * z) (min 40 (sl - 40 * z)) t := by
  intro z hzb t ht
  subst hz
  by_cases e : z = b
  · subst e
    exact bkN_hi ht
  · rw [bkN_lo (by omega)]
    exact h z (by omega) t ht
theorem wr_ks {K2 : Nat → Int} {b zz : Nat} (h : ∀ z, z < b → K2 z = ((51 * z : Nat) : Int)) (hz : zz = 51 * b) : ∀ z, z < b + 1 → bU K2 b (zz : Int) z = ((51 * z : Nat) : Int) := by
  intro z hzb
  subst hz
  by_cases e : z = b
  · subst e
    exact bU_s
  · rw [bU_n e]
    exact h z (by omega)
theorem wr_rg {D2 SB : Nat → Int} {zz sl f k : Nat} (h : ∀ j, j < zz → 0 ≤ D2 j ∧ D2 j ≤ 255) (hS : ∀ j, j < sl → 0 ≤ SB j ∧ SB j ≤ 255) (hk : f + k ≤ sl) : ∀ j, j < zz + 7 + k + 4 → 0 ≤ bkN D2 SB zz f k j ∧ bkN D2 SB zz f k j ≤ 255 := by
  intro j hj
  by_cases e : j < zz
  · rw [bkN_lo e]
    exact h j e
  · obtain ⟨t, rfl⟩ : ∃ t, j = zz + t := ⟨j - zz, by omega⟩
    rw [bkN_hi (by omega)]
    exact blkB_rg (fun i hi => hS _ (by omega))
theorem wr_end {D2 K2 SB : Nat → Int} {sl : Nat} (hb : ∀ z, z < (sl + 39) / 40 → ∀ t, t < (min 40 (sl - 40 * z)) + 11 → D2 (51 * z + t) = blkB SB (40 * z) (min 40 (sl - 40 * z)) t) (hk : ∀ z, z < (sl + 39) / 40 → K2 z = ((51 * z : Nat) : Int)) (hr : ∀ j, j < sl + 11 * ((sl + 39) / 40) → 0 ≤ D2 j ∧ D2 j ≤ 255) (hS : ∀ j, j < sl → 0 ≤ SB j ∧ SB j ≤ 255) :
    (∀ z, z < (sl + 39) / 40 → ∀ t, t < (min 40 (sl - 40 * z)) + 11 → bkN D2 SB (sl + 11 * ((sl + 39) / 40)) sl 0 (51 * z + t) = blkB SB (40 * z) (min 40 (sl - 40 * z)) t) ∧ (∀ t, t < 11 → bkN D2 SB (sl + 11 * ((sl + 39) / 40)) sl 0 (sl + 11 * ((sl + 39) / 40) + t) = blkB SB sl 0 t) ∧ (∀ z, z < (sl + 39) / 40 → bU K2 ((sl + 39) / 40) ((sl + 11 * ((sl + 39) / 40) : Nat) : Int) z = ((51 * z : Nat) : Int)) ∧ bU K2 ((sl + 39) / 40) ((sl + 11 * ((sl + 39) / 40) : Nat) : Int) ((sl + 39) / 40) = ((sl + 11 * ((sl + 39) / 40) : Nat) : Int) ∧ (∀ j, j < sl + 11 * ((sl + 39) / 40) + 11 → 0 ≤ bkN D2 SB (sl + 11 * ((sl + 39) / 40)) sl 0 j ∧ bkN D2 SB (sl + 11 * ((sl + 39) / 40)) sl 0 j ≤ 255) := by
  refine ⟨fun z hz t ht => ?_, fun t ht => bkN_hi (by omega), fun z hz => ?_, bU_s, fun j hj => ?_⟩
  · rw [bkN_lo (by omega)]
    exact hb z hz t ht
  · rw [bU_n (by omega)]
    exact hk z hz
  · exact wr_rg (f := sl) (k := 0) hr hS (by omega) j (by omega)
/-- the reference's rows: lengths, starts, bytes -/
def rLI (Oc Bc : Nat → Int) (i : Nat) : Nat := 7 + (Oc i).toNat + ((Bc i).toNat + 1) / 2
def stN (Oc Bc : Nat → Int) : Nat → Nat
  | 0 => 0
  | i + 1 => stN Oc Bc i + rLI Oc Bc i
def rowN (Rf Ps En Oc Ob Bc Bd : Nat → Int) (i : Nat) : Nat → Int := rB (Rf i) (Ps i) (binI (Ps i) (En i)) (Oc i).toNat (Bc i).toNat (fun z => Ob (3 * i + z)) (fun z => Bd (24 * i + z))
theorem stN_le {Oc Bc : Nat → Int} {n : Nat} (h : ∀ i, i < n → (0 ≤ Oc i ∧ Oc i ≤ 3) ∧ (0 ≤ Bc i ∧ Bc i ≤ 24)) {i : Nat} (hi : i ≤ n) : stN Oc Bc i ≤ 22 * i := by
  induction i with
  | zero => exact Nat.le_refl _
  | succ i ih =>
    have h1 := ih (by omega)
    have h2 := h i (by omega)
    show stN Oc Bc i + (7 + (Oc i).toNat + ((Bc i).toNat + 1) / 2) ≤ _
    omega
theorem stN_mono {Oc Bc : Nat → Int} {i j : Nat} (h : i ≤ j) : stN Oc Bc i + 7 * (j - i) ≤ stN Oc Bc j := by
  induction j with
  | zero =>
    rw [show i = 0 by omega]
    exact Nat.le_refl _
  | succ j ih =>
    by_cases e : i = j + 1
    · subst e
      omega
    · have h1 := ih (by omega)
      show _ ≤ stN Oc Bc j + (7 + (Oc j).toNat + ((Bc j).toNat + 1) / 2)
      omega
theorem stN_congr {Oc Bc Oc' Bc' : Nat → Int} {n : Nat} (h : ∀ i, i < n → Oc i = Oc' i ∧ Bc i = Bc' i) : stN Oc Bc n = stN Oc' Bc' n := by
  induction n with
  | zero => rfl
  | succ n ih =>
    show stN Oc Bc n + (7 + (Oc n).toNat + ((Bc n).toNat + 1) / 2) = stN Oc' Bc' n + (7 + (Oc' n).toNat + ((Bc' n).toNat + 1) / 2)
    rw [ih (fun i hi => h i (by omega)), (h n (by omega)).1, (h n (by omega)).2]
/-- every byte of the stream is a byte of some row -/
theorem st_in {Oc Bc : Nat → Int} {n j : Nat} (h : j < stN Oc Bc n) : ∃ i k, i < n ∧ k < rLI Oc Bc i ∧ j = stN Oc Bc i + k := by
  induction n with
  | zero => exact absurd h (Nat.not_lt_zero j)
  | succ n ih =>
    by_cases e : j < stN Oc Bc n
    · obtain ⟨i, k, h1, h2, h3⟩ := ih e
      exact ⟨i, k, by omega, h2, h3⟩
    · have h1 : j < stN Oc Bc n + rLI Oc Bc n := h
      exact ⟨n, j - stN Oc Bc n, by omega, by omega, by omega⟩
/-- a row more: starts and bytes -/
theorem fin_bg {Oc Bc B2 : Nat → Int} {i : Nat} (h : ∀ z, z < i → B2 z = (stN Oc Bc z : Int) ∧ B2 (z + 1) = (stN Oc Bc (z + 1) : Int)) {v w : Int} (hv : v = (stN Oc Bc i : Int)) (hw : w = (stN Oc Bc (i + 1) : Int)) : ∀ z, z < i + 1 → bU (bU B2 i v) (i + 1) w z = (stN Oc Bc z : Int) ∧ bU (bU B2 i v) (i + 1) w (z + 1) = (stN Oc Bc (z + 1) : Int) := by
  intro z hz
  by_cases e : z = i
  · subst e
    rw [bU_n (by omega), bU_s, bU_s]
    exact ⟨hv, hw⟩
  · rw [bU_n (by omega), bU_n e]
    refine ⟨(h z (by omega)).1, ?_⟩
    rw [bU_n (by omega)]
    by_cases e2 : z + 1 = i
    · rw [e2, bU_s, hv]
    · rw [bU_n e2]
      exact (h z (by omega)).2
theorem fin_row {Oc Bc S2 S4 : Nat → Int} {f : Nat → Nat → Int} {i : Nat} (h : ∀ z, z < i → ∀ j, j < rLI Oc Bc z → S2 (stN Oc Bc z + j) = f z j) (h0 : ∀ j, j < stN Oc Bc i → S4 j = S2 j) (h1 : ∀ j, j < rLI Oc Bc i → S4 (stN Oc Bc i + j) = f i j) : ∀ z, z < i + 1 → ∀ j, j < rLI Oc Bc z → S4 (stN Oc Bc z + j) = f z j := by
  intro z hz j hj
  by_cases e : z = i
  · subst e
    exact h1 j hj
  · have h2 := stN_mono (Oc := Oc) (Bc := Bc) (show z + 1 ≤ i by omega)
    have h3 : stN Oc Bc (z + 1) = stN Oc Bc z + rLI Oc Bc z := rfl
    rw [h0 _ (by omega)]
    exact h z (by omega) j hj
/-- a block more on the reference's disk -/
theorem fin_blk {D2 D4 SB : Nat → Int} {sl b zz : Nat} (h : ∀ z, z < b → ∀ t, t < (min 40 (sl - 40 * z)) + 11 → D2 (51 * z + t) = blkB SB (40 * z) (min 40 (sl - 40 * z)) t) (hz : zz = 51 * b) (h0 : ∀ j, j < zz → D4 j = D2 j) (h1 : ∀ t, t < 7 + min 40 (sl - 40 * b) + 4 → D4 (zz + t) = blkB SB (40 * b) (min 40 (sl - 40 * b)) t) : ∀ z, z < b + 1 → ∀ t, t < (min 40 (sl - 40 * z)) + 11 → D4 (51 * z + t) = blkB SB (40 * z) (min 40 (sl - 40 * z)) t := by
  intro z hzb t ht
  subst hz
  by_cases e : z = b
  · subst e
    exact h1 t (by omega)
  · rw [h0 _ (by omega)]
    exact h z (by omega) t ht
/-- what add answers -/
def addC (w : Int) (n no : Nat) (sp wd : Int) (nb : Nat) (x y lr lp : Int) : Int :=
  if w = 1 ∨ 24 ≤ n then -1 else if no = 0 ∨ sp = 0 ∨ wd ≠ (nb : Int) then -2 else if ¬ (0 ≤ x ∧ x ≤ 1 ∧ 0 ≤ y ∧ y ≤ 4095 ∧ y + sp ≤ 4096) then -3 else if 0 < n ∧ (x < lr ∨ (x = lr ∧ y < lp)) then -4 else (n : Int)
theorem addC_1 {w : Int} {n no : Nat} {sp wd : Int} {nb : Nat} {x y lr lp : Int} (h : w = 1 ∨ 24 ≤ n) : addC w n no sp wd nb x y lr lp = -1 := if_pos h
theorem addC_2 {w : Int} {n no : Nat} {sp wd : Int} {nb : Nat} {x y lr lp : Int} (h : ¬ (w = 1 ∨ 24 ≤ n)) (h2 : no = 0 ∨ sp = 0 ∨ wd ≠ (nb : Int)) : addC w n no sp wd nb x y lr lp = -2 := (if_neg h).trans (if_pos h2)
theorem addC_3 {w : Int} {n no : Nat} {sp wd : Int} {nb : Nat} {x y lr lp : Int} (h : ¬ (w = 1 ∨ 24 ≤ n)) (h2 : ¬ (no = 0 ∨ sp = 0 ∨ wd ≠ (nb : Int))) (h3 : ¬ (0 ≤ x ∧ x ≤ 1 ∧ 0 ≤ y ∧ y ≤ 4095 ∧ y + sp ≤ 4096)) : addC w n no sp wd nb x y lr lp = -3 := (if_neg h).trans ((if_neg h2).trans (if_pos h3))
theorem addC_4 {w : Int} {n no : Nat} {sp wd : Int} {nb : Nat} {x y lr lp : Int} (h : ¬ (w = 1 ∨ 24 ≤ n)) (h2 : ¬ (no = 0 ∨ sp = 0 ∨ wd ≠ (nb : Int))) (h3 : 0 ≤ x ∧ x ≤ 1 ∧ 0 ≤ y ∧ y ≤ 4095 ∧ y + sp ≤ 4096) (h4 : 0 < n ∧ (x < lr ∨ (x = lr ∧ y < lp))) : addC w n no sp wd nb x y lr lp = -4 := (if_neg h).trans ((if_neg h2).trans ((if_neg (fun q => q h3)).trans (if_pos h4)))
theorem addC_5 {w : Int} {n no : Nat} {sp wd : Int} {nb : Nat} {x y lr lp : Int} (h : ¬ (w = 1 ∨ 24 ≤ n)) (h2 : ¬ (no = 0 ∨ sp = 0 ∨ wd ≠ (nb : Int))) (h3 : 0 ≤ x ∧ x ≤ 1 ∧ 0 ≤ y ∧ y ≤ 4095 ∧ y + sp ≤ 4096) (h4 : ¬ (0 < n ∧ (x < lr ∨ (x = lr ∧ y < lp)))) : addC w n no sp wd nb x y lr lp = (n : Int) := (if_neg h).trans ((if_neg h2).trans ((if_neg (fun q => q h3)).trans (if_neg h4)))
/-- the read i is in a damaged block -/
def hurtN (mu : Int) (mz : Nat) (Bg : Nat → Int) (i : Nat) : Prop := 0 ≤ mu ∧ mu / 8 < (mz : Int) - 11 ∧ Bg i / 40 ≤ mu / 8 / 51 ∧ mu / 8 / 51 ≤ (Bg (i + 1) - 1) / 40
theorem q_bd {L : List Nat} {i : Nat} {h : Nat → Prop} {b b2 : Int} (hb : (b = 1 ∧ ∃ z, z ∈ L ∧ h z) ∨ (b = 0 ∧ ∀ z, z ∈ L → ¬ h z)) (h2 : (b2 = 1 ∧ (¬ b = 0 ∨ h i)) ∨ (b2 = 0 ∧ b = 0 ∧ ¬ h i)) : (b2 = 1 ∧ ∃ z, z ∈ L ++ [i] ∧ h z) ∨ (b2 = 0 ∧ ∀ z, z ∈ L ++ [i] → ¬ h z) := by
  rcases h2 with ⟨h3, h4⟩ | ⟨h3, h4, h5⟩
  · refine Or.inl ⟨h3, ?_⟩
    rcases h4 with h4 | h4
    · rcases hb with ⟨_, z, q1, q2⟩ | ⟨q, _⟩
      · exact ⟨z, List.mem_append.mpr (Or.inl q1), q2⟩
      · exact absurd q h4
    · exact ⟨i, List.mem_append.mpr (Or.inr (List.mem_singleton.mpr rfl)), h4⟩
  · refine Or.inr ⟨h3, fun z hz => ?_⟩
    rcases hb with ⟨q, _⟩ | ⟨_, q⟩
    · rw [h4] at q
      exact absurd q (by decide)
    · rcases List.mem_append.mp hz with hz | hz
      · exact q z hz
      · rw [List.mem_singleton.mp hz]
        exact h5
end
section
def va_AOA (t : FieldType) (U : State) : Prop := (Cond.arrayOver (.array t)).before #[] U = true
theorem va_AOA.use {t : FieldType} {A : Array Value} {U : State} (h : va_AOA t U) : (Cond.arrayOver (.array t)).before A U = true := h
/-! ===== BEGIN new T[n][m]: the outer array a place, the inner ones among the pooled ===== -/
/-- f, but v at every address of l -/
def vr_up {α : Type} (f : Nat → α) (l : List Nat) (v : α) : Nat → α := fun a => if a ∈ l then v else f a
theorem vr_up_in {α : Type} {f : Nat → α} {l : List Nat} {v : α} {a : Nat} (h : a ∈ l) : vr_up f l v a = v := if_pos h
theorem vr_up_ne {α : Type} {f : Nat → α} {l : List Nat} {v : α} {a : Nat} (h : a ∉ l) : vr_up f l v a = f a := if_neg h
theorem vr_rows {L l : List Nat} {f : Nat → va_E} {e : va_E} (h : ∀ a, a ∈ l → a ∉ L) : va_pl L f ++ l.map (fun a => (a, e)) = va_pl (L ++ l) (vr_up f l e) := by
  unfold va_pl
  rw [List.map_append]
  congr 1
  · apply List.map_congr_left
    intro a ha
    rw [vr_up_ne (fun q => h a q ha)]
  · apply List.map_congr_left
    intro a ha
    rw [vr_up_in ha]
theorem vr_lay {X rows : va_W} {x : Nat × va_E} {pl : va_W} {D : va_G} {cl : List vw_C} {H : Heap} (hP : va_P D cl (((X ++ pl) ++ [x]) ++ rows) H) : va_P D cl ((X ++ [x]) ++ (pl ++ rows)) H := by
  rw [List.append_assoc (X ++ pl)] at hP
  have h := va_P.swap hP
  rw [← List.append_assoc X] at h
  have h2 := va_P.swap h
  rw [List.append_assoc (X ++ [x])] at h2
  exact h2
theorem vr_layD {X rows : va_W} {x : Nat × va_E} {pl : va_W} {A : Nat → Prop} (hD : va_D A (((X ++ pl) ++ [x]) ++ rows)) : va_D A ((X ++ [x]) ++ (pl ++ rows)) := by
  rw [List.append_assoc (X ++ pl)] at hD
  have h := va_D.swap hD
  rw [← List.append_assoc X] at h
  have h2 := va_D.swap h
  rw [List.append_assoc (X ++ [x])] at h2
  exact h2
theorem vr_outer (c : ClassId) (N h0 : Nat) : ∀ i : Nat, Jvm.Free.Multi.outerC c N h0 i = arrV c N (fun j => va_rf (if j < i then some (h0 + 1 + j) else none))
  | 0 => by
    show ({ cls := c, slots := Array.replicate N .null, vm := .none } : Cell) = _
    rw [arrV_new]
    refine congrArg (arrV c N) (funext fun j => ?_)
    simp [va_rf]
  | i + 1 => by
    show (Jvm.Free.Multi.outerC c N h0 i).setSlot i (.ref (h0 + 1 + i)) = _
    rw [vr_outer c N h0 i, arrV_store]
    refine congrArg (arrV c N) (funext fun j => ?_)
    by_cases e : j = i
    · subst e
      simp [updV, va_rf]
    · by_cases h : j < i
      · simp [updV, e, h, Nat.lt_succ_of_lt h]
      · simp [updV, e, h, show ¬ j < i + 1 by omega]
section VGM
variable {p : Program} {l : Launch} {e : Env} {R : Room} {s : State} {m : MethodId} {args : Array Value} {below : List Frame} {meth : Method} {c : Code} {H : Heap} {locs : List Loc} {cells slots : Nat} {Q : State → Prop}
variable {cc : ByteArray} {pc : Nat} {ls : Array Slot} {rest : List Value} {D : va_G} {cl : List vw_C} {A : Nat → Prop} {a : Nat} {tys : List (ClassId × FieldType)} {ws : va_W} {H0 : Heap}
theorem va_mna {X : va_W} {L : List Nat} {f : Nat → va_E} {cc : ByteArray} (hexec : p.tables.exec = Jvm.exec) (hb : c.code = cc) {own : String} {index : Nat} {ty : FieldType} {cy : ClassId} (hown : s.vm.findClass own = some m.cls) (hclink : (Cond.classLink own index ("[" ++ (FieldType.array ty).toString)).before args s = true) (hover : va_AOA ty s) (harr : (Cond.arrayClass ty).before args s = true) (hcy : s.vm.findClass (FieldType.array ty).toString = some cy)
    (hK : va_K D cl tys s) (hP : va_P D cl (X ++ va_pl L f) H) (hD : va_D A (X ++ va_pl L f)) (hS : va_S A H0 H locs) (hA : ∀ q, H0.size ≤ q → A q) {n k : Int32} {N' K' : Nat} {z : vp_A} (hn : ¬ n < 0) (hk : ¬ k < 0) (hN : n.toNatClampNeg = N') (hM : k.toNatClampNeg = K')
    (hb1 : N' * 4 ≤ 536870912) (hb2 : K' * componentBytes ty ≤ 536870912) (hb3 : K' ≤ 536870912) (hdf : fits ty (defaultValue ty) = true) (hdd : (defaultValue ty).isDefault = true) (hcells : cells + (1 + N') ≤ R.cells) (hslots : slots + (N' + N' * K') ≤ R.slots) (hz : ∀ c : ClassId, Jvm.Free.Multi.innerC c K' (defaultValue ty) = vp_cell c z) (hdg : decode cc pc = .ok (.multianewarray index 2, 4))
    (kk : ∀ (q : Nat) (r : Nat → Nat) (cA : ClassId) (H1 : Heap), (∀ i j : Nat, i < N' → j < N' → r i = r j → i = j) → (∀ i : Nat, i < N' → r i ∉ L) → va_K D cl (tys ++ [(cA, .array ty)]) s →
      va_P D cl ((X ++ [(q, .inl (cA, N', .inr (.inr (.inr (.inr (fun i => if i < N' then some (r i) else none))))))]) ++ va_pl (L ++ (List.range N').map r) (vr_up f ((List.range N').map r) (.inl (cy, z)))) H1 → va_D A ((X ++ [(q, .inl (cA, N', .inr (.inr (.inr (.inr (fun i => if i < N' then some (r i) else none))))))]) ++ va_pl (L ++ (List.range N').map r) (vr_up f ((List.range N').map r) (.inl (cy, z)))) → va_S A H0 H1 locs →
      W p l e R s m args below meth c H1 locs (cells + 1 + N') (slots + N' + N' * K') Q (F0 m (pc + 4) ls (.ref q :: rest))) : W p l e R s m args below meth c H locs cells slots Q (F0 m pc ls (.int k :: .int n :: rest)) := by
  subst hN
  subst hM
  intro T hT Xs
  obtain ⟨vm₁, cA, comp, -, fA, fC, hO, -, X', step⟩ := Xs.multianewarray2F hexec hown hclink (va_AOA.use hover) harr (g := F0 m pc ls (.int k :: .int n :: rest)) rfl (by rw [hb]; exact hdg) rfl hn hk hb1 hb2 hb3 hdf hdd hcells hslots
  have ec : some cy = some comp := hcy.symm.trans fC
  cases ec
  generalize hF : Jvm.Free.Multi.fill (T.setVm vm₁) cA cy n.toNatClampNeg k.toNatClampNeg (defaultValue ty) n.toNatClampNeg = F at X' step
  have hTh : (T.setVm vm₁).heap = H := hT
  obtain ⟨f1, f2, -, -⟩ := Jvm.Free.Multi.fill_facts (T.setVm vm₁) cA cy n.toNatClampNeg k.toNatClampNeg (defaultValue ty) n.toNatClampNeg
  rw [hF, hTh] at f1 f2
  have hold : ∀ x : Nat, x < H.size → F.heap[x]? = H[x]? := fun x hx => by
    have := Jvm.Free.Multi.fill_old (T.setVm vm₁) cA cy n.toNatClampNeg k.toNatClampNeg (defaultValue ty) (a := x) (by rw [hTh]; exact hx) n.toNatClampNeg
    rw [hF, hTh] at this
    exact this
  have hrow : ∀ j : Nat, j < n.toNatClampNeg → F.heap[H.size + 1 + j]? = some (vp_cell cy z) := fun j hj => by
    have := Jvm.Free.Multi.fill_inner (T.setVm vm₁) cA cy n.toNatClampNeg k.toNatClampNeg (defaultValue ty) n.toNatClampNeg j hj
    rw [hF, hTh, hz] at this
    exact this
  have hout : Jvm.Free.Multi.outerC cA n.toNatClampNeg H.size n.toNatClampNeg = vp_cell cA (n.toNatClampNeg, .inr (.inr (.inr (.inr (fun i => if i < n.toNatClampNeg then some (H.size + 1 + i) else none))))) := by
    rw [vp_cell_q]
    exact vr_outer cA n.toNatClampNeg H.size n.toNatClampNeg
  rw [hout] at f2
  have hlt : ∀ a, a ∈ L → a < H.size := fun a ha => by
    obtain ⟨k9, hk9⟩ := va_pl_get (X := X) (f := f) ha
    exact (hP k9 _ hk9).lt
  have hnl : ∀ i : Nat, i < n.toNatClampNeg → H.size + 1 + i ∉ L := fun i _ h => by
    have := hlt _ h
    omega
  have hnm : ∀ a, a ∈ (List.range n.toNatClampNeg).map (fun i => H.size + 1 + i) → a ∉ L := fun a ha h => by
    obtain ⟨i, -, rfl⟩ := List.mem_map.mp ha
    have := hlt _ h
    omega
  have hP0 : va_P D cl (X ++ va_pl L f) F.heap := hP.kept (fun k9 x hx => hold x.1 ((hP k9 x hx).lt))
  have hP1 : va_P D cl ((X ++ va_pl L f) ++ [(H.size, .inl (cA, n.toNatClampNeg, .inr (.inr (.inr (.inr (fun i => if i < n.toNatClampNeg then some (H.size + 1 + i) else none))))))]) F.heap := hP0.app (fun k9 x hx => by
    have h0 : k9 < 1 := (List.getElem?_eq_some_iff.mp hx).1
    rw [show k9 = 0 by omega] at hx
    cases hx
    exact f2)
  have hP2 : va_P D cl (((X ++ va_pl L f) ++ [(H.size, .inl (cA, n.toNatClampNeg, .inr (.inr (.inr (.inr (fun i => if i < n.toNatClampNeg then some (H.size + 1 + i) else none))))))]) ++ ((List.range n.toNatClampNeg).map (fun i => H.size + 1 + i)).map (fun a => (a, .inl (cy, z)))) F.heap := hP1.app (fun k9 x hx => by
    obtain ⟨a, ha, rfl⟩ := List.mem_map.mp (List.mem_of_getElem? hx)
    obtain ⟨i, hi, rfl⟩ := List.mem_map.mp ha
    exact hrow i (List.mem_range.mp hi))
  have hD2 : va_D A (((X ++ va_pl L f) ++ [(H.size, .inl (cA, n.toNatClampNeg, .inr (.inr (.inr (.inr (fun i => if i < n.toNatClampNeg then some (H.size + 1 + i) else none))))))]) ++ ((List.range n.toNatClampNeg).map (fun i => H.size + 1 + i)).map (fun a => (a, .inl (cy, z)))) := by
    have hD1 := hD.push (e := .inl (cA, n.toNatClampNeg, .inr (.inr (.inr (.inr (fun i => if i < n.toNatClampNeg then some (H.size + 1 + i) else none)))))) hP rfl (hA _ hS.1)
    generalize hW1 : (X ++ va_pl L f) ++ [(H.size, .inl (cA, n.toNatClampNeg, .inr (.inr (.inr (.inr (fun i => if i < n.toNatClampNeg then some (H.size + 1 + i) else none))))))] = W1 at hD1 hP1 ⊢
    have hle : ∀ (k9 : Nat) (x : Nat × va_E), W1[k9]? = some x → x.1 ≤ H.size := fun k9 x hx => by
      rw [← hW1] at hx
      by_cases hl : k9 < (X ++ va_pl L f).length
      · rw [List.getElem?_append_left hl] at hx
        exact Nat.le_of_lt ((hP k9 x hx).lt)
      · rw [List.getElem?_append_right (by omega)] at hx
        have h0 : k9 - (X ++ va_pl L f).length < 1 := (List.getElem?_eq_some_iff.mp hx).1
        rw [show k9 - (X ++ va_pl L f).length = 0 by omega] at hx
        cases hx
        exact Nat.le_refl _
    have hr : ∀ (k9 : Nat) (x : Nat × va_E), (((List.range n.toNatClampNeg).map (fun i => H.size + 1 + i)).map (fun a => ((a, .inl (cy, z)) : Nat × va_E)))[k9]? = some x → x.1 = H.size + 1 + k9 := fun k9 x hx => by
      rw [List.getElem?_map, List.getElem?_map] at hx
      by_cases h9 : k9 < n.toNatClampNeg
      · rw [List.getElem?_range h9] at hx
        cases hx
        rfl
      · have hn0 : (List.range n.toNatClampNeg)[k9]? = none := List.getElem?_eq_none (by rw [List.length_range]; omega)
        rw [hn0] at hx
        cases hx
    refine ⟨fun i j x y hi hj hxy => ?_, fun k9 x hx => ?_⟩
    · by_cases h1 : i < W1.length <;> by_cases h2 : j < W1.length
      · rw [List.getElem?_append_left h1] at hi
        rw [List.getElem?_append_left h2] at hj
        exact hD1.1 i j x y hi hj hxy
      · rw [List.getElem?_append_left h1] at hi
        rw [List.getElem?_append_right (by omega)] at hj
        have := hle _ _ hi
        have := hr _ _ hj
        omega
      · rw [List.getElem?_append_right (by omega)] at hi
        rw [List.getElem?_append_left h2] at hj
        have := hle _ _ hj
        have := hr _ _ hi
        omega
      · rw [List.getElem?_append_right (by omega)] at hi hj
        have := hr _ _ hi
        have := hr _ _ hj
        omega
    · by_cases h1 : k9 < W1.length
      · rw [List.getElem?_append_left h1] at hx
        exact hD1.2 k9 x hx
      · rw [List.getElem?_append_right (by omega)] at hx
        have := hr _ _ hx
        exact hA _ (by have := hS.1; omega)
  have hAr : ArrOfT s cA (.array ty) := fun N9 z9 => by
    obtain ⟨-, k9, hk9, cm9, hkk9⟩ := (hO 0 0 0).1
    exact ⟨(fun q hq => by cases hq), k9, hk9, cm9, hkk9⟩
  have hK2 : va_K D cl (tys ++ [(cA, .array ty)]) s := ⟨hK.1, fun k9 x hx => by
    by_cases hl : k9 < tys.length
    · rw [List.getElem?_append_left hl] at hx
      exact hK.2 k9 x hx
    · rw [List.getElem?_append_right (by omega)] at hx
      have h0 : k9 - tys.length < 1 := (List.getElem?_eq_some_iff.mp hx).1
      rw [show k9 - tys.length = 0 by omega] at hx
      cases hx
      exact ⟨hAr, fA⟩⟩
  obtain ⟨t, a1, b1⟩ := kk H.size (fun i => H.size + 1 + i) cA F.heap (fun i j _ _ h => by have h9 : H.size + 1 + i = H.size + 1 + j := h; omega) hnl hK2 (by rw [← vr_rows hnm]; exact vr_lay hP2) (by rw [← vr_rows hnm]; exact vr_layD hD2) ⟨by rw [f1]; have := hS.1; omega, fun x h1 h2 => (hold x (Nat.lt_of_lt_of_le h1 hS.1)).trans (hS.2.1 x h1 h2), hS.2.2⟩ F rfl X'
  refine ⟨t, step t ?_, b1⟩
  have e : T.heap.size = H.size := by rw [hT]
  rw [e]
  exact a1
end VGM
/-! ===== END ===== -/
end
section
theorem ble_le {n m : Nat} (h : Nat.ble n m = true) : n ≤ m := Nat.le_of_ble_eq_true h
theorem ble_lt {n m : Nat} (h : Nat.ble (n + 1) m = true) : n < m := Nat.le_of_ble_eq_true h
theorem hd_BR_add : y_BR_add.cls = "BinnedReads" ∧ y_BR_add.cls ≠ "java/lang/invoke/MethodHandle" ∧ y_BR_add.cls ≠ "java/lang/invoke/VarHandle" ∧ (parseMethodDescriptor y_BR_add.desc).map (fun d => d.parameters.length) = some 2 := by decide +kernel
theorem hd_BR_areChosenSound : y_BR_areChosenSound.cls = "BinnedReads" ∧ y_BR_areChosenSound.cls ≠ "java/lang/invoke/MethodHandle" ∧ y_BR_areChosenSound.cls ≠ "java/lang/invoke/VarHandle" ∧ (parseMethodDescriptor y_BR_areChosenSound.desc).map (fun d => d.parameters.length) = some 0 := by decide +kernel
theorem hd_BR_base : y_BR_base.cls = "BinnedReads" ∧ y_BR_base.cls ≠ "java/lang/invoke/MethodHandle" ∧ y_BR_base.cls ≠ "java/lang/invoke/VarHandle" ∧ (parseMethodDescriptor y_BR_base.desc).map (fun d => d.parameters.length) = some 1 := by decide +kernel
theorem hd_BR_binMeets : y_BR_binMeets.cls = "BinnedReads" ∧ y_BR_binMeets.cls ≠ "java/lang/invoke/MethodHandle" ∧ y_BR_binMeets.cls ≠ "java/lang/invoke/VarHandle" ∧ (parseMethodDescriptor y_BR_binMeets.desc).map (fun d => d.parameters.length) = some 3 := by decide +kernel
theorem hd_BR_binOf : y_BR_binOf.cls = "BinnedReads" ∧ y_BR_binOf.cls ≠ "java/lang/invoke/MethodHandle" ∧ y_BR_binOf.cls ≠ "java/lang/invoke/VarHandle" ∧ (parseMethodDescriptor y_BR_binOf.desc).map (fun d => d.parameters.length) = some 2 := by decide +kernel
theorem hd_BR_byteAt : y_BR_byteAt.cls = "BinnedReads" ∧ y_BR_byteAt.cls ≠ "java/lang/invoke/MethodHandle" ∧ y_BR_byteAt.cls ≠ "java/lang/invoke/VarHandle" ∧ (parseMethodDescriptor y_BR_byteAt.desc).map (fun d => d.parameters.length) = some 1 := by decide +kernel
theorem hd_BR_check : y_BR_check.cls = "BinnedReads" ∧ y_BR_check.cls ≠ "java/lang/invoke/MethodHandle" ∧ y_BR_check.cls ≠ "java/lang/invoke/VarHandle" ∧ (parseMethodDescriptor y_BR_check.desc).map (fun d => d.parameters.length) = some 0 := by decide +kernel
theorem hd_BR_clear : y_BR_clear.cls = "BinnedReads" ∧ y_BR_clear.cls ≠ "java/lang/invoke/MethodHandle" ∧ y_BR_clear.cls ≠ "java/lang/invoke/VarHandle" ∧ (parseMethodDescriptor y_BR_clear.desc).map (fun d => d.parameters.length) = some 0 := by decide +kernel
theorem hd_BR_finish : y_BR_finish.cls = "BinnedReads" ∧ y_BR_finish.cls ≠ "java/lang/invoke/MethodHandle" ∧ y_BR_finish.cls ≠ "java/lang/invoke/VarHandle" ∧ (parseMethodDescriptor y_BR_finish.desc).map (fun d => d.parameters.length) = some 0 := by decide +kernel
theorem hd_BR_found : y_BR_found.cls = "BinnedReads" ∧ y_BR_found.cls ≠ "java/lang/invoke/MethodHandle" ∧ y_BR_found.cls ≠ "java/lang/invoke/VarHandle" ∧ (parseMethodDescriptor y_BR_found.desc).map (fun d => d.parameters.length) = some 2 := by decide +kernel
theorem hd_BR_foundBase : y_BR_foundBase.cls = "BinnedReads" ∧ y_BR_foundBase.cls ≠ "java/lang/invoke/MethodHandle" ∧ y_BR_foundBase.cls ≠ "java/lang/invoke/VarHandle" ∧ (parseMethodDescriptor y_BR_foundBase.desc).map (fun d => d.parameters.length) = some 2 := by decide +kernel
theorem hd_BR_foundOp : y_BR_foundOp.cls = "BinnedReads" ∧ y_BR_foundOp.cls ≠ "java/lang/invoke/MethodHandle" ∧ y_BR_foundOp.cls ≠ "java/lang/invoke/VarHandle" ∧ (parseMethodDescriptor y_BR_foundOp.desc).map (fun d => d.parameters.length) = some 2 := by decide +kernel
theorem hd_BR_init : y_BR_init.cls = "BinnedReads" ∧ y_BR_init.cls ≠ "java/lang/invoke/MethodHandle" ∧ y_BR_init.cls ≠ "java/lang/invoke/VarHandle" ∧ (parseMethodDescriptor y_BR_init.desc).map (fun d => d.parameters.length) = some 0 := by decide +kernel
theorem hd_BR_isReference : y_BR_isReference.cls = "BinnedReads" ∧ y_BR_isReference.cls ≠ "java/lang/invoke/MethodHandle" ∧ y_BR_isReference.cls ≠ "java/lang/invoke/VarHandle" ∧ (parseMethodDescriptor y_BR_isReference.desc).map (fun d => d.parameters.length) = some 1 := by decide +kernel
theorem hd_BR_isRegion : y_BR_isRegion.cls = "BinnedReads" ∧ y_BR_isRegion.cls ≠ "java/lang/invoke/MethodHandle" ∧ y_BR_isRegion.cls ≠ "java/lang/invoke/VarHandle" ∧ (parseMethodDescriptor y_BR_isRegion.desc).map (fun d => d.parameters.length) = some 3 := by decide +kernel
theorem hd_BR_kindOf : y_BR_kindOf.cls = "BinnedReads" ∧ y_BR_kindOf.cls ≠ "java/lang/invoke/MethodHandle" ∧ y_BR_kindOf.cls ≠ "java/lang/invoke/VarHandle" ∧ (parseMethodDescriptor y_BR_kindOf.desc).map (fun d => d.parameters.length) = some 1 := by decide +kernel
theorem hd_BR_lengthOf : y_BR_lengthOf.cls = "BinnedReads" ∧ y_BR_lengthOf.cls ≠ "java/lang/invoke/MethodHandle" ∧ y_BR_lengthOf.cls ≠ "java/lang/invoke/VarHandle" ∧ (parseMethodDescriptor y_BR_lengthOf.desc).map (fun d => d.parameters.length) = some 1 := by decide +kernel
theorem hd_BR_looked : y_BR_looked.cls = "BinnedReads" ∧ y_BR_looked.cls ≠ "java/lang/invoke/MethodHandle" ∧ y_BR_looked.cls ≠ "java/lang/invoke/VarHandle" ∧ (parseMethodDescriptor y_BR_looked.desc).map (fun d => d.parameters.length) = some 0 := by decide +kernel
theorem hd_BR_op : y_BR_op.cls = "BinnedReads" ∧ y_BR_op.cls ≠ "java/lang/invoke/MethodHandle" ∧ y_BR_op.cls ≠ "java/lang/invoke/VarHandle" ∧ (parseMethodDescriptor y_BR_op.desc).map (fun d => d.parameters.length) = some 2 := by decide +kernel
theorem hd_BR_query : y_BR_query.cls = "BinnedReads" ∧ y_BR_query.cls ≠ "java/lang/invoke/MethodHandle" ∧ y_BR_query.cls ≠ "java/lang/invoke/VarHandle" ∧ (parseMethodDescriptor y_BR_query.desc).map (fun d => d.parameters.length) = some 3 := by decide +kernel
theorem hd_BR_scrap : y_BR_scrap.cls = "BinnedReads" ∧ y_BR_scrap.cls ≠ "java/lang/invoke/MethodHandle" ∧ y_BR_scrap.cls ≠ "java/lang/invoke/VarHandle" ∧ (parseMethodDescriptor y_BR_scrap.desc).map (fun d => d.parameters.length) = some 0 := by decide +kernel
theorem hd_BR_spanOf : y_BR_spanOf.cls = "BinnedReads" ∧ y_BR_spanOf.cls ≠ "java/lang/invoke/MethodHandle" ∧ y_BR_spanOf.cls ≠ "java/lang/invoke/VarHandle" ∧ (parseMethodDescriptor y_BR_spanOf.desc).map (fun d => d.parameters.length) = some 3 := by decide +kernel
theorem hd_BR_turn : y_BR_turn.cls = "BinnedReads" ∧ y_BR_turn.cls ≠ "java/lang/invoke/MethodHandle" ∧ y_BR_turn.cls ≠ "java/lang/invoke/VarHandle" ∧ (parseMethodDescriptor y_BR_turn.desc).map (fun d => d.parameters.length) = some 2 := by decide +kernel
theorem hd_Disk_appendBlock : y_Disk_appendBlock.cls = "BinnedReads$Disk" ∧ y_Disk_appendBlock.cls ≠ "java/lang/invoke/MethodHandle" ∧ y_Disk_appendBlock.cls ≠ "java/lang/invoke/VarHandle" ∧ (parseMethodDescriptor y_Disk_appendBlock.desc).map (fun d => d.parameters.length) = some 3 := by decide +kernel
theorem hd_Disk_appendByte : y_Disk_appendByte.cls = "BinnedReads$Disk" ∧ y_Disk_appendByte.cls ≠ "java/lang/invoke/MethodHandle" ∧ y_Disk_appendByte.cls ≠ "java/lang/invoke/VarHandle" ∧ (parseMethodDescriptor y_Disk_appendByte.desc).map (fun d => d.parameters.length) = some 1 := by decide +kernel
theorem hd_Disk_appendNumber : y_Disk_appendNumber.cls = "BinnedReads$Disk" ∧ y_Disk_appendNumber.cls ≠ "java/lang/invoke/MethodHandle" ∧ y_Disk_appendNumber.cls ≠ "java/lang/invoke/VarHandle" ∧ (parseMethodDescriptor y_Disk_appendNumber.desc).map (fun d => d.parameters.length) = some 2 := by decide +kernel
theorem hd_Disk_areSound : y_Disk_areSound.cls = "BinnedReads$Disk" ∧ y_Disk_areSound.cls ≠ "java/lang/invoke/MethodHandle" ∧ y_Disk_areSound.cls ≠ "java/lang/invoke/VarHandle" ∧ (parseMethodDescriptor y_Disk_areSound.desc).map (fun d => d.parameters.length) = some 2 := by decide +kernel
theorem hd_Disk_at : y_Disk_at.cls = "BinnedReads$Disk" ∧ y_Disk_at.cls ≠ "java/lang/invoke/MethodHandle" ∧ y_Disk_at.cls ≠ "java/lang/invoke/VarHandle" ∧ (parseMethodDescriptor y_Disk_at.desc).map (fun d => d.parameters.length) = some 1 := by decide +kernel
theorem hd_Disk_empty : y_Disk_empty.cls = "BinnedReads$Disk" ∧ y_Disk_empty.cls ≠ "java/lang/invoke/MethodHandle" ∧ y_Disk_empty.cls ≠ "java/lang/invoke/VarHandle" ∧ (parseMethodDescriptor y_Disk_empty.desc).map (fun d => d.parameters.length) = some 0 := by decide +kernel
theorem hd_Disk_init : y_Disk_init.cls = "BinnedReads$Disk" ∧ y_Disk_init.cls ≠ "java/lang/invoke/MethodHandle" ∧ y_Disk_init.cls ≠ "java/lang/invoke/VarHandle" ∧ (parseMethodDescriptor y_Disk_init.desc).map (fun d => d.parameters.length) = some 0 := by decide +kernel
theorem hd_Disk_isSound : y_Disk_isSound.cls = "BinnedReads$Disk" ∧ y_Disk_isSound.cls ≠ "java/lang/invoke/MethodHandle" ∧ y_Disk_isSound.cls ≠ "java/lang/invoke/VarHandle" ∧ (parseMethodDescriptor y_Disk_isSound.desc).map (fun d => d.parameters.length) = some 1 := by decide +kernel
theorem hd_Disk_isWritten : y_Disk_isWritten.cls = "BinnedReads$Disk" ∧ y_Disk_isWritten.cls ≠ "java/lang/invoke/MethodHandle" ∧ y_Disk_isWritten.cls ≠ "java/lang/invoke/VarHandle" ∧ (parseMethodDescriptor y_Disk_isWritten.desc).map (fun d => d.parameters.length) = some 0 := by decide +kernel
theorem hd_Disk_numberAt : y_Disk_numberAt.cls = "BinnedReads$Disk" ∧ y_Disk_numberAt.cls ≠ "java/lang/invoke/MethodHandle" ∧ y_Disk_numberAt.cls ≠ "java/lang/invoke/VarHandle" ∧ (parseMethodDescriptor y_Disk_numberAt.desc).map (fun d => d.parameters.length) = some 2 := by decide +kernel
theorem hd_Disk_offsetOf : y_Disk_offsetOf.cls = "BinnedReads$Disk" ∧ y_Disk_offsetOf.cls ≠ "java/lang/invoke/MethodHandle" ∧ y_Disk_offsetOf.cls ≠ "java/lang/invoke/VarHandle" ∧ (parseMethodDescriptor y_Disk_offsetOf.desc).map (fun d => d.parameters.length) = some 1 := by decide +kernel
theorem hd_Disk_streamByte : y_Disk_streamByte.cls = "BinnedReads$Disk" ∧ y_Disk_streamByte.cls ≠ "java/lang/invoke/MethodHandle" ∧ y_Disk_streamByte.cls ≠ "java/lang/invoke/VarHandle" ∧ (parseMethodDescriptor y_Disk_streamByte.desc).map (fun d => d.parameters.length) = some 1 := by decide +kernel
theorem hd_Disk_sumOf : y_Disk_sumOf.cls = "BinnedReads$Disk" ∧ y_Disk_sumOf.cls ≠ "java/lang/invoke/MethodHandle" ∧ y_Disk_sumOf.cls ≠ "java/lang/invoke/VarHandle" ∧ (parseMethodDescriptor y_Disk_sumOf.desc).map (fun d => d.parameters.length) = some 2 := by decide +kernel
theorem hd_Disk_turnBit : y_Disk_turnBit.cls = "BinnedReads$Disk" ∧ y_Disk_turnBit.cls ≠ "java/lang/invoke/MethodHandle" ∧ y_Disk_turnBit.cls ≠ "java/lang/invoke/VarHandle" ∧ (parseMethodDescriptor y_Disk_turnBit.desc).map (fun d => d.parameters.length) = some 2 := by decide +kernel
theorem hd_Disk_write : y_Disk_write.cls = "BinnedReads$Disk" ∧ y_Disk_write.cls ≠ "java/lang/invoke/MethodHandle" ∧ y_Disk_write.cls ≠ "java/lang/invoke/VarHandle" ∧ (parseMethodDescriptor y_Disk_write.desc).map (fun d => d.parameters.length) = some 1 := by decide +kernel
theorem hd_Draft_appendBase : y_Draft_appendBase.cls = "BinnedReads$Draft" ∧ y_Draft_appendBase.cls ≠ "java/lang/invoke/MethodHandle" ∧ y_Draft_appendBase.cls ≠ "java/lang/invoke/VarHandle" ∧ (parseMethodDescriptor y_Draft_appendBase.desc).map (fun d => d.parameters.length) = some 1 := by decide +kernel
theorem hd_Draft_appendOp : y_Draft_appendOp.cls = "BinnedReads$Draft" ∧ y_Draft_appendOp.cls ≠ "java/lang/invoke/MethodHandle" ∧ y_Draft_appendOp.cls ≠ "java/lang/invoke/VarHandle" ∧ (parseMethodDescriptor y_Draft_appendOp.desc).map (fun d => d.parameters.length) = some 2 := by decide +kernel
theorem hd_Draft_basePair : y_Draft_basePair.cls = "BinnedReads$Draft" ∧ y_Draft_basePair.cls ≠ "java/lang/invoke/MethodHandle" ∧ y_Draft_basePair.cls ≠ "java/lang/invoke/VarHandle" ∧ (parseMethodDescriptor y_Draft_basePair.desc).map (fun d => d.parameters.length) = some 1 := by decide +kernel
theorem hd_Draft_empty : y_Draft_empty.cls = "BinnedReads$Draft" ∧ y_Draft_empty.cls ≠ "java/lang/invoke/MethodHandle" ∧ y_Draft_empty.cls ≠ "java/lang/invoke/VarHandle" ∧ (parseMethodDescriptor y_Draft_empty.desc).map (fun d => d.parameters.length) = some 0 := by decide +kernel
theorem hd_Draft_init : y_Draft_init.cls = "BinnedReads$Draft" ∧ y_Draft_init.cls ≠ "java/lang/invoke/MethodHandle" ∧ y_Draft_init.cls ≠ "java/lang/invoke/VarHandle" ∧ (parseMethodDescriptor y_Draft_init.desc).map (fun d => d.parameters.length) = some 0 := by decide +kernel
theorem hd_Draft_isRead : y_Draft_isRead.cls = "BinnedReads$Draft" ∧ y_Draft_isRead.cls ≠ "java/lang/invoke/MethodHandle" ∧ y_Draft_isRead.cls ≠ "java/lang/invoke/VarHandle" ∧ (parseMethodDescriptor y_Draft_isRead.desc).map (fun d => d.parameters.length) = some 0 := by decide +kernel
theorem hd_Draft_span : y_Draft_span.cls = "BinnedReads$Draft" ∧ y_Draft_span.cls ≠ "java/lang/invoke/MethodHandle" ∧ y_Draft_span.cls ≠ "java/lang/invoke/VarHandle" ∧ (parseMethodDescriptor y_Draft_span.desc).map (fun d => d.parameters.length) = some 0 := by decide +kernel
theorem hd_Draft_width : y_Draft_width.cls = "BinnedReads$Draft" ∧ y_Draft_width.cls ≠ "java/lang/invoke/MethodHandle" ∧ y_Draft_width.cls ≠ "java/lang/invoke/VarHandle" ∧ (parseMethodDescriptor y_Draft_width.desc).map (fun d => d.parameters.length) = some 0 := by decide +kernel
theorem hd_Find_append : y_Find_append.cls = "BinnedReads$Finding" ∧ y_Find_append.cls ≠ "java/lang/invoke/MethodHandle" ∧ y_Find_append.cls ≠ "java/lang/invoke/VarHandle" ∧ (parseMethodDescriptor y_Find_append.desc).map (fun d => d.parameters.length) = some 2 := by decide +kernel
theorem hd_Find_baseCount : y_Find_baseCount.cls = "BinnedReads$Finding" ∧ y_Find_baseCount.cls ≠ "java/lang/invoke/MethodHandle" ∧ y_Find_baseCount.cls ≠ "java/lang/invoke/VarHandle" ∧ (parseMethodDescriptor y_Find_baseCount.desc).map (fun d => d.parameters.length) = some 1 := by decide +kernel
theorem hd_Find_empty : y_Find_empty.cls = "BinnedReads$Finding" ∧ y_Find_empty.cls ≠ "java/lang/invoke/MethodHandle" ∧ y_Find_empty.cls ≠ "java/lang/invoke/VarHandle" ∧ (parseMethodDescriptor y_Find_empty.desc).map (fun d => d.parameters.length) = some 0 := by decide +kernel
theorem hd_Find_end : y_Find_end.cls = "BinnedReads$Finding" ∧ y_Find_end.cls ≠ "java/lang/invoke/MethodHandle" ∧ y_Find_end.cls ≠ "java/lang/invoke/VarHandle" ∧ (parseMethodDescriptor y_Find_end.desc).map (fun d => d.parameters.length) = some 1 := by decide +kernel
theorem hd_Find_has : y_Find_has.cls = "BinnedReads$Finding" ∧ y_Find_has.cls ≠ "java/lang/invoke/MethodHandle" ∧ y_Find_has.cls ≠ "java/lang/invoke/VarHandle" ∧ (parseMethodDescriptor y_Find_has.desc).map (fun d => d.parameters.length) = some 1 := by decide +kernel
theorem hd_Find_init : y_Find_init.cls = "BinnedReads$Finding" ∧ y_Find_init.cls ≠ "java/lang/invoke/MethodHandle" ∧ y_Find_init.cls ≠ "java/lang/invoke/VarHandle" ∧ (parseMethodDescriptor y_Find_init.desc).map (fun d => d.parameters.length) = some 0 := by decide +kernel
theorem hd_Find_opCount : y_Find_opCount.cls = "BinnedReads$Finding" ∧ y_Find_opCount.cls ≠ "java/lang/invoke/MethodHandle" ∧ y_Find_opCount.cls ≠ "java/lang/invoke/VarHandle" ∧ (parseMethodDescriptor y_Find_opCount.desc).map (fun d => d.parameters.length) = some 1 := by decide +kernel
theorem hd_Find_position : y_Find_position.cls = "BinnedReads$Finding" ∧ y_Find_position.cls ≠ "java/lang/invoke/MethodHandle" ∧ y_Find_position.cls ≠ "java/lang/invoke/VarHandle" ∧ (parseMethodDescriptor y_Find_position.desc).map (fun d => d.parameters.length) = some 1 := by decide +kernel
theorem hd_Indx_append : y_Indx_append.cls = "BinnedReads$Index" ∧ y_Indx_append.cls ≠ "java/lang/invoke/MethodHandle" ∧ y_Indx_append.cls ≠ "java/lang/invoke/VarHandle" ∧ (parseMethodDescriptor y_Indx_append.desc).map (fun d => d.parameters.length) = some 5 := by decide +kernel
theorem hd_Indx_choose : y_Indx_choose.cls = "BinnedReads$Index" ∧ y_Indx_choose.cls ≠ "java/lang/invoke/MethodHandle" ∧ y_Indx_choose.cls ≠ "java/lang/invoke/VarHandle" ∧ (parseMethodDescriptor y_Indx_choose.desc).map (fun d => d.parameters.length) = some 3 := by decide +kernel
theorem hd_Indx_empty : y_Indx_empty.cls = "BinnedReads$Index" ∧ y_Indx_empty.cls ≠ "java/lang/invoke/MethodHandle" ∧ y_Indx_empty.cls ≠ "java/lang/invoke/VarHandle" ∧ (parseMethodDescriptor y_Indx_empty.desc).map (fun d => d.parameters.length) = some 0 := by decide +kernel
theorem hd_Indx_endsBehind : y_Indx_endsBehind.cls = "BinnedReads$Index" ∧ y_Indx_endsBehind.cls ≠ "java/lang/invoke/MethodHandle" ∧ y_Indx_endsBehind.cls ≠ "java/lang/invoke/VarHandle" ∧ (parseMethodDescriptor y_Indx_endsBehind.desc).map (fun d => d.parameters.length) = some 2 := by decide +kernel
theorem hd_Indx_firstEndingAfter : y_Indx_firstEndingAfter.cls = "BinnedReads$Index" ∧ y_Indx_firstEndingAfter.cls ≠ "java/lang/invoke/MethodHandle" ∧ y_Indx_firstEndingAfter.cls ≠ "java/lang/invoke/VarHandle" ∧ (parseMethodDescriptor y_Indx_firstEndingAfter.desc).map (fun d => d.parameters.length) = some 2 := by decide +kernel
theorem hd_Indx_init : y_Indx_init.cls = "BinnedReads$Index" ∧ y_Indx_init.cls ≠ "java/lang/invoke/MethodHandle" ∧ y_Indx_init.cls ≠ "java/lang/invoke/VarHandle" ∧ (parseMethodDescriptor y_Indx_init.desc).map (fun d => d.parameters.length) = some 0 := by decide +kernel
theorem hd_Indx_isFull : y_Indx_isFull.cls = "BinnedReads$Index" ∧ y_Indx_isFull.cls ≠ "java/lang/invoke/MethodHandle" ∧ y_Indx_isFull.cls ≠ "java/lang/invoke/VarHandle" ∧ (parseMethodDescriptor y_Indx_isFull.desc).map (fun d => d.parameters.length) = some 0 := by decide +kernel
theorem hd_Indx_overlaps : y_Indx_overlaps.cls = "BinnedReads$Index" ∧ y_Indx_overlaps.cls ≠ "java/lang/invoke/MethodHandle" ∧ y_Indx_overlaps.cls ≠ "java/lang/invoke/VarHandle" ∧ (parseMethodDescriptor y_Indx_overlaps.desc).map (fun d => d.parameters.length) = some 3 := by decide +kernel
theorem hd_Mod_add : y_Mod_add.cls = "BinnedReadsModel" ∧ y_Mod_add.cls ≠ "java/lang/invoke/MethodHandle" ∧ y_Mod_add.cls ≠ "java/lang/invoke/VarHandle" ∧ (parseMethodDescriptor y_Mod_add.desc).map (fun d => d.parameters.length) = some 2 := by decide +kernel
theorem hd_Mod_base : y_Mod_base.cls = "BinnedReadsModel" ∧ y_Mod_base.cls ≠ "java/lang/invoke/MethodHandle" ∧ y_Mod_base.cls ≠ "java/lang/invoke/VarHandle" ∧ (parseMethodDescriptor y_Mod_base.desc).map (fun d => d.parameters.length) = some 1 := by decide +kernel
theorem hd_Mod_binOf : y_Mod_binOf.cls = "BinnedReadsModel" ∧ y_Mod_binOf.cls ≠ "java/lang/invoke/MethodHandle" ∧ y_Mod_binOf.cls ≠ "java/lang/invoke/VarHandle" ∧ (parseMethodDescriptor y_Mod_binOf.desc).map (fun d => d.parameters.length) = some 1 := by decide +kernel
theorem hd_Mod_byteAt : y_Mod_byteAt.cls = "BinnedReadsModel" ∧ y_Mod_byteAt.cls ≠ "java/lang/invoke/MethodHandle" ∧ y_Mod_byteAt.cls ≠ "java/lang/invoke/VarHandle" ∧ (parseMethodDescriptor y_Mod_byteAt.desc).map (fun d => d.parameters.length) = some 1 := by decide +kernel
theorem hd_Mod_check : y_Mod_check.cls = "BinnedReadsModel" ∧ y_Mod_check.cls ≠ "java/lang/invoke/MethodHandle" ∧ y_Mod_check.cls ≠ "java/lang/invoke/VarHandle" ∧ (parseMethodDescriptor y_Mod_check.desc).map (fun d => d.parameters.length) = some 0 := by decide +kernel
theorem hd_Mod_clear : y_Mod_clear.cls = "BinnedReadsModel" ∧ y_Mod_clear.cls ≠ "java/lang/invoke/MethodHandle" ∧ y_Mod_clear.cls ≠ "java/lang/invoke/VarHandle" ∧ (parseMethodDescriptor y_Mod_clear.desc).map (fun d => d.parameters.length) = some 0 := by decide +kernel
theorem hd_Mod_finish : y_Mod_finish.cls = "BinnedReadsModel" ∧ y_Mod_finish.cls ≠ "java/lang/invoke/MethodHandle" ∧ y_Mod_finish.cls ≠ "java/lang/invoke/VarHandle" ∧ (parseMethodDescriptor y_Mod_finish.desc).map (fun d => d.parameters.length) = some 0 := by decide +kernel
theorem hd_Mod_firstBehind : y_Mod_firstBehind.cls = "BinnedReadsModel" ∧ y_Mod_firstBehind.cls ≠ "java/lang/invoke/MethodHandle" ∧ y_Mod_firstBehind.cls ≠ "java/lang/invoke/VarHandle" ∧ (parseMethodDescriptor y_Mod_firstBehind.desc).map (fun d => d.parameters.length) = some 2 := by decide +kernel
theorem hd_Mod_found : y_Mod_found.cls = "BinnedReadsModel" ∧ y_Mod_found.cls ≠ "java/lang/invoke/MethodHandle" ∧ y_Mod_found.cls ≠ "java/lang/invoke/VarHandle" ∧ (parseMethodDescriptor y_Mod_found.desc).map (fun d => d.parameters.length) = some 2 := by decide +kernel
theorem hd_Mod_foundBase : y_Mod_foundBase.cls = "BinnedReadsModel" ∧ y_Mod_foundBase.cls ≠ "java/lang/invoke/MethodHandle" ∧ y_Mod_foundBase.cls ≠ "java/lang/invoke/VarHandle" ∧ (parseMethodDescriptor y_Mod_foundBase.desc).map (fun d => d.parameters.length) = some 2 := by decide +kernel
theorem hd_Mod_foundOp : y_Mod_foundOp.cls = "BinnedReadsModel" ∧ y_Mod_foundOp.cls ≠ "java/lang/invoke/MethodHandle" ∧ y_Mod_foundOp.cls ≠ "java/lang/invoke/VarHandle" ∧ (parseMethodDescriptor y_Mod_foundOp.desc).map (fun d => d.parameters.length) = some 2 := by decide +kernel
theorem hd_Mod_hurt : y_Mod_hurt.cls = "BinnedReadsModel" ∧ y_Mod_hurt.cls ≠ "java/lang/invoke/MethodHandle" ∧ y_Mod_hurt.cls ≠ "java/lang/invoke/VarHandle" ∧ (parseMethodDescriptor y_Mod_hurt.desc).map (fun d => d.parameters.length) = some 1 := by decide +kernel
theorem hd_Mod_init : y_Mod_init.cls = "BinnedReadsModel" ∧ y_Mod_init.cls ≠ "java/lang/invoke/MethodHandle" ∧ y_Mod_init.cls ≠ "java/lang/invoke/VarHandle" ∧ (parseMethodDescriptor y_Mod_init.desc).map (fun d => d.parameters.length) = some 0 := by decide +kernel
theorem hd_Mod_looked : y_Mod_looked.cls = "BinnedReadsModel" ∧ y_Mod_looked.cls ≠ "java/lang/invoke/MethodHandle" ∧ y_Mod_looked.cls ≠ "java/lang/invoke/VarHandle" ∧ (parseMethodDescriptor y_Mod_looked.desc).map (fun d => d.parameters.length) = some 0 := by decide +kernel
theorem hd_Mod_op : y_Mod_op.cls = "BinnedReadsModel" ∧ y_Mod_op.cls ≠ "java/lang/invoke/MethodHandle" ∧ y_Mod_op.cls ≠ "java/lang/invoke/VarHandle" ∧ (parseMethodDescriptor y_Mod_op.desc).map (fun d => d.parameters.length) = some 2 := by decide +kernel
theorem hd_Mod_put : y_Mod_put.cls = "BinnedReadsModel" ∧ y_Mod_put.cls ≠ "java/lang/invoke/MethodHandle" ∧ y_Mod_put.cls ≠ "java/lang/invoke/VarHandle" ∧ (parseMethodDescriptor y_Mod_put.desc).map (fun d => d.parameters.length) = some 1 := by decide +kernel
theorem hd_Mod_putRead : y_Mod_putRead.cls = "BinnedReadsModel" ∧ y_Mod_putRead.cls ≠ "java/lang/invoke/MethodHandle" ∧ y_Mod_putRead.cls ≠ "java/lang/invoke/VarHandle" ∧ (parseMethodDescriptor y_Mod_putRead.desc).map (fun d => d.parameters.length) = some 1 := by decide +kernel
theorem hd_Mod_query : y_Mod_query.cls = "BinnedReadsModel" ∧ y_Mod_query.cls ≠ "java/lang/invoke/MethodHandle" ∧ y_Mod_query.cls ≠ "java/lang/invoke/VarHandle" ∧ (parseMethodDescriptor y_Mod_query.desc).map (fun d => d.parameters.length) = some 3 := by decide +kernel
theorem hd_Mod_scrap : y_Mod_scrap.cls = "BinnedReadsModel" ∧ y_Mod_scrap.cls ≠ "java/lang/invoke/MethodHandle" ∧ y_Mod_scrap.cls ≠ "java/lang/invoke/VarHandle" ∧ (parseMethodDescriptor y_Mod_scrap.desc).map (fun d => d.parameters.length) = some 0 := by decide +kernel
theorem hd_Mod_store : y_Mod_store.cls = "BinnedReadsModel" ∧ y_Mod_store.cls ≠ "java/lang/invoke/MethodHandle" ∧ y_Mod_store.cls ≠ "java/lang/invoke/VarHandle" ∧ (parseMethodDescriptor y_Mod_store.desc).map (fun d => d.parameters.length) = some 1 := by decide +kernel
theorem hd_Mod_storeBlock : y_Mod_storeBlock.cls = "BinnedReadsModel" ∧ y_Mod_storeBlock.cls ≠ "java/lang/invoke/MethodHandle" ∧ y_Mod_storeBlock.cls ≠ "java/lang/invoke/VarHandle" ∧ (parseMethodDescriptor y_Mod_storeBlock.desc).map (fun d => d.parameters.length) = some 2 := by decide +kernel
theorem hd_Mod_sum : y_Mod_sum.cls = "BinnedReadsModel" ∧ y_Mod_sum.cls ≠ "java/lang/invoke/MethodHandle" ∧ y_Mod_sum.cls ≠ "java/lang/invoke/VarHandle" ∧ (parseMethodDescriptor y_Mod_sum.desc).map (fun d => d.parameters.length) = some 3 := by decide +kernel
theorem hd_Mod_touches : y_Mod_touches.cls = "BinnedReadsModel" ∧ y_Mod_touches.cls ≠ "java/lang/invoke/MethodHandle" ∧ y_Mod_touches.cls ≠ "java/lang/invoke/VarHandle" ∧ (parseMethodDescriptor y_Mod_touches.desc).map (fun d => d.parameters.length) = some 3 := by decide +kernel
theorem hd_Mod_turn : y_Mod_turn.cls = "BinnedReadsModel" ∧ y_Mod_turn.cls ≠ "java/lang/invoke/MethodHandle" ∧ y_Mod_turn.cls ≠ "java/lang/invoke/VarHandle" ∧ (parseMethodDescriptor y_Mod_turn.desc).map (fun d => d.parameters.length) = some 2 := by decide +kernel
theorem hd_Mod_within : y_Mod_within.cls = "BinnedReadsModel" ∧ y_Mod_within.cls ≠ "java/lang/invoke/MethodHandle" ∧ y_Mod_within.cls ≠ "java/lang/invoke/VarHandle" ∧ (parseMethodDescriptor y_Mod_within.desc).map (fun d => d.parameters.length) = some 3 := by decide +kernel
theorem hd_Strm_appendByte : y_Strm_appendByte.cls = "BinnedReads$Stream" ∧ y_Strm_appendByte.cls ≠ "java/lang/invoke/MethodHandle" ∧ y_Strm_appendByte.cls ≠ "java/lang/invoke/VarHandle" ∧ (parseMethodDescriptor y_Strm_appendByte.desc).map (fun d => d.parameters.length) = some 1 := by decide +kernel
theorem hd_Strm_appendRow : y_Strm_appendRow.cls = "BinnedReads$Stream" ∧ y_Strm_appendRow.cls ≠ "java/lang/invoke/MethodHandle" ∧ y_Strm_appendRow.cls ≠ "java/lang/invoke/VarHandle" ∧ (parseMethodDescriptor y_Strm_appendRow.desc).map (fun d => d.parameters.length) = some 4 := by decide +kernel
theorem hd_Strm_empty : y_Strm_empty.cls = "BinnedReads$Stream" ∧ y_Strm_empty.cls ≠ "java/lang/invoke/MethodHandle" ∧ y_Strm_empty.cls ≠ "java/lang/invoke/VarHandle" ∧ (parseMethodDescriptor y_Strm_empty.desc).map (fun d => d.parameters.length) = some 0 := by decide +kernel
theorem hd_Strm_init : y_Strm_init.cls = "BinnedReads$Stream" ∧ y_Strm_init.cls ≠ "java/lang/invoke/MethodHandle" ∧ y_Strm_init.cls ≠ "java/lang/invoke/VarHandle" ∧ (parseMethodDescriptor y_Strm_init.desc).map (fun d => d.parameters.length) = some 0 := by decide +kernel
theorem hd_Strm_rowLength : y_Strm_rowLength.cls = "BinnedReads$Stream" ∧ y_Strm_rowLength.cls ≠ "java/lang/invoke/MethodHandle" ∧ y_Strm_rowLength.cls ≠ "java/lang/invoke/VarHandle" ∧ (parseMethodDescriptor y_Strm_rowLength.desc).map (fun d => d.parameters.length) = some 1 := by decide +kernel
end
section
/-! what a query looks at and finds: lists of reads -/
/-- the list is in order -/
theorem selN_up {P : Nat → Bool} {lo n i : Nat} (h : i + 1 < (selN P lo n).length) : (selN P lo n).getD i 0 < (selN P lo n).getD (i + 1) 0 := by
  induction n with
  | zero => exact absurd h (Nat.not_lt_zero _)
  | succ n ih =>
    by_cases hc : lo ≤ n ∧ P n = true
    · rw [selN_yes hc.1 hc.2] at h ⊢
      rw [List.length_append] at h
      have h : i + 1 < (selN P lo n).length + 1 := h
      by_cases e : i + 1 < (selN P lo n).length
      · rw [getD_app (by omega), getD_app e]
        exact ih e
      · rw [getD_app (by omega), show i + 1 = (selN P lo n).length by omega, getD_last]
        have h1 := selN_mem.mp (getD_mem (L := selN P lo n) (i := i) (by omega))
        exact h1.2.1
    · have e1 : selN P lo (n + 1) = selN P lo n := by
        show selN P lo n ++ (if lo ≤ n ∧ P n = true then [n] else []) = _
        rw [if_neg hc, List.append_nil]
      rw [e1] at h ⊢
      exact ih h
theorem selN_congr {P P' : Nat → Bool} {lo n : Nat} (h : ∀ i, lo ≤ i → i < n → P i = P' i) : selN P lo n = selN P' lo n := by
  induction n with
  | zero => rfl
  | succ n ih =>
    show selN P lo n ++ (if lo ≤ n ∧ P n = true then [n] else []) = selN P' lo n ++ (if lo ≤ n ∧ P' n = true then [n] else [])
    rw [ih (fun i h1 h2 => h i h1 (by omega))]
    by_cases hl : lo ≤ n
    · rw [h n hl (by omega)]
    · rw [if_neg (fun q => hl q.1), if_neg (fun q => hl q.1)]
/-- the first n of L of which ov holds -/
def fndL (L : List Nat) (ov : Nat → Bool) : Nat → List Nat
  | 0 => []
  | n + 1 => fndL L ov n ++ (if ov (L.getD n 0) = true then [L.getD n 0] else [])
theorem fndL_yes {L : List Nat} {ov : Nat → Bool} {n : Nat} (h : ov (L.getD n 0) = true) : fndL L ov (n + 1) = fndL L ov n ++ [L.getD n 0] := by
  show fndL L ov n ++ (if ov (L.getD n 0) = true then [L.getD n 0] else []) = _
  rw [if_pos h]
theorem fndL_no {L : List Nat} {ov : Nat → Bool} {n : Nat} (h : ¬ ov (L.getD n 0) = true) : fndL L ov (n + 1) = fndL L ov n := by
  show fndL L ov n ++ (if ov (L.getD n 0) = true then [L.getD n 0] else []) = _
  rw [if_neg h, List.append_nil]
theorem fndL_len {L : List Nat} {ov : Nat → Bool} {n : Nat} : (fndL L ov n).length ≤ n := by
  induction n with
  | zero => exact Nat.le_refl _
  | succ n ih =>
    by_cases h : ov (L.getD n 0) = true
    · rw [fndL_yes h, List.length_append]
      show _ + 1 ≤ _
      omega
    · rw [fndL_no h]
      omega
theorem fndL_app {L L2 : List Nat} {ov : Nat → Bool} {n : Nat} (h : n ≤ L.length) : fndL (L ++ L2) ov n = fndL L ov n := by
  induction n with
  | zero => rfl
  | succ n ih =>
    show fndL (L ++ L2) ov n ++ _ = fndL L ov n ++ _
    rw [ih (by omega), getD_app (by omega)]
theorem fndL_sel {P ov : Nat → Bool} {lo n : Nat} : fndL (selN P lo n) ov (selN P lo n).length = selN (fun z => P z && ov z) lo n := by
  induction n with
  | zero => rfl
  | succ n ih =>
    by_cases hc : lo ≤ n ∧ P n = true
    · rw [selN_yes hc.1 hc.2, List.length_append]
      show fndL (selN P lo n ++ [n]) ov ((selN P lo n).length + 1) = _
      by_cases h : ov n = true
      · rw [fndL_yes (by rw [getD_last]; exact h), getD_last, fndL_app (Nat.le_refl _), ih, selN_yes hc.1 (by show (P n && ov n) = true; rw [hc.2, h]; rfl)]
      · rw [fndL_no (by rw [getD_last]; exact h), fndL_app (Nat.le_refl _), ih, selN_no (fun q => h (by have q : (P n && ov n) = true := q; rw [hc.2] at q; exact q))]
    · have e1 : selN P lo (n + 1) = selN P lo n := by
        show selN P lo n ++ (if lo ≤ n ∧ P n = true then [n] else []) = _
        rw [if_neg hc, List.append_nil]
      have e2 : selN (fun z => P z && ov z) lo (n + 1) = selN (fun z => P z && ov z) lo n := by
        show selN (fun z => P z && ov z) lo n ++ (if lo ≤ n ∧ (P n && ov n) = true then [n] else []) = _
        rw [if_neg (fun q => hc ⟨q.1, (Bool.and_eq_true _ _ ▸ q.2).1⟩), List.append_nil]
      rw [e1, e2]
      exact ih
/-- starts of rows: one behind the other -/
theorem sN_mono {sN : Nat → Nat} {cn : Nat} (h : ∀ z, z < cn → sN z < sN (z + 1)) {z z' : Nat} (hz : z < z') (hc : z' ≤ cn) : sN (z + 1) ≤ sN z' := by
  induction z' with
  | zero => omega
  | succ w ih =>
    by_cases e : z = w
    · rw [e]
      exact Nat.le_refl _
    · have h1 := ih (by omega) (by omega)
      have h2 := h w (by omega)
      omega
theorem acs_step {S : Nat → Prop} {L : List Nat} {sN : Nat → Nat} {cn i nx : Nat} (hmo : ∀ z, z < cn → sN z < sN (z + 1)) (hL : ∀ q, q ≤ i → L.getD q 0 < cn) (hLs : ∀ q, q + 1 ≤ i → L.getD q 0 < L.getD (q + 1) 0) (hal : ∀ q, q < i → ∀ k, sN (L.getD q 0) / 40 ≤ k → k ≤ (sN (L.getD q 0 + 1) - 1) / 40 → S k) (hnx : nx = 0 ∨ (0 < i ∧ nx = (sN (L.getD (i - 1) 0 + 1) - 1) / 40 + 1)) (h68 : ∀ z : Nat, max nx (sN (L.getD i 0) / 40) ≤ z → (z : Int) ≤ (((sN (L.getD i 0 + 1) - 1) / 40 : Nat) : Int) → S z) : ∀ q, q < i + 1 → ∀ k, sN (L.getD q 0) / 40 ≤ k → k ≤ (sN (L.getD q 0 + 1) - 1) / 40 → S k := by
  intro q hq k h1 h2
  by_cases e : q = i
  · subst e
    by_cases h3 : nx ≤ k
    · exact h68 k (by omega) (by omega)
    · rcases hnx with hnx | ⟨hi0, hnx⟩
      · omega
      · obtain ⟨w, rfl⟩ : ∃ w, q = w + 1 := ⟨q - 1, by omega⟩
        rw [Nat.add_sub_cancel] at hnx
        have h4 := hLs w (by omega)
        have h5 := sN_mono hmo h4 (Nat.le_of_lt (hL (w + 1) (by omega)))
        have h6 := hmo (L.getD w 0) (hL w (by omega))
        exact hal w (by omega) k (by omega) (by omega)
  · exact hal q (by omega) k h1 h2
/-- the first of its kind is one -/
theorem first_one {C : Nat → Prop} {n i j : Nat} (hi : i ≤ n) (hi1 : ∀ z, z < i → ¬ C z) (hi2 : i < n → C i) (hj : j ≤ n) (hj1 : ∀ z, z < j → ¬ C z) (hj2 : j < n → C j) : i = j := by
  rcases Nat.lt_trichotomy i j with h | h | h
  · exact absurd (hi2 (by omega)) (hj1 i h)
  · exact h
  · exact absurd (hj2 (by omega)) (hi1 j h)
/-- a read more in the finding -/
theorem qry_push {F : List Nat} {n : Nat} {G2 G4 : Nat → Nat → Int} {O2 SB KS : Nat → Int} {sN : Nat → Nat} {v : Int} (h : ∀ q, q < F.length → (∀ t, t < sN (F.getD q 0 + 1) - sN (F.getD q 0) → G2 q t = SB (sN (F.getD q 0) + t)) ∧ O2 q = ((64 * (KS (sN (F.getD q 0) / 40)).toNat + sN (F.getD q 0) % 40 : Nat) : Int)) (h1 : ∀ z, z ≠ F.length → G4 z = G2 z) (h2 : ∀ t, t < sN (n + 1) - sN n → G4 F.length t = SB (sN n + t)) (hv : v = ((64 * (KS (sN n / 40)).toNat + sN n % 40 : Nat) : Int)) : ∀ q, q < (F ++ [n]).length → (∀ t, t < sN ((F ++ [n]).getD q 0 + 1) - sN ((F ++ [n]).getD q 0) → G4 q t = SB (sN ((F ++ [n]).getD q 0) + t)) ∧ bU O2 F.length v q = ((64 * (KS (sN ((F ++ [n]).getD q 0) / 40)).toNat + sN ((F ++ [n]).getD q 0) % 40 : Nat) : Int) := by
  intro q hq
  rw [List.length_append] at hq
  have hq : q < F.length + 1 := hq
  by_cases e : q = F.length
  · subst e
    rw [getD_last, bU_s]
    exact ⟨h2, hv⟩
  · rw [getD_app (by omega), bU_n e, h1 q e]
    exact h q (by omega)
end
section
/-! new int[24][22]: its rows are the pool; over va_mna (of the kit's printed names, laid ahead of this part by gen/make.py) -/
section MNA
variable {p : Program} {l : Launch} {e : Env} {R : Room} {s : State} {m : MethodId} {args : Array Value} {below : List Frame} {meth : Method} {c : Code} {H : Heap} {locs : List Loc} {cells slots : Nat} {Q : State → Prop}
variable {cc : ByteArray} {pc : Nat} {ls : Array Slot} {rest : List Value} {D : va_G} {A : Nat → Prop} {cI cO : ClassId} {X : va_W} {H0 : Heap}
theorem mna_rows {cI : ClassId} {r : Nat → Nat} {f : Nat → va_E} : va_pl ([] ++ (List.range 24).map r) (vr_up f ((List.range 24).map r) (.inl (cI, 22, .inl (fun _ => iI 0)))) = rwP cI r (fun _ _ => 0) := by
  unfold va_pl rwP
  rw [List.nil_append, List.map_map]
  apply List.map_congr_left
  intro i hi
  show (r i, vr_up f ((List.range 24).map r) (.inl (cI, 22, .inl (fun _ => iI 0))) (r i)) = _
  rw [vr_up_in (List.mem_map.mpr ⟨i, hi, rfl⟩)]
theorem bk_mna (hx : p.tables.exec = Jvm.exec) (hb : c.code = cc) {own : String} {index : Nat} (hown : s.vm.findClass own = some m.cls) (hclink : (Cond.classLink own index "[[I").before args s = true) (hover : (Cond.arrayOver (.array .int)).before #[] s = true) (harr : (Cond.arrayClass .int).before args s = true) (hK : va_K D classes [(cI, .int), (cO, .array .int)] s) (hP : va_P D classes X H) (hD : va_D A X) (hS : va_S A H0 H locs) (hA : ∀ q, H0.size ≤ q → A q) (hcells : cells + 25 ≤ R.cells) (hslots : slots + 552 ≤ R.slots) (hdg : decode cc pc = .ok (.multianewarray index 2, 4))
    (kk : ∀ (q : Nat) (r : Nat → Nat) (H1 : Heap), va_P D classes ((X ++ [(q, aq cO 24 (rwF r))]) ++ rwP cI r (fun _ _ => 0)) H1 → va_D A ((X ++ [(q, aq cO 24 (rwF r))]) ++ rwP cI r (fun _ _ => 0)) → va_S A H0 H1 locs → W p l e R s m args below meth c H1 locs (cells + 25) (slots + 552) Q (F0 m (pc + 4) ls (.ref q :: rest))) : W p l e R s m args below meth c H locs cells slots Q (F0 m pc ls (.int (iI 22) :: .int (iI 24) :: rest)) := by
  have hP0 : va_P D classes (X ++ va_pl [] (fun _ => .inl (cI, 22, .inl (fun _ => iI 0)))) H := by
    show va_P D classes (X ++ []) H
    rw [List.append_nil]
    exact hP
  have hD0 : va_D A (X ++ va_pl [] (fun _ => .inl (cI, 22, .inl (fun _ => iI 0)))) := by
    show va_D A (X ++ [])
    rw [List.append_nil]
    exact hD
  refine va_mna (X := X) (L := []) (ty := .int) (cy := cI) (N' := 24) (K' := 22) (z := (22, .inl (fun _ => iI 0))) hx hb hown hclink hover harr (hK.2 0 _ rfl).2 hK hP0 hD0 hS hA (by decide) (by decide) (by decide) (by decide) (by decide) (by decide) (by decide) (by decide) (by decide) hcells hslots (fun c => ?_) hdg (fun q r cA H1 _ _ hK1 hP1 hD1 hS1 => ?_)
  · rw [vp_cell_i, ← iI_0]
    exact arrV_new c 22 (.int 0)
  · have e1 := (hK1.2 2 (cA, .array .int) rfl).2
    have e2 := (hK.2 1 _ rfl).2
    have e3 : cA = cO := Option.some.inj (Eq.trans (Eq.symm e1) e2)
    subst e3
    rw [mna_rows] at hP1 hD1
    exact kk q r H1 hP1 hD1 hS1
end MNA
end
section
abbrev rm_BR_kindOf : Room := { frames := 0, cells := 0, slots := 0, locals := 0 }
set_option maxRecDepth 100000 in
set_option maxHeartbeats 4000000 in
theorem c_BR_kindOf (l : Launch) (D : va_G) (cI cO : ClassId) (a : Int) (ha : 0 ≤ a ∧ a < 2147483648) : Mi l y_BR_kindOf b_BR_kindOf 1 .int rm_BR_kindOf D cI cO [.int (iI a)] ([]) (fun (r : Int) (_ : Unit) => r = a % 4) (fun (_ : Unit) => []) 0 0 := by
  refine bk_start (by decide) (ble_le rfl) ?_
  intro p e s m args below meth c A ls Q hx hb hr hml hlk hown hnm hT hK hA hAe hQ hP hD hS hl
  have hown : s.vm.findClass "BinnedReads" = some m.cls := hown
  have hl : lv_has ls 1 [(0, .int (iI a))] := hl
  refine lv_iload_n hx hb d_BR_kindOf_0 rfl (lv_at hl 0 rfl) ?_
  refine lv_iconst (v := iI 4) hx hb d_BR_kindOf_1 rfl ?_
  refine bk_rem hx hb d_BR_kindOf_2 (by omega) (by omega) ?_
  exact bk_reti (r := a % 4) hx hb hr rfl hlk hAe hQ hS () rfl hP hD d_BR_kindOf_3
abbrev rm_BR_lengthOf : Room := { frames := 0, cells := 0, slots := 0, locals := 0 }
set_option maxRecDepth 100000 in
set_option maxHeartbeats 4000000 in
theorem c_BR_lengthOf (l : Launch) (D : va_G) (cI cO : ClassId) (a : Int) (ha : 0 ≤ a ∧ a < 2147483648) : Mi l y_BR_lengthOf b_BR_lengthOf 1 .int rm_BR_lengthOf D cI cO [.int (iI a)] ([]) (fun (r : Int) (_ : Unit) => r = a / 4) (fun (_ : Unit) => []) 0 0 := by
  refine bk_start (by decide) (ble_le rfl) ?_
  intro p e s m args below meth c A ls Q hx hb hr hml hlk hown hnm hT hK hA hAe hQ hP hD hS hl
  have hown : s.vm.findClass "BinnedReads" = some m.cls := hown
  have hl : lv_has ls 1 [(0, .int (iI a))] := hl
  refine lv_iload_n hx hb d_BR_lengthOf_0 rfl (lv_at hl 0 rfl) ?_
  refine lv_iconst (v := iI 4) hx hb d_BR_lengthOf_1 rfl ?_
  refine bk_div hx hb d_BR_lengthOf_2 (by omega) (by omega) ?_
  exact bk_reti (r := a / 4) hx hb hr rfl hlk hAe hQ hS () rfl hP hD d_BR_lengthOf_3
abbrev rm_BR_spanOf : Room := { frames := 1, cells := 0, slots := 0, locals := 20 }
set_option maxRecDepth 100000 in
set_option maxHeartbeats 4000000 in
theorem c_BR_spanOf (l : Launch) (D : va_G) (cI cO : ClassId) (q n : Nat) (F : Nat → Int) (f k : Nat) (hf : f + k ≤ n ∧ n ≤ 1000) (hF : ∀ i, i < k → 0 ≤ F (f + i) ∧ F (f + i) ≤ 255) : Mi l y_BR_spanOf b_BR_spanOf 6 .int rm_BR_spanOf D cI cO [.ref q, .int (iI (f : Int)), .int (iI (k : Int))] ([(q, ar cI n F)]) (fun (r : Int) (_ : Unit) => r = spanN (fun z => F (f + z)) k) (fun (_ : Unit) => [(q, ar cI n F)]) 0 0 := by
  refine bk_start (by decide) (ble_le rfl) ?_
  intro p e s m args below meth c A ls Q hx hb hr hml hlk hown hnm hT hK hA hAe hQ hP hD hS hl
  have hown : s.vm.findClass "BinnedReads" = some m.cls := hown
  have hl : lv_has ls 6 [(0, .ref q), (1, .int (iI (f : Int))), (2, .int (iI (k : Int)))] := hl
  refine lv_iconst (v := iI 0) hx hb d_BR_spanOf_0 rfl ?_
  refine lv_istore_n hx hb d_BR_spanOf_1 rfl hl (by decide) rfl (fun ls hl => ?_)
  have hl : lv_has ls 6 [(3, .int (iI 0)), (0, .ref q), (1, .int (iI (f : Int))), (2, .int (iI (k : Int)))] := hl
  refine lv_iconst (v := iI 0) hx hb d_BR_spanOf_2 rfl ?_
  refine lv_istore hx hb d_BR_spanOf_3 hl (by decide) rfl (fun ls hl => ?_)
  have hl : lv_has ls 6 [(4, .int (iI 0)), (3, .int (iI 0)), (0, .ref q), (1, .int (iI (f : Int))), (2, .int (iI (k : Int)))] := hl
  have cut5 : ∀ (N0 : Nat) (i : Nat) (H : Heap) (locs : List Loc) (ls : Array Slot), k - i = N0 → (i ≤ k) → lv_has ls 6 [(0, .ref q), (1, .int (iI (f : Int))), (2, .int (iI (k : Int))), (3, .int (iI (spanN (fun z => F (f + z)) i))), (4, .int (iI (i : Int)))] → va_P D classes ([(q, ar cI n F)]) H → va_D A ([(q, ar cI n F)]) → va_S A s.heap H locs → W p l e rm_BR_spanOf s m args below meth c H locs 0 0 Q (F0 m 5 ls []) := by
    intro N0
    induction N0 using Nat.strongRecOn with
    | _ N0 ih5 =>
      intro i H locs ls hN5 hi hl hP hD hS
      have hsp := spanN_rg (G := fun z => F (f + z)) (k := i) (fun z hz => hF z (by omega))
      refine lv_iload hx hb d_BR_spanOf_5 (lv_at hl 4 rfl) ?_
      refine lv_iload_n hx hb d_BR_spanOf_7 rfl (lv_at hl 2 rfl) ?_
      refine bk_icmp_ge (tgt := 51) hx hb d_BR_spanOf_8 (by decide) (by omega) (by omega) (fun c8 => ?_) (fun c8 => ?_)
      · skip
        refine lv_iload_n hx hb d_BR_spanOf_51 rfl (lv_at hl 3 rfl) ?_
        exact bk_reti (r := spanN (fun z => F (f + z)) i) hx hb hr rfl hlk hAe hQ hS () (by rw [show k = i by omega]) hP hD d_BR_spanOf_52
      · skip
        have hFi := hF i (by omega)
        refine lv_iload_n hx hb d_BR_spanOf_11 rfl (lv_at hl 1 rfl) ?_
        refine lv_iload hx hb d_BR_spanOf_12 (lv_at hl 4 rfl) ?_
        refine bk_add hx hb d_BR_spanOf_14 ?_
        refine bk_top (y := iI ((f + i : Nat) : Int)) (congrArg iI (by omega)) ?_
        refine lv_aload_n hx hb d_BR_spanOf_15 rfl (lv_at hl 0 rfl) ?_
        refine va_alen (v := iI (n : Int)) hx hb hK.1 hP 0 0 rfl rfl Int32.ofInt_eq_ofNat.symm d_BR_spanOf_16 ?_
        refine bk_icmp_ge (tgt := 51) hx hb d_BR_spanOf_17 (by decide) (by omega) (by omega) (fun c17 => ?_) (fun c17 => ?_)
        · skip
          exact absurd c17 (by omega)
        · skip
          refine lv_aload_n hx hb d_BR_spanOf_20 rfl (lv_at hl 0 rfl) ?_
          refine lv_iload_n hx hb d_BR_spanOf_21 rfl (lv_at hl 1 rfl) ?_
          refine lv_iload hx hb d_BR_spanOf_22 (lv_at hl 4 rfl) ?_
          refine bk_add hx hb d_BR_spanOf_24 ?_
          refine bk_top (y := iI ((f + i : Nat) : Int)) (congrArg iI (by omega)) ?_
          refine bk_iald hx hb hK.1 hP 0 0 rfl rfl (f + i) (by omega) (by omega) d_BR_spanOf_25 ?_
          refine lv_istore hx hb d_BR_spanOf_26 hl (by decide) rfl (fun ls hl => ?_)
          have hl : lv_has ls 6 [(5, .int (iI (F (f + i)))), (0, .ref q), (1, .int (iI (f : Int))), (2, .int (iI (k : Int))), (3, .int (iI (spanN (fun z => F (f + z)) i))), (4, .int (iI (i : Int)))] := hl
          refine lv_iload hx hb d_BR_spanOf_28 (lv_at hl 0 rfl) ?_
          refine bk_fR (ws := [(q, ar cI n F)]) (Wc := []) (fun _ => rfl) (bk_hs (X := [(q, ar cI n F)]) (pl := []) (Wc := []) [] rfl) hP hD hS hA (bk_rS (rest := []) hx hb hml hown hT hK (c_BR_kindOf l D cI cO (F (f + i)) (by omega)) (bk_subP (X := [(q, ar cI n F)]) (pl := []) (Wc := []) hP [] rfl) (bk_subD (X := [(q, ar cI n F)]) (pl := []) (Wc := []) hD [] (by decide) rfl) tw_203 tw_204 tw_1 tw_205 hd_BR_kindOf ⟨rfl, rfl⟩ (by decide) hl.1 rfl (ble_le rfl) d_BR_spanOf_30 (by decide)) (fun r30 u H locs hq hP hS => ?_)
          have hq : r30 = (F (f + i)) % 4 := hq
          obtain rfl := hq
          refine lv_iconst (v := iI 1) hx hb d_BR_spanOf_33 rfl ?_
          refine bk_icmp_eq (tgt := 45) hx hb d_BR_spanOf_34 (by decide) (by omega) (by omega) (fun c34 => ?_) (fun c34 => ?_)
          · skip
            have hl : lv_has ls 6 [(5, .int (iI (F (f + i)))), (0, .ref q), (1, .int (iI (f : Int))), (2, .int (iI (k : Int))), (3, .int (iI (spanN (fun z => F (f + z)) (i + 1)))), (4, .int (iI (i : Int)))] := by
              rw [show spanN (fun z => F (f + z)) (i + 1) = spanN (fun z => F (f + z)) i from spanN_skip (by omega)]
              exact hl
            refine lv_iinc (k := 5) (v := iI ((i + 1 : Nat) : Int)) hx hb d_BR_spanOf_45 hl rfl ((iI_add _ _).trans (congrArg iI (by omega))) (by decide) rfl (fun ls hl => ?_)
            have hl : lv_has ls 6 [(4, .int (iI ((i + 1 : Nat) : Int))), (5, .int (iI (F (f + i)))), (0, .ref q), (1, .int (iI (f : Int))), (2, .int (iI (k : Int))), (3, .int (iI (spanN (fun z => F (f + z)) (i + 1))))] := hl
            refine lv_goto (tgt := 5) hx hb d_BR_spanOf_48 (by decide) ?_
            exact ih5 (k - (i + 1)) (by omega) (i + 1) _ _ _ rfl (by omega) (lv_sub hl [2, 3, 4, 5, 0] rfl) hP hD hS
          · skip
            refine lv_iload_n hx hb d_BR_spanOf_37 rfl (lv_at hl 4 rfl) ?_
            refine lv_iload hx hb d_BR_spanOf_38 (lv_at hl 0 rfl) ?_
            refine bk_fR (ws := [(q, ar cI n F)]) (Wc := []) (fun _ => rfl) (bk_hs (X := [(q, ar cI n F)]) (pl := []) (Wc := []) [] rfl) hP hD hS hA (bk_rS (rest := [.int (iI (spanN (fun z => F (f + z)) i))]) hx hb hml hown hT hK (c_BR_lengthOf l D cI cO (F (f + i)) (by omega)) (bk_subP (X := [(q, ar cI n F)]) (pl := []) (Wc := []) hP [] rfl) (bk_subD (X := [(q, ar cI n F)]) (pl := []) (Wc := []) hD [] (by decide) rfl) tw_206 tw_207 tw_1 tw_208 hd_BR_lengthOf ⟨rfl, rfl⟩ (by decide) hl.1 rfl (ble_le rfl) d_BR_spanOf_40 (by decide)) (fun r40 u H locs hq hP hS => ?_)
            have hq : r40 = (F (f + i)) / 4 := hq
            obtain rfl := hq
            refine bk_add hx hb d_BR_spanOf_43 ?_
            refine bk_top (y := iI (spanN (fun z => F (f + z)) (i + 1))) (congrArg iI (spanN_step (by omega)).symm) ?_
            refine lv_istore_n hx hb d_BR_spanOf_44 rfl hl (by decide) rfl (fun ls hl => ?_)
            have hl : lv_has ls 6 [(3, .int (iI (spanN (fun z => F (f + z)) (i + 1)))), (5, .int (iI (F (f + i)))), (0, .ref q), (1, .int (iI (f : Int))), (2, .int (iI (k : Int))), (4, .int (iI (i : Int)))] := hl
            refine lv_iinc (k := 5) (v := iI ((i + 1 : Nat) : Int)) hx hb d_BR_spanOf_45 hl rfl ((iI_add _ _).trans (congrArg iI (by omega))) (by decide) rfl (fun ls hl => ?_)
            have hl : lv_has ls 6 [(4, .int (iI ((i + 1 : Nat) : Int))), (3, .int (iI (spanN (fun z => F (f + z)) (i + 1)))), (5, .int (iI (F (f + i)))), (0, .ref q), (1, .int (iI (f : Int))), (2, .int (iI (k : Int)))] := hl
            refine lv_goto (tgt := 5) hx hb d_BR_spanOf_48 (by decide) ?_
            exact ih5 (k - (i + 1)) (by omega) (i + 1) _ _ _ rfl (by omega) (lv_sub hl [3, 4, 5, 1, 0] rfl) hP hD hS
  exact cut5 _ 0 _ _ _ rfl (by omega) (lv_sub hl [2, 3, 4, 1, 0] rfl) hP hD hS
abbrev rm_BR_isReference : Room := { frames := 0, cells := 0, slots := 0, locals := 0 }
set_option maxRecDepth 100000 in
set_option maxHeartbeats 4000000 in
theorem c_BR_isReference (l : Launch) (D : va_G) (cI cO : ClassId) (a : Int) (ha : -2147483648 ≤ a ∧ a < 2147483648) : Mi l y_BR_isReference b_BR_isReference 1 .boolean rm_BR_isReference D cI cO [.int (iI a)] ([]) (fun (r : Int) (_ : Unit) => (0 ≤ a ∧ a < 2 ∧ r = 1) ∨ (¬ (0 ≤ a ∧ a < 2) ∧ r = 0)) (fun (_ : Unit) => []) 0 0 := by
  refine bk_start (by decide) (ble_le rfl) ?_
  intro p e s m args below meth c A ls Q hx hb hr hml hlk hown hnm hT hK hA hAe hQ hP hD hS hl
  have hown : s.vm.findClass "BinnedReads" = some m.cls := hown
  have hl : lv_has ls 1 [(0, .int (iI a))] := hl
  refine lv_iload_n hx hb d_BR_isReference_0 rfl (lv_at hl 0 rfl) ?_
  refine bk_if_lt (tgt := 13) hx hb d_BR_isReference_1 (by decide) (by omega) (fun c1 => ?_) (fun c1 => ?_)
  · skip
    refine lv_iconst (v := iI 0) hx hb d_BR_isReference_13 rfl ?_
    exact bk_reti (r := 0) hx hb hr iI_nar0 hlk hAe hQ hS () (by omega) hP hD d_BR_isReference_14
  · skip
    refine lv_iload_n hx hb d_BR_isReference_4 rfl (lv_at hl 0 rfl) ?_
    refine lv_iconst (v := iI 2) hx hb d_BR_isReference_5 rfl ?_
    refine bk_icmp_ge (tgt := 13) hx hb d_BR_isReference_6 (by decide) (by omega) (by omega) (fun c6 => ?_) (fun c6 => ?_)
    · skip
      refine lv_iconst (v := iI 0) hx hb d_BR_isReference_13 rfl ?_
      exact bk_reti (r := 0) hx hb hr iI_nar0 hlk hAe hQ hS () (by omega) hP hD d_BR_isReference_14
    · skip
      refine lv_iconst (v := iI 1) hx hb d_BR_isReference_9 rfl ?_
      refine lv_goto (tgt := 14) hx hb d_BR_isReference_10 (by decide) ?_
      exact bk_reti (r := 1) hx hb hr iI_nar1 hlk hAe hQ hS () (by omega) hP hD d_BR_isReference_14
abbrev rm_BR_isRegion : Room := { frames := 1, cells := 0, slots := 0, locals := 20 }
set_option maxRecDepth 100000 in
set_option maxHeartbeats 4000000 in
theorem c_BR_isRegion (l : Launch) (D : va_G) (cI cO : ClassId) (a b d : Int) (ha : -2147483648 ≤ a ∧ a < 2147483648) (hb1 : -2147483648 ≤ b ∧ b < 2147483648) (hd1 : -2147483648 ≤ d ∧ d < 2147483648) : Mi l y_BR_isRegion b_BR_isRegion 3 .boolean rm_BR_isRegion D cI cO [.int (iI a), .int (iI b), .int (iI d)] ([]) (fun (r : Int) (_ : Unit) => ((0 ≤ a ∧ a < 2 ∧ 0 ≤ b ∧ d ≤ 4096 ∧ b < d) ∧ r = 1) ∨ (¬ (0 ≤ a ∧ a < 2 ∧ 0 ≤ b ∧ d ≤ 4096 ∧ b < d) ∧ r = 0)) (fun (_ : Unit) => []) 0 0 := by
  refine bk_start (by decide) (ble_le rfl) ?_
  intro p e s m args below meth c A ls Q hx hb hr hml hlk hown hnm hT hK hA hAe hQ hP hD hS hl
  have hown : s.vm.findClass "BinnedReads" = some m.cls := hown
  have hl : lv_has ls 3 [(0, .int (iI a)), (1, .int (iI b)), (2, .int (iI d))] := hl
  refine lv_iload_n hx hb d_BR_isRegion_0 rfl (lv_at hl 0 rfl) ?_
  refine bk_fR (ws := []) (Wc := []) (fun _ => rfl) (bk_hs (X := []) (pl := []) (Wc := []) [] rfl) hP hD hS hA (bk_rS (rest := []) hx hb hml hown hT hK (c_BR_isReference l D cI cO a ha) (bk_subP (X := []) (pl := []) (Wc := []) hP [] rfl) (bk_subD (X := []) (pl := []) (Wc := []) hD [] (by decide) rfl) tw_215 tw_216 tw_1 tw_217 hd_BR_isReference ⟨rfl, rfl⟩ (by decide) hl.1 rfl (ble_le rfl) d_BR_isRegion_1 (by decide)) (fun r1 u H locs hq hP hS => ?_)
  have hq : (0 ≤ a ∧ a < 2 ∧ r1 = 1) ∨ (¬ (0 ≤ a ∧ a < 2) ∧ r1 = 0) := hq
  refine bk_if_eq (tgt := 27) hx hb d_BR_isRegion_4 (by decide) (by omega) (fun c4 => ?_) (fun c4 => ?_)
  · skip
    refine lv_iconst (v := iI 0) hx hb d_BR_isRegion_27 rfl ?_
    exact bk_reti (r := 0) hx hb hr iI_nar0 hlk hAe hQ hS () (by omega) hP hD d_BR_isRegion_28
  · skip
    refine lv_iload_n hx hb d_BR_isRegion_7 rfl (lv_at hl 1 rfl) ?_
    refine bk_if_lt (tgt := 27) hx hb d_BR_isRegion_8 (by decide) (by omega) (fun c8 => ?_) (fun c8 => ?_)
    · skip
      refine lv_iconst (v := iI 0) hx hb d_BR_isRegion_27 rfl ?_
      exact bk_reti (r := 0) hx hb hr iI_nar0 hlk hAe hQ hS () (by omega) hP hD d_BR_isRegion_28
    · skip
      refine lv_iload_n hx hb d_BR_isRegion_11 rfl (lv_at hl 2 rfl) ?_
      refine lv_sipush (v := iI 4096) hx hb d_BR_isRegion_12 (by decide) ?_
      refine bk_icmp_gt (tgt := 27) hx hb d_BR_isRegion_15 (by decide) (by omega) (by omega) (fun c15 => ?_) (fun c15 => ?_)
      · skip
        refine lv_iconst (v := iI 0) hx hb d_BR_isRegion_27 rfl ?_
        exact bk_reti (r := 0) hx hb hr iI_nar0 hlk hAe hQ hS () (by omega) hP hD d_BR_isRegion_28
      · skip
        refine lv_iload_n hx hb d_BR_isRegion_18 rfl (lv_at hl 1 rfl) ?_
        refine lv_iload_n hx hb d_BR_isRegion_19 rfl (lv_at hl 2 rfl) ?_
        refine bk_icmp_ge (tgt := 27) hx hb d_BR_isRegion_20 (by decide) (by omega) (by omega) (fun c20 => ?_) (fun c20 => ?_)
        · skip
          refine lv_iconst (v := iI 0) hx hb d_BR_isRegion_27 rfl ?_
          exact bk_reti (r := 0) hx hb hr iI_nar0 hlk hAe hQ hS () (by omega) hP hD d_BR_isRegion_28
        · skip
          refine lv_iconst (v := iI 1) hx hb d_BR_isRegion_23 rfl ?_
          refine lv_goto (tgt := 28) hx hb d_BR_isRegion_24 (by decide) ?_
          exact bk_reti (r := 1) hx hb hr iI_nar1 hlk hAe hQ hS () (by omega) hP hD d_BR_isRegion_28
abbrev rm_BR_binOf : Room := { frames := 0, cells := 0, slots := 0, locals := 0 }
set_option maxRecDepth 100000 in
set_option maxHeartbeats 4000000 in
theorem c_BR_binOf (l : Launch) (D : va_G) (cI cO : ClassId) (a b : Int) (ha : 0 ≤ a ∧ a < b ∧ b ≤ 4096) : Mi l y_BR_binOf b_BR_binOf 3 .int rm_BR_binOf D cI cO [.int (iI a), .int (iI b)] ([]) (fun (r : Int) (_ : Unit) => r = binI a b) (fun (_ : Unit) => []) 0 0 := by
  refine bk_start (by decide) (ble_le rfl) ?_
  intro p e s m args below meth c A ls Q hx hb hr hml hlk hown hnm hT hK hA hAe hQ hP hD hS hl
  have hown : s.vm.findClass "BinnedReads" = some m.cls := hown
  have hl : lv_has ls 3 [(0, .int (iI a)), (1, .int (iI b))] := hl
  refine lv_iload_n hx hb d_BR_binOf_0 rfl (lv_at hl 1 rfl) ?_
  refine lv_iconst (v := iI 1) hx hb d_BR_binOf_1 rfl ?_
  refine bk_sub hx hb d_BR_binOf_2 ?_
  refine lv_istore_n hx hb d_BR_binOf_3 rfl hl (by decide) rfl (fun ls hl => ?_)
  have hl : lv_has ls 3 [(2, .int (iI (b - 1))), (0, .int (iI a)), (1, .int (iI b))] := hl
  refine lv_iload_n hx hb d_BR_binOf_4 rfl (lv_at hl 1 rfl) ?_
  refine lv_bipush (v := iI 64) hx hb d_BR_binOf_5 (by decide) ?_
  refine bk_div hx hb d_BR_binOf_7 (by omega) (by omega) ?_
  refine lv_iload_n hx hb d_BR_binOf_8 rfl (lv_at hl 0 rfl) ?_
  refine lv_bipush (v := iI 64) hx hb d_BR_binOf_9 (by decide) ?_
  refine bk_div hx hb d_BR_binOf_11 (by omega) (by omega) ?_
  refine bk_icmp_ne (tgt := 23) hx hb d_BR_binOf_12 (by decide) (by omega) (by omega) (fun c12 => ?_) (fun c12 => ?_)
  · skip
    refine lv_iload_n hx hb d_BR_binOf_23 rfl (lv_at hl 1 rfl) ?_
    refine lv_sipush (v := iI 512) hx hb d_BR_binOf_24 (by decide) ?_
    refine bk_div hx hb d_BR_binOf_27 (by omega) (by omega) ?_
    refine lv_iload_n hx hb d_BR_binOf_28 rfl (lv_at hl 0 rfl) ?_
    refine lv_sipush (v := iI 512) hx hb d_BR_binOf_29 (by decide) ?_
    refine bk_div hx hb d_BR_binOf_32 (by omega) (by omega) ?_
    refine bk_icmp_ne (tgt := 44) hx hb d_BR_binOf_33 (by decide) (by omega) (by omega) (fun c33 => ?_) (fun c33 => ?_)
    · skip
      refine lv_iconst (v := iI 0) hx hb d_BR_binOf_44 rfl ?_
      exact bk_reti (r := 0) hx hb hr rfl hlk hAe hQ hS () (by unfold binI; rw [if_neg (by omega), if_neg (by omega)]) hP hD d_BR_binOf_45
    · skip
      refine lv_iconst (v := iI 1) hx hb d_BR_binOf_36 rfl ?_
      refine lv_iload_n hx hb d_BR_binOf_37 rfl (lv_at hl 1 rfl) ?_
      refine lv_sipush (v := iI 512) hx hb d_BR_binOf_38 (by decide) ?_
      refine bk_div hx hb d_BR_binOf_41 (by omega) (by omega) ?_
      refine bk_add hx hb d_BR_binOf_42 ?_
      exact bk_reti (r := 1 + (a / 512)) hx hb hr rfl hlk hAe hQ hS () (by unfold binI; rw [if_neg (by omega), if_pos (by omega)]) hP hD d_BR_binOf_43
  · skip
    refine lv_bipush (v := iI 9) hx hb d_BR_binOf_15 (by decide) ?_
    refine lv_iload_n hx hb d_BR_binOf_17 rfl (lv_at hl 1 rfl) ?_
    refine lv_bipush (v := iI 64) hx hb d_BR_binOf_18 (by decide) ?_
    refine bk_div hx hb d_BR_binOf_20 (by omega) (by omega) ?_
    refine bk_add hx hb d_BR_binOf_21 ?_
    exact bk_reti (r := 9 + (a / 64)) hx hb hr rfl hlk hAe hQ hS () (by unfold binI; rw [if_pos (by omega)]) hP hD d_BR_binOf_22
abbrev rm_BR_binMeets : Room := { frames := 0, cells := 0, slots := 0, locals := 0 }
set_option maxRecDepth 100000 in
set_option maxHeartbeats 4000000 in
theorem c_BR_binMeets (l : Launch) (D : va_G) (cI cO : ClassId) (a b d : Int) (ha : 0 ≤ a ∧ a ≤ 72) (hb1 : 0 ≤ b ∧ b ≤ 4096) (hd1 : 0 ≤ d ∧ d ≤ 4096) : Mi l y_BR_binMeets b_BR_binMeets 5 .boolean rm_BR_binMeets D cI cO [.int (iI a), .int (iI b), .int (iI d)] ([]) (fun (r : Int) (_ : Unit) => ((binB a < d ∧ b < binE a) ∧ r = 1) ∨ (¬ (binB a < d ∧ b < binE a) ∧ r = 0)) (fun (_ : Unit) => []) 0 0 := by
  refine bk_start (by decide) (ble_le rfl) ?_
  intro p e s m args below meth c A ls Q hx hb hr hml hlk hown hnm hT hK hA hAe hQ hP hD hS hl
  have hown : s.vm.findClass "BinnedReads" = some m.cls := hown
  have hl : lv_has ls 5 [(0, .int (iI a)), (1, .int (iI b)), (2, .int (iI d))] := hl
  refine lv_iconst (v := iI 0) hx hb d_BR_binMeets_0 rfl ?_
  refine lv_istore_n hx hb d_BR_binMeets_1 rfl hl (by decide) rfl (fun ls hl => ?_)
  have hl : lv_has ls 5 [(3, .int (iI 0)), (0, .int (iI a)), (1, .int (iI b)), (2, .int (iI d))] := hl
  refine lv_sipush (v := iI 4096) hx hb d_BR_binMeets_2 (by decide) ?_
  refine lv_istore hx hb d_BR_binMeets_5 hl (by decide) rfl (fun ls hl => ?_)
  have hl : lv_has ls 5 [(4, .int (iI 4096)), (3, .int (iI 0)), (0, .int (iI a)), (1, .int (iI b)), (2, .int (iI d))] := hl
  refine lv_iload_n hx hb d_BR_binMeets_7 rfl (lv_at hl 2 rfl) ?_
  refine lv_bipush (v := iI 9) hx hb d_BR_binMeets_8 (by decide) ?_
  have cut50 : ∀ (x : Int) (y : Int) (H : Heap) (locs : List Loc) (ls : Array Slot), (x = binB a) → (y = binE a) → lv_has ls 5 [(0, .int (iI a)), (1, .int (iI b)), (2, .int (iI d)), (3, .int (iI x)), (4, .int (iI y))] → va_P D classes ([]) H → va_D A ([]) → va_S A s.heap H locs → W p l e rm_BR_binMeets s m args below meth c H locs 0 0 Q (F0 m 50 ls []) := by
    intro x y H locs ls hx1 hy1 hl hP hD hS
    have hbx := binB_rg ha
    have hby := binE_rg ha
    refine lv_iload_n hx hb d_BR_binMeets_50 rfl (lv_at hl 3 rfl) ?_
    refine lv_iload_n hx hb d_BR_binMeets_51 rfl (lv_at hl 2 rfl) ?_
    refine bk_icmp_ge (tgt := 65) hx hb d_BR_binMeets_52 (by decide) (by omega) (by omega) (fun c52 => ?_) (fun c52 => ?_)
    · skip
      refine lv_iconst (v := iI 0) hx hb d_BR_binMeets_65 rfl ?_
      exact bk_reti (r := 0) hx hb hr iI_nar0 hlk hAe hQ hS () (by omega) hP hD d_BR_binMeets_66
    · skip
      refine lv_iload_n hx hb d_BR_binMeets_55 rfl (lv_at hl 1 rfl) ?_
      refine lv_iload hx hb d_BR_binMeets_56 (lv_at hl 4 rfl) ?_
      refine bk_icmp_ge (tgt := 65) hx hb d_BR_binMeets_58 (by decide) (by omega) (by omega) (fun c58 => ?_) (fun c58 => ?_)
      · skip
        refine lv_iconst (v := iI 0) hx hb d_BR_binMeets_65 rfl ?_
        exact bk_reti (r := 0) hx hb hr iI_nar0 hlk hAe hQ hS () (by omega) hP hD d_BR_binMeets_66
      · skip
        refine lv_iconst (v := iI 1) hx hb d_BR_binMeets_61 rfl ?_
        refine lv_goto (tgt := 66) hx hb d_BR_binMeets_62 (by decide) ?_
        exact bk_reti (r := 1) hx hb hr iI_nar1 hlk hAe hQ hS () (by omega) hP hD d_BR_binMeets_66
  refine bk_icmp_lt (tgt := 30) hx hb d_BR_binMeets_10 (by decide) (by omega) (by omega) (fun c10 => ?_) (fun c10 => ?_)
  · skip
    refine lv_iload_n hx hb d_BR_binMeets_30 rfl (lv_at hl 2 rfl) ?_
    refine lv_iconst (v := iI 1) hx hb d_BR_binMeets_31 rfl ?_
    refine bk_icmp_lt (tgt := 50) hx hb d_BR_binMeets_32 (by decide) (by omega) (by omega) (fun c32 => ?_) (fun c32 => ?_)
    · skip
      exact cut50 0 4096 _ _ _ (by unfold binB; rw [if_neg (by omega), if_neg (by omega)]) (by unfold binE; rw [if_neg (by omega), if_neg (by omega)]) (lv_sub hl [2, 3, 4, 1, 0] rfl) hP hD hS
    · skip
      refine lv_sipush (v := iI 512) hx hb d_BR_binMeets_35 (by decide) ?_
      refine lv_iload_n hx hb d_BR_binMeets_38 rfl (lv_at hl 2 rfl) ?_
      refine lv_iconst (v := iI 1) hx hb d_BR_binMeets_39 rfl ?_
      refine bk_sub hx hb d_BR_binMeets_40 ?_
      refine bk_mul hx hb d_BR_binMeets_41 ?_
      refine lv_istore_n hx hb d_BR_binMeets_42 rfl hl (by decide) rfl (fun ls hl => ?_)
      have hl : lv_has ls 5 [(3, .int (iI (512 * (a - 1)))), (4, .int (iI 4096)), (0, .int (iI a)), (1, .int (iI b)), (2, .int (iI d))] := hl
      refine lv_iload_n hx hb d_BR_binMeets_43 rfl (lv_at hl 0 rfl) ?_
      refine lv_sipush (v := iI 512) hx hb d_BR_binMeets_44 (by decide) ?_
      refine bk_add hx hb d_BR_binMeets_47 ?_
      refine lv_istore hx hb d_BR_binMeets_48 hl (by decide) rfl (fun ls hl => ?_)
      have hl : lv_has ls 5 [(4, .int (iI (512 * (a - 1) + 512))), (3, .int (iI (512 * (a - 1)))), (0, .int (iI a)), (1, .int (iI b)), (2, .int (iI d))] := hl
      exact cut50 (512 * (a - 1)) (512 * (a - 1) + 512) _ _ _ (by unfold binB; rw [if_neg (by omega), if_pos (by omega)]) (by unfold binE; rw [if_neg (by omega), if_pos (by omega)]) (lv_sub hl [2, 3, 4, 1, 0] rfl) hP hD hS
  · skip
    refine lv_bipush (v := iI 64) hx hb d_BR_binMeets_13 (by decide) ?_
    refine lv_iload_n hx hb d_BR_binMeets_15 rfl (lv_at hl 2 rfl) ?_
    refine lv_bipush (v := iI 9) hx hb d_BR_binMeets_16 (by decide) ?_
    refine bk_sub hx hb d_BR_binMeets_18 ?_
    refine bk_mul hx hb d_BR_binMeets_19 ?_
    refine lv_istore_n hx hb d_BR_binMeets_20 rfl hl (by decide) rfl (fun ls hl => ?_)
    have hl : lv_has ls 5 [(3, .int (iI (64 * (a - 9)))), (4, .int (iI 4096)), (0, .int (iI a)), (1, .int (iI b)), (2, .int (iI d))] := hl
    refine lv_iload_n hx hb d_BR_binMeets_21 rfl (lv_at hl 0 rfl) ?_
    refine lv_bipush (v := iI 64) hx hb d_BR_binMeets_22 (by decide) ?_
    refine bk_add hx hb d_BR_binMeets_24 ?_
    refine lv_istore hx hb d_BR_binMeets_25 hl (by decide) rfl (fun ls hl => ?_)
    have hl : lv_has ls 5 [(4, .int (iI (64 * (a - 9) + 64))), (3, .int (iI (64 * (a - 9)))), (0, .int (iI a)), (1, .int (iI b)), (2, .int (iI d))] := hl
    refine lv_goto (tgt := 50) hx hb d_BR_binMeets_27 (by decide) ?_
    exact cut50 (64 * (a - 9)) (64 * (a - 9) + 64) _ _ _ (by unfold binB; rw [if_pos (by omega)]) (by unfold binE; rw [if_pos (by omega)]) (lv_sub hl [2, 3, 4, 1, 0] rfl) hP hD hS
abbrev rm_Draft_appendOp : Room := { frames := 0, cells := 0, slots := 0, locals := 0 }
set_option maxRecDepth 100000 in
set_option maxHeartbeats 4000000 in
theorem c_Draft_appendOp (l : Launch) (D : va_G) (cI cO : ClassId) (h qo qb : Nat) (O B : Nat → Int) (no nb : Nat) (k n : Int) (hno : no ≤ 3) (hnb : nb ≤ 24) (hk1 : -2147483648 ≤ k ∧ k < 2147483648) (hn1 : -2147483648 ≤ n ∧ n < 2147483648) : Mi l y_Draft_appendOp b_Draft_appendOp 3 .boolean rm_Draft_appendOp D cI cO [.ref h, .int (iI k), .int (iI n)] ([(h, .inr (1, [.ref qo, .ref qb, .int (iI (no : Int)), .int (iI (nb : Int))])), (qo, ar cI 3 O), (qb, ar cI 24 B)]) (fun (r : Int) (u : (Nat → Int) × Nat) => ((0 ≤ k ∧ k < 4 ∧ 1 ≤ n ∧ n ≤ 63 ∧ no < 3) ∧ r = 1 ∧ u.1 = bU O no (4 * n + k) ∧ u.2 = no + 1) ∨ (¬ (0 ≤ k ∧ k < 4 ∧ 1 ≤ n ∧ n ≤ 63 ∧ no < 3) ∧ r = 0 ∧ u.1 = O ∧ u.2 = no)) (fun (u : (Nat → Int) × Nat) => [(h, .inr (1, [.ref qo, .ref qb, .int (iI (u.2 : Int)), .int (iI (nb : Int))])), (qo, ar cI 3 u.1), (qb, ar cI 24 B)]) 0 0 := by
  refine bk_start (by decide) (ble_le rfl) ?_
  intro p e s m args below meth c A ls Q hx hb hr hml hlk hown hnm hT hK hA hAe hQ hP hD hS hl
  have hown : s.vm.findClass "BinnedReads$Draft" = some m.cls := hown
  have hl : lv_has ls 3 [(0, .ref h), (1, .int (iI k)), (2, .int (iI n))] := hl
  refine lv_iload_n hx hb d_Draft_appendOp_0 rfl (lv_at hl 1 rfl) ?_
  refine bk_if_lt (tgt := 28) hx hb d_Draft_appendOp_1 (by decide) (by omega) (fun c1 => ?_) (fun c1 => ?_)
  · skip
    refine lv_iconst (v := iI 0) hx hb d_Draft_appendOp_28 rfl ?_
    exact bk_reti (r := 0) hx hb hr iI_nar0 hlk hAe hQ hS (O, no) (Or.inr ⟨by omega, rfl, rfl, rfl⟩) hP hD d_Draft_appendOp_29
  · skip
    refine lv_iload_n hx hb d_Draft_appendOp_4 rfl (lv_at hl 1 rfl) ?_
    refine lv_iconst (v := iI 4) hx hb d_Draft_appendOp_5 rfl ?_
    refine bk_icmp_ge (tgt := 28) hx hb d_Draft_appendOp_6 (by decide) (by omega) (by omega) (fun c6 => ?_) (fun c6 => ?_)
    · skip
      refine lv_iconst (v := iI 0) hx hb d_Draft_appendOp_28 rfl ?_
      exact bk_reti (r := 0) hx hb hr iI_nar0 hlk hAe hQ hS (O, no) (Or.inr ⟨by omega, rfl, rfl, rfl⟩) hP hD d_Draft_appendOp_29
    · skip
      refine lv_iload_n hx hb d_Draft_appendOp_9 rfl (lv_at hl 2 rfl) ?_
      refine lv_iconst (v := iI 1) hx hb d_Draft_appendOp_10 rfl ?_
      refine bk_icmp_lt (tgt := 28) hx hb d_Draft_appendOp_11 (by decide) (by omega) (by omega) (fun c11 => ?_) (fun c11 => ?_)
      · skip
        refine lv_iconst (v := iI 0) hx hb d_Draft_appendOp_28 rfl ?_
        exact bk_reti (r := 0) hx hb hr iI_nar0 hlk hAe hQ hS (O, no) (Or.inr ⟨by omega, rfl, rfl, rfl⟩) hP hD d_Draft_appendOp_29
      · skip
        refine lv_iload_n hx hb d_Draft_appendOp_14 rfl (lv_at hl 2 rfl) ?_
        refine lv_bipush (v := iI 63) hx hb d_Draft_appendOp_15 (by decide) ?_
        refine bk_icmp_gt (tgt := 28) hx hb d_Draft_appendOp_17 (by decide) (by omega) (by omega) (fun c17 => ?_) (fun c17 => ?_)
        · skip
          refine lv_iconst (v := iI 0) hx hb d_Draft_appendOp_28 rfl ?_
          exact bk_reti (r := 0) hx hb hr iI_nar0 hlk hAe hQ hS (O, no) (Or.inr ⟨by omega, rfl, rfl, rfl⟩) hP hD d_Draft_appendOp_29
        · skip
          refine lv_aload_n hx hb d_Draft_appendOp_20 rfl (lv_at hl 0 rfl) ?_
          refine va_get (ci := 1) (C := R_Draft) (T := F_Draft) (N := 4) hx hb hT in_Draft hown hK.1 hP 0 rfl rfl 2 (by decide) (hT _ tw_26) (fun _ h => h) rfl d_Draft_appendOp_21 ?_
          refine lv_iconst (v := iI 3) hx hb d_Draft_appendOp_24 rfl ?_
          refine bk_icmp_lt (tgt := 30) hx hb d_Draft_appendOp_25 (by decide) (by omega) (by omega) (fun c25 => ?_) (fun c25 => ?_)
          · skip
            refine lv_aload_n hx hb d_Draft_appendOp_30 rfl (lv_at hl 0 rfl) ?_
            refine va_get (ci := 1) (C := R_Draft) (T := F_Draft) (N := 4) hx hb hT in_Draft hown hK.1 hP 0 rfl rfl 0 (by decide) (hT _ tw_23) (fun _ h => h) rfl d_Draft_appendOp_31 ?_
            refine lv_aload_n hx hb d_Draft_appendOp_34 rfl (lv_at hl 0 rfl) ?_
            refine lv_dup hx hb d_Draft_appendOp_35 rfl ?_
            refine va_get (ci := 1) (C := R_Draft) (T := F_Draft) (N := 4) hx hb hT in_Draft hown hK.1 hP 0 rfl rfl 2 (by decide) (hT _ tw_26) (fun _ h => h) rfl d_Draft_appendOp_36 ?_
            refine lv_dup_x1 hx hb d_Draft_appendOp_39 rfl rfl ?_
            refine lv_iconst (v := iI 1) hx hb d_Draft_appendOp_40 rfl ?_
            refine bk_add hx hb d_Draft_appendOp_41 ?_
            refine bk_top (y := iI ((no + 1 : Nat) : Int)) (congrArg iI (by omega)) ?_
            refine va_put (ci := 1) (v := .int (iI ((no + 1 : Nat) : Int))) (ty := .int) (C := R_Draft) (T := F_Draft) (N := 4) hx hb hT in_Draft t_Draft to_Draft n_Draft hown hK.1 hP hD hS 0 rfl rfl 2 (by decide) (hT _ tw_26) (fun _ h => h) rfl (by decide +kernel) rfl rfl (ble_lt rfl) d_Draft_appendOp_42 (fun H locs hP hD hS => ?_)
            have hP : va_P D classes ([(h, .inr (1, [.ref qo, .ref qb, .int (iI ((no + 1 : Nat) : Int)), .int (iI (nb : Int))])), (qo, ar cI 3 O), (qb, ar cI 24 B)]) H := hP
            have hD : va_D A ([(h, .inr (1, [.ref qo, .ref qb, .int (iI ((no + 1 : Nat) : Int)), .int (iI (nb : Int))])), (qo, ar cI 3 O), (qb, ar cI 24 B)]) := hD
            refine lv_iconst (v := iI 4) hx hb d_Draft_appendOp_45 rfl ?_
            refine lv_iload_n hx hb d_Draft_appendOp_46 rfl (lv_at hl 2 rfl) ?_
            refine bk_mul hx hb d_Draft_appendOp_47 ?_
            refine lv_iload_n hx hb d_Draft_appendOp_48 rfl (lv_at hl 1 rfl) ?_
            refine bk_add hx hb d_Draft_appendOp_49 ?_
            refine bk_iast hx hb hK.1 hP hD hS 1 0 rfl rfl no (by omega) (by decide) d_Draft_appendOp_50 (fun H locs hP hD hS => ?_)
            have hP : va_P D classes ([(h, .inr (1, [.ref qo, .ref qb, .int (iI ((no + 1 : Nat) : Int)), .int (iI (nb : Int))])), (qo, ar cI 3 (bU O no (4 * n + k))), (qb, ar cI 24 B)]) H := hP
            have hD : va_D A ([(h, .inr (1, [.ref qo, .ref qb, .int (iI ((no + 1 : Nat) : Int)), .int (iI (nb : Int))])), (qo, ar cI 3 (bU O no (4 * n + k))), (qb, ar cI 24 B)]) := hD
            refine lv_iconst (v := iI 1) hx hb d_Draft_appendOp_51 rfl ?_
            exact bk_reti (r := 1) hx hb hr iI_nar1 hlk hAe hQ hS (bU O no (4 * n + k), no + 1) (Or.inl ⟨by omega, rfl, rfl, rfl⟩) hP hD d_Draft_appendOp_52
          · skip
            refine lv_iconst (v := iI 0) hx hb d_Draft_appendOp_28 rfl ?_
            exact bk_reti (r := 0) hx hb hr iI_nar0 hlk hAe hQ hS (O, no) (Or.inr ⟨by omega, rfl, rfl, rfl⟩) hP hD d_Draft_appendOp_29
abbrev rm_Draft_appendBase : Room := { frames := 0, cells := 0, slots := 0, locals := 0 }
set_option maxRecDepth 100000 in
set_option maxHeartbeats 4000000 in
theorem c_Draft_appendBase (l : Launch) (D : va_G) (cI cO : ClassId) (h qo qb : Nat) (O B : Nat → Int) (no nb : Nat) (k : Int) (hno : no ≤ 3) (hnb : nb ≤ 24) (hk1 : -2147483648 ≤ k ∧ k < 2147483648) : Mi l y_Draft_appendBase b_Draft_appendBase 2 .boolean rm_Draft_appendBase D cI cO [.ref h, .int (iI k)] ([(h, .inr (1, [.ref qo, .ref qb, .int (iI (no : Int)), .int (iI (nb : Int))])), (qo, ar cI 3 O), (qb, ar cI 24 B)]) (fun (r : Int) (u : (Nat → Int) × Nat) => ((0 ≤ k ∧ k ≤ 15 ∧ nb < 24) ∧ r = 1 ∧ u.1 = bU B nb k ∧ u.2 = nb + 1) ∨ (¬ (0 ≤ k ∧ k ≤ 15 ∧ nb < 24) ∧ r = 0 ∧ u.1 = B ∧ u.2 = nb)) (fun (u : (Nat → Int) × Nat) => [(h, .inr (1, [.ref qo, .ref qb, .int (iI (no : Int)), .int (iI (u.2 : Int))])), (qo, ar cI 3 O), (qb, ar cI 24 u.1)]) 0 0 := by
  refine bk_start (by decide) (ble_le rfl) ?_
  intro p e s m args below meth c A ls Q hx hb hr hml hlk hown hnm hT hK hA hAe hQ hP hD hS hl
  have hown : s.vm.findClass "BinnedReads$Draft" = some m.cls := hown
  have hl : lv_has ls 2 [(0, .ref h), (1, .int (iI k))] := hl
  refine lv_iload_n hx hb d_Draft_appendBase_0 rfl (lv_at hl 1 rfl) ?_
  refine bk_if_lt (tgt := 19) hx hb d_Draft_appendBase_1 (by decide) (by omega) (fun c1 => ?_) (fun c1 => ?_)
  · skip
    refine lv_iconst (v := iI 0) hx hb d_Draft_appendBase_19 rfl ?_
    exact bk_reti (r := 0) hx hb hr iI_nar0 hlk hAe hQ hS (B, nb) (Or.inr ⟨by omega, rfl, rfl, rfl⟩) hP hD d_Draft_appendBase_20
  · skip
    refine lv_iload_n hx hb d_Draft_appendBase_4 rfl (lv_at hl 1 rfl) ?_
    refine lv_bipush (v := iI 15) hx hb d_Draft_appendBase_5 (by decide) ?_
    refine bk_icmp_gt (tgt := 19) hx hb d_Draft_appendBase_7 (by decide) (by omega) (by omega) (fun c7 => ?_) (fun c7 => ?_)
    · skip
      refine lv_iconst (v := iI 0) hx hb d_Draft_appendBase_19 rfl ?_
      exact bk_reti (r := 0) hx hb hr iI_nar0 hlk hAe hQ hS (B, nb) (Or.inr ⟨by omega, rfl, rfl, rfl⟩) hP hD d_Draft_appendBase_20
    · skip
      refine lv_aload_n hx hb d_Draft_appendBase_10 rfl (lv_at hl 0 rfl) ?_
      refine va_get (ci := 1) (C := R_Draft) (T := F_Draft) (N := 4) hx hb hT in_Draft hown hK.1 hP 0 rfl rfl 3 (by decide) (hT _ tw_28) (fun _ h => h) rfl d_Draft_appendBase_11 ?_
      refine lv_bipush (v := iI 24) hx hb d_Draft_appendBase_14 (by decide) ?_
      refine bk_icmp_lt (tgt := 21) hx hb d_Draft_appendBase_16 (by decide) (by omega) (by omega) (fun c16 => ?_) (fun c16 => ?_)
      · skip
        refine lv_aload_n hx hb d_Draft_appendBase_21 rfl (lv_at hl 0 rfl) ?_
        refine va_get (ci := 1) (C := R_Draft) (T := F_Draft) (N := 4) hx hb hT in_Draft hown hK.1 hP 0 rfl rfl 1 (by decide) (hT _ tw_25) (fun _ h => h) rfl d_Draft_appendBase_22 ?_
        refine lv_aload_n hx hb d_Draft_appendBase_25 rfl (lv_at hl 0 rfl) ?_
        refine lv_dup hx hb d_Draft_appendBase_26 rfl ?_
        refine va_get (ci := 1) (C := R_Draft) (T := F_Draft) (N := 4) hx hb hT in_Draft hown hK.1 hP 0 rfl rfl 3 (by decide) (hT _ tw_28) (fun _ h => h) rfl d_Draft_appendBase_27 ?_
        refine lv_dup_x1 hx hb d_Draft_appendBase_30 rfl rfl ?_
        refine lv_iconst (v := iI 1) hx hb d_Draft_appendBase_31 rfl ?_
        refine bk_add hx hb d_Draft_appendBase_32 ?_
        refine bk_top (y := iI ((nb + 1 : Nat) : Int)) (congrArg iI (by omega)) ?_
        refine va_put (ci := 1) (v := .int (iI ((nb + 1 : Nat) : Int))) (ty := .int) (C := R_Draft) (T := F_Draft) (N := 4) hx hb hT in_Draft t_Draft to_Draft n_Draft hown hK.1 hP hD hS 0 rfl rfl 3 (by decide) (hT _ tw_28) (fun _ h => h) rfl (by decide +kernel) rfl rfl (ble_lt rfl) d_Draft_appendBase_33 (fun H locs hP hD hS => ?_)
        have hP : va_P D classes ([(h, .inr (1, [.ref qo, .ref qb, .int (iI (no : Int)), .int (iI ((nb + 1 : Nat) : Int))])), (qo, ar cI 3 O), (qb, ar cI 24 B)]) H := hP
        have hD : va_D A ([(h, .inr (1, [.ref qo, .ref qb, .int (iI (no : Int)), .int (iI ((nb + 1 : Nat) : Int))])), (qo, ar cI 3 O), (qb, ar cI 24 B)]) := hD
        refine lv_iload_n hx hb d_Draft_appendBase_36 rfl (lv_at hl 1 rfl) ?_
        refine bk_iast hx hb hK.1 hP hD hS 2 0 rfl rfl nb (by omega) (by decide) d_Draft_appendBase_37 (fun H locs hP hD hS => ?_)
        have hP : va_P D classes ([(h, .inr (1, [.ref qo, .ref qb, .int (iI (no : Int)), .int (iI ((nb + 1 : Nat) : Int))])), (qo, ar cI 3 O), (qb, ar cI 24 (bU B nb k))]) H := hP
        have hD : va_D A ([(h, .inr (1, [.ref qo, .ref qb, .int (iI (no : Int)), .int (iI ((nb + 1 : Nat) : Int))])), (qo, ar cI 3 O), (qb, ar cI 24 (bU B nb k))]) := hD
        refine lv_iconst (v := iI 1) hx hb d_Draft_appendBase_38 rfl ?_
        exact bk_reti (r := 1) hx hb hr iI_nar1 hlk hAe hQ hS (bU B nb k, nb + 1) (Or.inl ⟨by omega, rfl, rfl, rfl⟩) hP hD d_Draft_appendBase_39
      · skip
        refine lv_iconst (v := iI 0) hx hb d_Draft_appendBase_19 rfl ?_
        exact bk_reti (r := 0) hx hb hr iI_nar0 hlk hAe hQ hS (B, nb) (Or.inr ⟨by omega, rfl, rfl, rfl⟩) hP hD d_Draft_appendBase_20
abbrev rm_Draft_empty : Room := { frames := 0, cells := 0, slots := 0, locals := 0 }
set_option maxRecDepth 100000 in
set_option maxHeartbeats 4000000 in
theorem c_Draft_empty (l : Launch) (D : va_G) (cI cO : ClassId) (h qo qb : Nat) (O B : Nat → Int) (no nb : Nat) : Mv l y_Draft_empty b_Draft_empty 1 rm_Draft_empty D cI cO [.ref h] ([(h, .inr (1, [.ref qo, .ref qb, .int (iI (no : Int)), .int (iI (nb : Int))])), (qo, ar cI 3 O), (qb, ar cI 24 B)]) (fun (_ : Unit) => True) (fun (_ : Unit) => [(h, .inr (1, [.ref qo, .ref qb, .int (iI 0), .int (iI 0)])), (qo, ar cI 3 O), (qb, ar cI 24 B)]) 0 0 := by
  refine bk_start (by decide) (ble_le rfl) ?_
  intro p e s m args below meth c A ls Q hx hb hr hml hlk hown hnm hT hK hA hAe hQ hP hD hS hl
  have hown : s.vm.findClass "BinnedReads$Draft" = some m.cls := hown
  have hl : lv_has ls 1 [(0, .ref h)] := hl
  refine lv_aload_n hx hb d_Draft_empty_0 rfl (lv_at hl 0 rfl) ?_
  refine lv_iconst (v := iI 0) hx hb d_Draft_empty_1 rfl ?_
  refine va_put (ci := 1) (v := .int (iI 0)) (ty := .int) (C := R_Draft) (T := F_Draft) (N := 4) hx hb hT in_Draft t_Draft to_Draft n_Draft hown hK.1 hP hD hS 0 rfl rfl 2 (by decide) (hT _ tw_26) (fun _ h => h) rfl (by decide +kernel) rfl rfl (ble_lt rfl) d_Draft_empty_2 (fun H locs hP hD hS => ?_)
  have hP : va_P D classes ([(h, .inr (1, [.ref qo, .ref qb, .int (iI 0), .int (iI (nb : Int))])), (qo, ar cI 3 O), (qb, ar cI 24 B)]) H := hP
  have hD : va_D A ([(h, .inr (1, [.ref qo, .ref qb, .int (iI 0), .int (iI (nb : Int))])), (qo, ar cI 3 O), (qb, ar cI 24 B)]) := hD
  refine lv_aload_n hx hb d_Draft_empty_5 rfl (lv_at hl 0 rfl) ?_
  refine lv_iconst (v := iI 0) hx hb d_Draft_empty_6 rfl ?_
  refine va_put (ci := 1) (v := .int (iI 0)) (ty := .int) (C := R_Draft) (T := F_Draft) (N := 4) hx hb hT in_Draft t_Draft to_Draft n_Draft hown hK.1 hP hD hS 0 rfl rfl 3 (by decide) (hT _ tw_28) (fun _ h => h) rfl (by decide +kernel) rfl rfl (ble_lt rfl) d_Draft_empty_7 (fun H locs hP hD hS => ?_)
  have hP : va_P D classes ([(h, .inr (1, [.ref qo, .ref qb, .int (iI 0), .int (iI 0)])), (qo, ar cI 3 O), (qb, ar cI 24 B)]) H := hP
  have hD : va_D A ([(h, .inr (1, [.ref qo, .ref qb, .int (iI 0), .int (iI 0)])), (qo, ar cI 3 O), (qb, ar cI 24 B)]) := hD
  exact bk_retv hx hb hr hlk hAe hQ hS () trivial hP hD d_Draft_empty_10
abbrev rm_Draft_span : Room := { frames := 2, cells := 0, slots := 0, locals := 45 }
set_option maxRecDepth 100000 in
set_option maxHeartbeats 4000000 in
theorem c_Draft_span (l : Launch) (D : va_G) (cI cO : ClassId) (h qo qb : Nat) (O B : Nat → Int) (no nb : Nat) (hno : no ≤ 3) (hnb : nb ≤ 24) (hO : ∀ i, i < no → 0 ≤ O i ∧ O i ≤ 255) : Mi l y_Draft_span b_Draft_span 1 .int rm_Draft_span D cI cO [.ref h] ([(h, .inr (1, [.ref qo, .ref qb, .int (iI (no : Int)), .int (iI (nb : Int))])), (qo, ar cI 3 O), (qb, ar cI 24 B)]) (fun (r : Int) (_ : Unit) => r = spanN (fun z => O (0 + z)) no) (fun (_ : Unit) => [(h, .inr (1, [.ref qo, .ref qb, .int (iI (no : Int)), .int (iI (nb : Int))])), (qo, ar cI 3 O), (qb, ar cI 24 B)]) 0 0 := by
  refine bk_start (by decide) (ble_le rfl) ?_
  intro p e s m args below meth c A ls Q hx hb hr hml hlk hown hnm hT hK hA hAe hQ hP hD hS hl
  have hown : s.vm.findClass "BinnedReads$Draft" = some m.cls := hown
  have hl : lv_has ls 1 [(0, .ref h)] := hl
  refine lv_aload_n hx hb d_Draft_span_0 rfl (lv_at hl 0 rfl) ?_
  refine va_get (ci := 1) (C := R_Draft) (T := F_Draft) (N := 4) hx hb hT in_Draft hown hK.1 hP 0 rfl rfl 0 (by decide) (hT _ tw_23) (fun _ h => h) rfl d_Draft_span_1 ?_
  refine lv_iconst (v := iI 0) hx hb d_Draft_span_4 rfl ?_
  refine lv_aload_n hx hb d_Draft_span_5 rfl (lv_at hl 0 rfl) ?_
  refine va_get (ci := 1) (C := R_Draft) (T := F_Draft) (N := 4) hx hb hT in_Draft hown hK.1 hP 0 rfl rfl 2 (by decide) (hT _ tw_26) (fun _ h => h) rfl d_Draft_span_6 ?_
  refine bk_fR (ws := [(h, .inr (1, [.ref qo, .ref qb, .int (iI (no : Int)), .int (iI (nb : Int))])), (qo, ar cI 3 O), (qb, ar cI 24 B)]) (Wc := [(qo, ar cI 3 O)]) (fun _ => rfl) (bk_hs (X := [(h, .inr (1, [.ref qo, .ref qb, .int (iI (no : Int)), .int (iI (nb : Int))])), (qo, ar cI 3 O), (qb, ar cI 24 B)]) (pl := []) (Wc := [(qo, ar cI 3 O)]) [1] rfl) hP hD hS hA (bk_rSN (rest := []) (host := "BinnedReads") hx hb hml hown hT hK (c_BR_spanOf l D cI cO qo 3 O 0 no (by omega) (fun i hi => by rw [Nat.zero_add]; exact hO i hi)) (bk_subP (X := [(h, .inr (1, [.ref qo, .ref qb, .int (iI (no : Int)), .int (iI (nb : Int))])), (qo, ar cI 3 O), (qb, ar cI 24 B)]) (pl := []) (Wc := [(qo, ar cI 3 O)]) hP [1] rfl) (bk_subD (X := [(h, .inr (1, [.ref qo, .ref qb, .int (iI (no : Int)), .int (iI (nb : Int))])), (qo, ar cI 3 O), (qb, ar cI 24 B)]) (pl := []) (Wc := [(qo, ar cI 3 O)]) hD [1] (by decide) rfl) (by decide) tw_201 tw_1 tw_202 hd_BR_spanOf.2 ⟨rfl, rfl⟩ (by decide) hl.1 rfl (ble_le rfl) d_Draft_span_9 (by decide)) (fun r9 u H locs hq hP hS => ?_)
  have hq : r9 = spanN (fun z => O (0 + z)) no := hq
  obtain rfl := hq
  exact bk_reti (r := spanN (fun z => O (0 + z)) no) hx hb hr rfl hlk hAe hQ hS () rfl hP hD d_Draft_span_12
abbrev rm_Draft_width : Room := { frames := 1, cells := 0, slots := 0, locals := 20 }
set_option maxRecDepth 100000 in
set_option maxHeartbeats 4000000 in
theorem c_Draft_width (l : Launch) (D : va_G) (cI cO : ClassId) (h qo qb : Nat) (O B : Nat → Int) (no nb : Nat) (hno : no ≤ 3) (hnb : nb ≤ 24) (hO : ∀ i, i < no → 0 ≤ O i ∧ O i ≤ 255) : Mi l y_Draft_width b_Draft_width 3 .int rm_Draft_width D cI cO [.ref h] ([(h, .inr (1, [.ref qo, .ref qb, .int (iI (no : Int)), .int (iI (nb : Int))])), (qo, ar cI 3 O), (qb, ar cI 24 B)]) (fun (r : Int) (_ : Unit) => r = widthN O no) (fun (_ : Unit) => [(h, .inr (1, [.ref qo, .ref qb, .int (iI (no : Int)), .int (iI (nb : Int))])), (qo, ar cI 3 O), (qb, ar cI 24 B)]) 0 0 := by
  refine bk_start (by decide) (ble_le rfl) ?_
  intro p e s m args below meth c A ls Q hx hb hr hml hlk hown hnm hT hK hA hAe hQ hP hD hS hl
  have hown : s.vm.findClass "BinnedReads$Draft" = some m.cls := hown
  have hl : lv_has ls 3 [(0, .ref h)] := hl
  refine lv_iconst (v := iI 0) hx hb d_Draft_width_0 rfl ?_
  refine lv_istore_n hx hb d_Draft_width_1 rfl hl (by decide) rfl (fun ls hl => ?_)
  have hl : lv_has ls 3 [(1, .int (iI 0)), (0, .ref h)] := hl
  refine lv_iconst (v := iI 0) hx hb d_Draft_width_2 rfl ?_
  refine lv_istore_n hx hb d_Draft_width_3 rfl hl (by decide) rfl (fun ls hl => ?_)
  have hl : lv_has ls 3 [(2, .int (iI 0)), (1, .int (iI 0)), (0, .ref h)] := hl
  have cut4 : ∀ (N0 : Nat) (i : Nat) (H : Heap) (locs : List Loc) (ls : Array Slot), no - i = N0 → (i ≤ no) → lv_has ls 3 [(0, .ref h), (1, .int (iI (widthN O i))), (2, .int (iI (i : Int)))] → va_P D classes ([(h, .inr (1, [.ref qo, .ref qb, .int (iI (no : Int)), .int (iI (nb : Int))])), (qo, ar cI 3 O), (qb, ar cI 24 B)]) H → va_D A ([(h, .inr (1, [.ref qo, .ref qb, .int (iI (no : Int)), .int (iI (nb : Int))])), (qo, ar cI 3 O), (qb, ar cI 24 B)]) → va_S A s.heap H locs → W p l e rm_Draft_width s m args below meth c H locs 0 0 Q (F0 m 4 ls []) := by
    intro N0
    induction N0 using Nat.strongRecOn with
    | _ N0 ih4 =>
      intro i H locs ls hN4 hi hl hP hD hS
      have hwd := widthN_rg (G := O) (k := i) (fun z hz => hO z (by omega))
      refine lv_iload_n hx hb d_Draft_width_4 rfl (lv_at hl 2 rfl) ?_
      refine lv_aload_n hx hb d_Draft_width_5 rfl (lv_at hl 0 rfl) ?_
      refine va_get (ci := 1) (C := R_Draft) (T := F_Draft) (N := 4) hx hb hT in_Draft hown hK.1 hP 0 rfl rfl 2 (by decide) (hT _ tw_26) (fun _ h => h) rfl d_Draft_width_6 ?_
      refine bk_icmp_ge (tgt := 55) hx hb d_Draft_width_9 (by decide) (by omega) (by omega) (fun c9 => ?_) (fun c9 => ?_)
      · skip
        refine lv_iload_n hx hb d_Draft_width_55 rfl (lv_at hl 1 rfl) ?_
        exact bk_reti (r := widthN O i) hx hb hr rfl hlk hAe hQ hS () (by rw [show no = i by omega]) hP hD d_Draft_width_56
      · skip
        have hOi := hO i (by omega)
        refine lv_aload_n hx hb d_Draft_width_12 rfl (lv_at hl 0 rfl) ?_
        refine va_get (ci := 1) (C := R_Draft) (T := F_Draft) (N := 4) hx hb hT in_Draft hown hK.1 hP 0 rfl rfl 0 (by decide) (hT _ tw_23) (fun _ h => h) rfl d_Draft_width_13 ?_
        refine lv_iload_n hx hb d_Draft_width_16 rfl (lv_at hl 2 rfl) ?_
        refine bk_iald hx hb hK.1 hP 1 0 rfl rfl i (by omega) (by decide) d_Draft_width_17 ?_
        refine bk_fR (ws := [(h, .inr (1, [.ref qo, .ref qb, .int (iI (no : Int)), .int (iI (nb : Int))])), (qo, ar cI 3 O), (qb, ar cI 24 B)]) (Wc := []) (fun _ => rfl) (bk_hs (X := [(h, .inr (1, [.ref qo, .ref qb, .int (iI (no : Int)), .int (iI (nb : Int))])), (qo, ar cI 3 O), (qb, ar cI 24 B)]) (pl := []) (Wc := []) [] rfl) hP hD hS hA (bk_rSN (rest := []) (host := "BinnedReads") hx hb hml hown hT hK (c_BR_kindOf l D cI cO (O i) (by omega)) (bk_subP (X := [(h, .inr (1, [.ref qo, .ref qb, .int (iI (no : Int)), .int (iI (nb : Int))])), (qo, ar cI 3 O), (qb, ar cI 24 B)]) (pl := []) (Wc := []) hP [] rfl) (bk_subD (X := [(h, .inr (1, [.ref qo, .ref qb, .int (iI (no : Int)), .int (iI (nb : Int))])), (qo, ar cI 3 O), (qb, ar cI 24 B)]) (pl := []) (Wc := []) hD [] (by decide) rfl) (by decide) tw_204 tw_1 tw_205 hd_BR_kindOf.2 ⟨rfl, rfl⟩ (by decide) hl.1 rfl (ble_le rfl) d_Draft_width_18 (by decide)) (fun r18 u H locs hq hP hS => ?_)
        have hq : r18 = (O i) % 4 := hq
        obtain rfl := hq
        refine bk_if_eq (tgt := 37) hx hb d_Draft_width_21 (by decide) (by omega) (fun c21 => ?_) (fun c21 => ?_)
        · skip
          refine lv_iload_n hx hb d_Draft_width_37 rfl (lv_at hl 1 rfl) ?_
          refine lv_aload_n hx hb d_Draft_width_38 rfl (lv_at hl 0 rfl) ?_
          refine va_get (ci := 1) (C := R_Draft) (T := F_Draft) (N := 4) hx hb hT in_Draft hown hK.1 hP 0 rfl rfl 0 (by decide) (hT _ tw_23) (fun _ h => h) rfl d_Draft_width_39 ?_
          refine lv_iload_n hx hb d_Draft_width_42 rfl (lv_at hl 2 rfl) ?_
          refine bk_iald hx hb hK.1 hP 1 0 rfl rfl i (by omega) (by decide) d_Draft_width_43 ?_
          refine bk_fR (ws := [(h, .inr (1, [.ref qo, .ref qb, .int (iI (no : Int)), .int (iI (nb : Int))])), (qo, ar cI 3 O), (qb, ar cI 24 B)]) (Wc := []) (fun _ => rfl) (bk_hs (X := [(h, .inr (1, [.ref qo, .ref qb, .int (iI (no : Int)), .int (iI (nb : Int))])), (qo, ar cI 3 O), (qb, ar cI 24 B)]) (pl := []) (Wc := []) [] rfl) hP hD hS hA (bk_rSN (rest := [.int (iI (widthN O i))]) (host := "BinnedReads") hx hb hml hown hT hK (c_BR_lengthOf l D cI cO (O i) (by omega)) (bk_subP (X := [(h, .inr (1, [.ref qo, .ref qb, .int (iI (no : Int)), .int (iI (nb : Int))])), (qo, ar cI 3 O), (qb, ar cI 24 B)]) (pl := []) (Wc := []) hP [] rfl) (bk_subD (X := [(h, .inr (1, [.ref qo, .ref qb, .int (iI (no : Int)), .int (iI (nb : Int))])), (qo, ar cI 3 O), (qb, ar cI 24 B)]) (pl := []) (Wc := []) hD [] (by decide) rfl) (by decide) tw_207 tw_1 tw_208 hd_BR_lengthOf.2 ⟨rfl, rfl⟩ (by decide) hl.1 rfl (ble_le rfl) d_Draft_width_44 (by decide)) (fun r44 u H locs hq hP hS => ?_)
          have hq : r44 = (O i) / 4 := hq
          obtain rfl := hq
          refine bk_add hx hb d_Draft_width_47 ?_
          refine bk_top (y := iI (widthN O (i + 1))) (congrArg iI (widthN_step (by omega)).symm) ?_
          refine lv_istore_n hx hb d_Draft_width_48 rfl hl (by decide) rfl (fun ls hl => ?_)
          have hl : lv_has ls 3 [(1, .int (iI (widthN O (i + 1)))), (0, .ref h), (2, .int (iI (i : Int)))] := hl
          refine lv_iinc (k := 2) (v := iI ((i + 1 : Nat) : Int)) hx hb d_Draft_width_49 hl rfl ((iI_add _ _).trans (congrArg iI (by omega))) (by decide) rfl (fun ls hl => ?_)
          have hl : lv_has ls 3 [(2, .int (iI ((i + 1 : Nat) : Int))), (1, .int (iI (widthN O (i + 1)))), (0, .ref h)] := hl
          refine lv_goto (tgt := 4) hx hb d_Draft_width_52 (by decide) ?_
          exact ih4 (no - (i + 1)) (by omega) (i + 1) _ _ _ rfl (by omega) (lv_sub hl [2, 1, 0] rfl) hP hD hS
        · skip
          refine lv_aload_n hx hb d_Draft_width_24 rfl (lv_at hl 0 rfl) ?_
          refine va_get (ci := 1) (C := R_Draft) (T := F_Draft) (N := 4) hx hb hT in_Draft hown hK.1 hP 0 rfl rfl 0 (by decide) (hT _ tw_23) (fun _ h => h) rfl d_Draft_width_25 ?_
          refine lv_iload_n hx hb d_Draft_width_28 rfl (lv_at hl 2 rfl) ?_
          refine bk_iald hx hb hK.1 hP 1 0 rfl rfl i (by omega) (by decide) d_Draft_width_29 ?_
          refine bk_fR (ws := [(h, .inr (1, [.ref qo, .ref qb, .int (iI (no : Int)), .int (iI (nb : Int))])), (qo, ar cI 3 O), (qb, ar cI 24 B)]) (Wc := []) (fun _ => rfl) (bk_hs (X := [(h, .inr (1, [.ref qo, .ref qb, .int (iI (no : Int)), .int (iI (nb : Int))])), (qo, ar cI 3 O), (qb, ar cI 24 B)]) (pl := []) (Wc := []) [] rfl) hP hD hS hA (bk_rSN (rest := []) (host := "BinnedReads") hx hb hml hown hT hK (c_BR_kindOf l D cI cO (O i) (by omega)) (bk_subP (X := [(h, .inr (1, [.ref qo, .ref qb, .int (iI (no : Int)), .int (iI (nb : Int))])), (qo, ar cI 3 O), (qb, ar cI 24 B)]) (pl := []) (Wc := []) hP [] rfl) (bk_subD (X := [(h, .inr (1, [.ref qo, .ref qb, .int (iI (no : Int)), .int (iI (nb : Int))])), (qo, ar cI 3 O), (qb, ar cI 24 B)]) (pl := []) (Wc := []) hD [] (by decide) rfl) (by decide) tw_204 tw_1 tw_205 hd_BR_kindOf.2 ⟨rfl, rfl⟩ (by decide) hl.1 rfl (ble_le rfl) d_Draft_width_30 (by decide)) (fun r30 u H locs hq hP hS => ?_)
          have hq : r30 = (O i) % 4 := hq
          obtain rfl := hq
          refine lv_iconst (v := iI 1) hx hb d_Draft_width_33 rfl ?_
          refine bk_icmp_ne (tgt := 49) hx hb d_Draft_width_34 (by decide) (by omega) (by omega) (fun c34 => ?_) (fun c34 => ?_)
          · skip
            have hl : lv_has ls 3 [(0, .ref h), (1, .int (iI (widthN O (i + 1)))), (2, .int (iI (i : Int)))] := by
              rw [show widthN O (i + 1) = widthN O i from widthN_skip (by omega) (by omega)]
              exact hl
            refine lv_iinc (k := 2) (v := iI ((i + 1 : Nat) : Int)) hx hb d_Draft_width_49 hl rfl ((iI_add _ _).trans (congrArg iI (by omega))) (by decide) rfl (fun ls hl => ?_)
            have hl : lv_has ls 3 [(2, .int (iI ((i + 1 : Nat) : Int))), (0, .ref h), (1, .int (iI (widthN O (i + 1))))] := hl
            refine lv_goto (tgt := 4) hx hb d_Draft_width_52 (by decide) ?_
            exact ih4 (no - (i + 1)) (by omega) (i + 1) _ _ _ rfl (by omega) (lv_sub hl [1, 2, 0] rfl) hP hD hS
          · skip
            refine lv_iload_n hx hb d_Draft_width_37 rfl (lv_at hl 1 rfl) ?_
            refine lv_aload_n hx hb d_Draft_width_38 rfl (lv_at hl 0 rfl) ?_
            refine va_get (ci := 1) (C := R_Draft) (T := F_Draft) (N := 4) hx hb hT in_Draft hown hK.1 hP 0 rfl rfl 0 (by decide) (hT _ tw_23) (fun _ h => h) rfl d_Draft_width_39 ?_
            refine lv_iload_n hx hb d_Draft_width_42 rfl (lv_at hl 2 rfl) ?_
            refine bk_iald hx hb hK.1 hP 1 0 rfl rfl i (by omega) (by decide) d_Draft_width_43 ?_
            refine bk_fR (ws := [(h, .inr (1, [.ref qo, .ref qb, .int (iI (no : Int)), .int (iI (nb : Int))])), (qo, ar cI 3 O), (qb, ar cI 24 B)]) (Wc := []) (fun _ => rfl) (bk_hs (X := [(h, .inr (1, [.ref qo, .ref qb, .int (iI (no : Int)), .int (iI (nb : Int))])), (qo, ar cI 3 O), (qb, ar cI 24 B)]) (pl := []) (Wc := []) [] rfl) hP hD hS hA (bk_rSN (rest := [.int (iI (widthN O i))]) (host := "BinnedReads") hx hb hml hown hT hK (c_BR_lengthOf l D cI cO (O i) (by omega)) (bk_subP (X := [(h, .inr (1, [.ref qo, .ref qb, .int (iI (no : Int)), .int (iI (nb : Int))])), (qo, ar cI 3 O), (qb, ar cI 24 B)]) (pl := []) (Wc := []) hP [] rfl) (bk_subD (X := [(h, .inr (1, [.ref qo, .ref qb, .int (iI (no : Int)), .int (iI (nb : Int))])), (qo, ar cI 3 O), (qb, ar cI 24 B)]) (pl := []) (Wc := []) hD [] (by decide) rfl) (by decide) tw_207 tw_1 tw_208 hd_BR_lengthOf.2 ⟨rfl, rfl⟩ (by decide) hl.1 rfl (ble_le rfl) d_Draft_width_44 (by decide)) (fun r44 u H locs hq hP hS => ?_)
            have hq : r44 = (O i) / 4 := hq
            obtain rfl := hq
            refine bk_add hx hb d_Draft_width_47 ?_
            refine bk_top (y := iI (widthN O (i + 1))) (congrArg iI (widthN_step (by omega)).symm) ?_
            refine lv_istore_n hx hb d_Draft_width_48 rfl hl (by decide) rfl (fun ls hl => ?_)
            have hl : lv_has ls 3 [(1, .int (iI (widthN O (i + 1)))), (0, .ref h), (2, .int (iI (i : Int)))] := hl
            refine lv_iinc (k := 2) (v := iI ((i + 1 : Nat) : Int)) hx hb d_Draft_width_49 hl rfl ((iI_add _ _).trans (congrArg iI (by omega))) (by decide) rfl (fun ls hl => ?_)
            have hl : lv_has ls 3 [(2, .int (iI ((i + 1 : Nat) : Int))), (1, .int (iI (widthN O (i + 1)))), (0, .ref h)] := hl
            refine lv_goto (tgt := 4) hx hb d_Draft_width_52 (by decide) ?_
            exact ih4 (no - (i + 1)) (by omega) (i + 1) _ _ _ rfl (by omega) (lv_sub hl [2, 1, 0] rfl) hP hD hS
  exact cut4 _ 0 _ _ _ rfl (by omega) (lv_sub hl [2, 1, 0] rfl) hP hD hS
abbrev rm_Draft_isRead : Room := { frames := 3, cells := 0, slots := 0, locals := 65 }
set_option maxRecDepth 100000 in
set_option maxHeartbeats 4000000 in
theorem c_Draft_isRead (l : Launch) (D : va_G) (cI cO : ClassId) (h qo qb : Nat) (O B : Nat → Int) (no nb : Nat) (hno : no ≤ 3) (hnb : nb ≤ 24) (hO : ∀ i, i < no → 0 ≤ O i ∧ O i ≤ 255) : Mi l y_Draft_isRead b_Draft_isRead 1 .boolean rm_Draft_isRead D cI cO [.ref h] ([(h, .inr (1, [.ref qo, .ref qb, .int (iI (no : Int)), .int (iI (nb : Int))])), (qo, ar cI 3 O), (qb, ar cI 24 B)]) (fun (r : Int) (_ : Unit) => ((0 < no ∧ 0 < spanN (fun z => O (0 + z)) no ∧ widthN O no = (nb : Int)) ∧ r = 1) ∨ (¬ (0 < no ∧ 0 < spanN (fun z => O (0 + z)) no ∧ widthN O no = (nb : Int)) ∧ r = 0)) (fun (_ : Unit) => [(h, .inr (1, [.ref qo, .ref qb, .int (iI (no : Int)), .int (iI (nb : Int))])), (qo, ar cI 3 O), (qb, ar cI 24 B)]) 0 0 := by
  refine bk_start (by decide) (ble_le rfl) ?_
  intro p e s m args below meth c A ls Q hx hb hr hml hlk hown hnm hT hK hA hAe hQ hP hD hS hl
  have hown : s.vm.findClass "BinnedReads$Draft" = some m.cls := hown
  have hl : lv_has ls 1 [(0, .ref h)] := hl
  have hsp := spanN_rg (G := fun z => O (0 + z)) (k := no) (fun z hz => by simpa using hO z hz)
  have hwd := widthN_rg (G := O) (k := no) hO
  refine lv_aload_n hx hb d_Draft_isRead_0 rfl (lv_at hl 0 rfl) ?_
  refine va_get (ci := 1) (C := R_Draft) (T := F_Draft) (N := 4) hx hb hT in_Draft hown hK.1 hP 0 rfl rfl 2 (by decide) (hT _ tw_26) (fun _ h => h) rfl d_Draft_isRead_1 ?_
  refine bk_if_le (tgt := 29) hx hb d_Draft_isRead_4 (by decide) (by omega) (fun c4 => ?_) (fun c4 => ?_)
  · skip
    refine lv_iconst (v := iI 0) hx hb d_Draft_isRead_29 rfl ?_
    exact bk_reti (r := 0) hx hb hr iI_nar0 hlk hAe hQ hS () (by omega) hP hD d_Draft_isRead_30
  · skip
    refine lv_aload_n hx hb d_Draft_isRead_7 rfl (lv_at hl 0 rfl) ?_
    refine bk_fR (ws := [(h, .inr (1, [.ref qo, .ref qb, .int (iI (no : Int)), .int (iI (nb : Int))])), (qo, ar cI 3 O), (qb, ar cI 24 B)]) (Wc := [(h, .inr (1, [.ref qo, .ref qb, .int (iI (no : Int)), .int (iI (nb : Int))])), (qo, ar cI 3 O), (qb, ar cI 24 B)]) (fun _ => rfl) (bk_hs (X := [(h, .inr (1, [.ref qo, .ref qb, .int (iI (no : Int)), .int (iI (nb : Int))])), (qo, ar cI 3 O), (qb, ar cI 24 B)]) (pl := []) (Wc := [(h, .inr (1, [.ref qo, .ref qb, .int (iI (no : Int)), .int (iI (nb : Int))])), (qo, ar cI 3 O), (qb, ar cI 24 B)]) [0, 1, 2] rfl) hP hD hS hA (bk_rV (rest := []) hx hb hml hown hT hK (c_Draft_span l D cI cO h qo qb O B no nb hno hnb hO) (bk_subP (X := [(h, .inr (1, [.ref qo, .ref qb, .int (iI (no : Int)), .int (iI (nb : Int))])), (qo, ar cI 3 O), (qb, ar cI 24 B)]) (pl := []) (Wc := [(h, .inr (1, [.ref qo, .ref qb, .int (iI (no : Int)), .int (iI (nb : Int))])), (qo, ar cI 3 O), (qb, ar cI 24 B)]) hP [0, 1, 2] rfl) (bk_subD (X := [(h, .inr (1, [.ref qo, .ref qb, .int (iI (no : Int)), .int (iI (nb : Int))])), (qo, ar cI 3 O), (qb, ar cI 24 B)]) (pl := []) (Wc := [(h, .inr (1, [.ref qo, .ref qb, .int (iI (no : Int)), .int (iI (nb : Int))])), (qo, ar cI 3 O), (qb, ar cI 24 B)]) hD [0, 1, 2] (by decide) rfl) 0 1 rfl rfl rfl tw_196 tw_197 tw_198 tw_2 tw_199 hd_Draft_span ⟨rfl, rfl⟩ (by decide) hl.1 rfl (ble_le rfl) d_Draft_isRead_8 (by decide)) (fun r8 u H locs hq hP hS => ?_)
    have hq : r8 = spanN (fun z => O (0 + z)) no := hq
    obtain rfl := hq
    refine bk_if_le (tgt := 29) hx hb d_Draft_isRead_11 (by decide) (by omega) (fun c11 => ?_) (fun c11 => ?_)
    · skip
      refine lv_iconst (v := iI 0) hx hb d_Draft_isRead_29 rfl ?_
      exact bk_reti (r := 0) hx hb hr iI_nar0 hlk hAe hQ hS () (by omega) hP hD d_Draft_isRead_30
    · skip
      refine lv_aload_n hx hb d_Draft_isRead_14 rfl (lv_at hl 0 rfl) ?_
      refine bk_fR (ws := [(h, .inr (1, [.ref qo, .ref qb, .int (iI (no : Int)), .int (iI (nb : Int))])), (qo, ar cI 3 O), (qb, ar cI 24 B)]) (Wc := [(h, .inr (1, [.ref qo, .ref qb, .int (iI (no : Int)), .int (iI (nb : Int))])), (qo, ar cI 3 O), (qb, ar cI 24 B)]) (fun _ => rfl) (bk_hs (X := [(h, .inr (1, [.ref qo, .ref qb, .int (iI (no : Int)), .int (iI (nb : Int))])), (qo, ar cI 3 O), (qb, ar cI 24 B)]) (pl := []) (Wc := [(h, .inr (1, [.ref qo, .ref qb, .int (iI (no : Int)), .int (iI (nb : Int))])), (qo, ar cI 3 O), (qb, ar cI 24 B)]) [0, 1, 2] rfl) hP hD hS hA (bk_rV (rest := []) hx hb hml hown hT hK (c_Draft_width l D cI cO h qo qb O B no nb hno hnb hO) (bk_subP (X := [(h, .inr (1, [.ref qo, .ref qb, .int (iI (no : Int)), .int (iI (nb : Int))])), (qo, ar cI 3 O), (qb, ar cI 24 B)]) (pl := []) (Wc := [(h, .inr (1, [.ref qo, .ref qb, .int (iI (no : Int)), .int (iI (nb : Int))])), (qo, ar cI 3 O), (qb, ar cI 24 B)]) hP [0, 1, 2] rfl) (bk_subD (X := [(h, .inr (1, [.ref qo, .ref qb, .int (iI (no : Int)), .int (iI (nb : Int))])), (qo, ar cI 3 O), (qb, ar cI 24 B)]) (pl := []) (Wc := [(h, .inr (1, [.ref qo, .ref qb, .int (iI (no : Int)), .int (iI (nb : Int))])), (qo, ar cI 3 O), (qb, ar cI 24 B)]) hD [0, 1, 2] (by decide) rfl) 0 1 rfl rfl rfl tw_209 tw_210 tw_211 tw_2 tw_212 hd_Draft_width ⟨rfl, rfl⟩ (by decide) hl.1 rfl (ble_le rfl) d_Draft_isRead_15 (by decide)) (fun r15 u H locs hq hP hS => ?_)
      have hq : r15 = widthN O no := hq
      obtain rfl := hq
      refine lv_aload_n hx hb d_Draft_isRead_18 rfl (lv_at hl 0 rfl) ?_
      refine va_get (ci := 1) (C := R_Draft) (T := F_Draft) (N := 4) hx hb hT in_Draft hown hK.1 hP 0 rfl rfl 3 (by decide) (hT _ tw_28) (fun _ h => h) rfl d_Draft_isRead_19 ?_
      refine bk_icmp_ne (tgt := 29) hx hb d_Draft_isRead_22 (by decide) (by omega) (by omega) (fun c22 => ?_) (fun c22 => ?_)
      · skip
        refine lv_iconst (v := iI 0) hx hb d_Draft_isRead_29 rfl ?_
        exact bk_reti (r := 0) hx hb hr iI_nar0 hlk hAe hQ hS () (by omega) hP hD d_Draft_isRead_30
      · skip
        refine lv_iconst (v := iI 1) hx hb d_Draft_isRead_25 rfl ?_
        refine lv_goto (tgt := 30) hx hb d_Draft_isRead_26 (by decide) ?_
        exact bk_reti (r := 1) hx hb hr iI_nar1 hlk hAe hQ hS () (by omega) hP hD d_Draft_isRead_30
abbrev rm_Draft_basePair : Room := { frames := 0, cells := 0, slots := 0, locals := 0 }
set_option maxRecDepth 100000 in
set_option maxHeartbeats 4000000 in
theorem c_Draft_basePair (l : Launch) (D : va_G) (cI cO : ClassId) (h qo qb : Nat) (O B : Nat → Int) (no nb : Nat) (i : Nat) (hno : no ≤ 3) (hnb : nb ≤ 24) (hi : i < nb) (hB : ∀ j, j < nb → 0 ≤ B j ∧ B j ≤ 15) : Mi l y_Draft_basePair b_Draft_basePair 3 .int rm_Draft_basePair D cI cO [.ref h, .int (iI (i : Int))] ([(h, .inr (1, [.ref qo, .ref qb, .int (iI (no : Int)), .int (iI (nb : Int))])), (qo, ar cI 3 O), (qb, ar cI 24 B)]) (fun (r : Int) (_ : Unit) => r = 16 * B i + (if i + 1 < nb then B (i + 1) else 0)) (fun (_ : Unit) => [(h, .inr (1, [.ref qo, .ref qb, .int (iI (no : Int)), .int (iI (nb : Int))])), (qo, ar cI 3 O), (qb, ar cI 24 B)]) 0 0 := by
  refine bk_start (by decide) (ble_le rfl) ?_
  intro p e s m args below meth c A ls Q hx hb hr hml hlk hown hnm hT hK hA hAe hQ hP hD hS hl
  have hown : s.vm.findClass "BinnedReads$Draft" = some m.cls := hown
  have hl : lv_has ls 3 [(0, .ref h), (1, .int (iI (i : Int)))] := hl
  refine lv_iload_n hx hb d_Draft_basePair_0 rfl (lv_at hl 1 rfl) ?_
  refine lv_iconst (v := iI 1) hx hb d_Draft_basePair_1 rfl ?_
  refine bk_add hx hb d_Draft_basePair_2 ?_
  refine bk_top (y := iI ((i + 1 : Nat) : Int)) (congrArg iI (by omega)) ?_
  refine lv_aload_n hx hb d_Draft_basePair_3 rfl (lv_at hl 0 rfl) ?_
  refine va_get (ci := 1) (C := R_Draft) (T := F_Draft) (N := 4) hx hb hT in_Draft hown hK.1 hP 0 rfl rfl 3 (by decide) (hT _ tw_28) (fun _ h => h) rfl d_Draft_basePair_4 ?_
  have cut22 : ∀ (x : Int) (H : Heap) (locs : List Loc) (ls : Array Slot), (x = if i + 1 < nb then B (i + 1) else 0) → (0 ≤ x ∧ x ≤ 15) → lv_has ls 3 [(0, .ref h), (1, .int (iI (i : Int)))] → va_P D classes ([(h, .inr (1, [.ref qo, .ref qb, .int (iI (no : Int)), .int (iI (nb : Int))])), (qo, ar cI 3 O), (qb, ar cI 24 B)]) H → va_D A ([(h, .inr (1, [.ref qo, .ref qb, .int (iI (no : Int)), .int (iI (nb : Int))])), (qo, ar cI 3 O), (qb, ar cI 24 B)]) → va_S A s.heap H locs → W p l e rm_Draft_basePair s m args below meth c H locs 0 0 Q (F0 m 22 ls [.int (iI x)]) := by
    intro x H locs ls hx1 hx2 hl hP hD hS
    refine lv_istore_n hx hb d_Draft_basePair_22 rfl hl (by decide) rfl (fun ls hl => ?_)
    have hl : lv_has ls 3 [(2, .int (iI x)), (0, .ref h), (1, .int (iI (i : Int)))] := hl
    refine lv_bipush (v := iI 16) hx hb d_Draft_basePair_23 (by decide) ?_
    refine lv_aload_n hx hb d_Draft_basePair_25 rfl (lv_at hl 1 rfl) ?_
    refine va_get (ci := 1) (C := R_Draft) (T := F_Draft) (N := 4) hx hb hT in_Draft hown hK.1 hP 0 rfl rfl 1 (by decide) (hT _ tw_25) (fun _ h => h) rfl d_Draft_basePair_26 ?_
    refine lv_iload_n hx hb d_Draft_basePair_29 rfl (lv_at hl 2 rfl) ?_
    refine bk_iald hx hb hK.1 hP 2 0 rfl rfl i (by omega) (by decide) d_Draft_basePair_30 ?_
    refine bk_mul hx hb d_Draft_basePair_31 ?_
    refine lv_iload_n hx hb d_Draft_basePair_32 rfl (lv_at hl 0 rfl) ?_
    refine bk_add hx hb d_Draft_basePair_33 ?_
    exact bk_reti (r := 16 * (B i) + x) hx hb hr rfl hlk hAe hQ hS () (by rw [hx1]) hP hD d_Draft_basePair_34
  refine bk_icmp_ge (tgt := 21) hx hb d_Draft_basePair_7 (by decide) (by omega) (by omega) (fun c7 => ?_) (fun c7 => ?_)
  · skip
    refine lv_iconst (v := iI 0) hx hb d_Draft_basePair_21 rfl ?_
    exact cut22 0 _ _ _ (by rw [if_neg (by omega)]) (by omega) (lv_sub hl [0, 1] rfl) hP hD hS
  · skip
    refine lv_aload_n hx hb d_Draft_basePair_10 rfl (lv_at hl 0 rfl) ?_
    refine va_get (ci := 1) (C := R_Draft) (T := F_Draft) (N := 4) hx hb hT in_Draft hown hK.1 hP 0 rfl rfl 1 (by decide) (hT _ tw_25) (fun _ h => h) rfl d_Draft_basePair_11 ?_
    refine lv_iload_n hx hb d_Draft_basePair_14 rfl (lv_at hl 1 rfl) ?_
    refine lv_iconst (v := iI 1) hx hb d_Draft_basePair_15 rfl ?_
    refine bk_add hx hb d_Draft_basePair_16 ?_
    refine bk_top (y := iI ((i + 1 : Nat) : Int)) (congrArg iI (by omega)) ?_
    refine bk_iald hx hb hK.1 hP 2 0 rfl rfl (i + 1) (by omega) (by decide) d_Draft_basePair_17 ?_
    refine lv_goto (tgt := 22) hx hb d_Draft_basePair_18 (by decide) ?_
    exact cut22 (B (i + 1)) _ _ _ (by rw [if_pos (by omega)]) (hB (i + 1) (by omega)) (lv_sub hl [0, 1] rfl) hP hD hS
end
section
abbrev rm_Indx_empty : Room := { frames := 0, cells := 0, slots := 0, locals := 0 }
set_option maxRecDepth 100000 in
set_option maxHeartbeats 4000000 in
theorem c_Indx_empty (l : Launch) (D : va_G) (cI cO : ClassId) (h qr qp qe qn qs qc : Nat) (RF PO EN BN ST CH : Nat → Int) (cn cc : Nat) : Mv l y_Indx_empty b_Indx_empty 1 rm_Indx_empty D cI cO [.ref h] ([(h, .inr (3, [.ref qr, .ref qp, .ref qe, .ref qn, .ref qs, .int (iI (cn : Int)), .ref qc, .int (iI (cc : Int))])), (qr, ar cI 24 RF), (qp, ar cI 24 PO), (qe, ar cI 24 EN), (qn, ar cI 24 BN), (qs, ar cI 24 ST), (qc, ar cI 24 CH)]) (fun (_ : Unit) => True) (fun (_ : Unit) => [(h, .inr (3, [.ref qr, .ref qp, .ref qe, .ref qn, .ref qs, .int (iI 0), .ref qc, .int (iI 0)])), (qr, ar cI 24 RF), (qp, ar cI 24 PO), (qe, ar cI 24 EN), (qn, ar cI 24 BN), (qs, ar cI 24 ST), (qc, ar cI 24 CH)]) 0 0 := by
  refine bk_start (by decide) (ble_le rfl) ?_
  intro p e s m args below meth c A ls Q hx hb hr hml hlk hown hnm hT hK hA hAe hQ hP hD hS hl
  have hown : s.vm.findClass "BinnedReads$Index" = some m.cls := hown
  have hl : lv_has ls 1 [(0, .ref h)] := hl
  refine lv_aload_n hx hb d_Indx_empty_0 rfl (lv_at hl 0 rfl) ?_
  refine lv_iconst (v := iI 0) hx hb d_Indx_empty_1 rfl ?_
  refine va_put (ci := 3) (v := .int (iI 0)) (ty := .int) (C := R_Indx) (T := F_Indx) (N := 8) hx hb hT in_Indx t_Indx to_Indx n_Indx hown hK.1 hP hD hS 0 rfl rfl 5 (by decide) (hT _ tw_68) (fun _ h => h) rfl (by decide +kernel) rfl rfl (ble_lt rfl) d_Indx_empty_2 (fun H locs hP hD hS => ?_)
  have hP : va_P D classes ([(h, .inr (3, [.ref qr, .ref qp, .ref qe, .ref qn, .ref qs, .int (iI 0), .ref qc, .int (iI (cc : Int))])), (qr, ar cI 24 RF), (qp, ar cI 24 PO), (qe, ar cI 24 EN), (qn, ar cI 24 BN), (qs, ar cI 24 ST), (qc, ar cI 24 CH)]) H := hP
  have hD : va_D A ([(h, .inr (3, [.ref qr, .ref qp, .ref qe, .ref qn, .ref qs, .int (iI 0), .ref qc, .int (iI (cc : Int))])), (qr, ar cI 24 RF), (qp, ar cI 24 PO), (qe, ar cI 24 EN), (qn, ar cI 24 BN), (qs, ar cI 24 ST), (qc, ar cI 24 CH)]) := hD
  refine lv_aload_n hx hb d_Indx_empty_5 rfl (lv_at hl 0 rfl) ?_
  refine lv_iconst (v := iI 0) hx hb d_Indx_empty_6 rfl ?_
  refine va_put (ci := 3) (v := .int (iI 0)) (ty := .int) (C := R_Indx) (T := F_Indx) (N := 8) hx hb hT in_Indx t_Indx to_Indx n_Indx hown hK.1 hP hD hS 0 rfl rfl 7 (by decide) (hT _ tw_72) (fun _ h => h) rfl (by decide +kernel) rfl rfl (ble_lt rfl) d_Indx_empty_7 (fun H locs hP hD hS => ?_)
  have hP : va_P D classes ([(h, .inr (3, [.ref qr, .ref qp, .ref qe, .ref qn, .ref qs, .int (iI 0), .ref qc, .int (iI 0)])), (qr, ar cI 24 RF), (qp, ar cI 24 PO), (qe, ar cI 24 EN), (qn, ar cI 24 BN), (qs, ar cI 24 ST), (qc, ar cI 24 CH)]) H := hP
  have hD : va_D A ([(h, .inr (3, [.ref qr, .ref qp, .ref qe, .ref qn, .ref qs, .int (iI 0), .ref qc, .int (iI 0)])), (qr, ar cI 24 RF), (qp, ar cI 24 PO), (qe, ar cI 24 EN), (qn, ar cI 24 BN), (qs, ar cI 24 ST), (qc, ar cI 24 CH)]) := hD
  exact bk_retv hx hb hr hlk hAe hQ hS () trivial hP hD d_Indx_empty_10
abbrev rm_Indx_isFull : Room := { frames := 0, cells := 0, slots := 0, locals := 0 }
set_option maxRecDepth 100000 in
set_option maxHeartbeats 4000000 in
theorem c_Indx_isFull (l : Launch) (D : va_G) (cI cO : ClassId) (h qr qp qe qn qs qc : Nat) (RF PO EN BN ST CH : Nat → Int) (cn cc : Nat) (hcn : cn ≤ 24) : Mi l y_Indx_isFull b_Indx_isFull 1 .boolean rm_Indx_isFull D cI cO [.ref h] ([(h, .inr (3, [.ref qr, .ref qp, .ref qe, .ref qn, .ref qs, .int (iI (cn : Int)), .ref qc, .int (iI (cc : Int))])), (qr, ar cI 24 RF), (qp, ar cI 24 PO), (qe, ar cI 24 EN), (qn, ar cI 24 BN), (qs, ar cI 24 ST), (qc, ar cI 24 CH)]) (fun (r : Int) (_ : Unit) => ((24 ≤ cn) ∧ r = 1) ∨ (¬ (24 ≤ cn) ∧ r = 0)) (fun (_ : Unit) => [(h, .inr (3, [.ref qr, .ref qp, .ref qe, .ref qn, .ref qs, .int (iI (cn : Int)), .ref qc, .int (iI (cc : Int))])), (qr, ar cI 24 RF), (qp, ar cI 24 PO), (qe, ar cI 24 EN), (qn, ar cI 24 BN), (qs, ar cI 24 ST), (qc, ar cI 24 CH)]) 0 0 := by
  refine bk_start (by decide) (ble_le rfl) ?_
  intro p e s m args below meth c A ls Q hx hb hr hml hlk hown hnm hT hK hA hAe hQ hP hD hS hl
  have hown : s.vm.findClass "BinnedReads$Index" = some m.cls := hown
  have hl : lv_has ls 1 [(0, .ref h)] := hl
  refine lv_aload_n hx hb d_Indx_isFull_0 rfl (lv_at hl 0 rfl) ?_
  refine va_get (ci := 3) (C := R_Indx) (T := F_Indx) (N := 8) hx hb hT in_Indx hown hK.1 hP 0 rfl rfl 5 (by decide) (hT _ tw_68) (fun _ h => h) rfl d_Indx_isFull_1 ?_
  refine lv_bipush (v := iI 24) hx hb d_Indx_isFull_4 (by decide) ?_
  refine bk_icmp_lt (tgt := 13) hx hb d_Indx_isFull_6 (by decide) (by omega) (by omega) (fun c6 => ?_) (fun c6 => ?_)
  · skip
    refine lv_iconst (v := iI 0) hx hb d_Indx_isFull_13 rfl ?_
    exact bk_reti (r := 0) hx hb hr iI_nar0 hlk hAe hQ hS () (by omega) hP hD d_Indx_isFull_14
  · skip
    refine lv_iconst (v := iI 1) hx hb d_Indx_isFull_9 rfl ?_
    refine lv_goto (tgt := 14) hx hb d_Indx_isFull_10 (by decide) ?_
    exact bk_reti (r := 1) hx hb hr iI_nar1 hlk hAe hQ hS () (by omega) hP hD d_Indx_isFull_14
abbrev rm_Indx_endsBehind : Room := { frames := 0, cells := 0, slots := 0, locals := 0 }
set_option maxRecDepth 100000 in
set_option maxHeartbeats 4000000 in
theorem c_Indx_endsBehind (l : Launch) (D : va_G) (cI cO : ClassId) (h qr qp qe qn qs qc : Nat) (RF PO EN BN ST CH : Nat → Int) (cn cc : Nat) (a b : Int) (hcn : cn ≤ 24) (hRF : ∀ i, i < cn → 0 ≤ RF i ∧ RF i ≤ 1) (hPO : ∀ i, i < cn → 0 ≤ PO i ∧ PO i ≤ 4095) (hEN : ∀ i, i < cn → 0 ≤ EN i ∧ EN i ≤ 4096) (hBN : ∀ i, i < cn → 0 ≤ BN i ∧ BN i ≤ 72) (ha : -2147483648 ≤ a ∧ a < 2147483648) (hb1 : -2147483648 ≤ b ∧ b < 2147483648) : Mi l y_Indx_endsBehind b_Indx_endsBehind 4 .boolean rm_Indx_endsBehind D cI cO [.ref h, .int (iI a), .int (iI b)] ([(h, .inr (3, [.ref qr, .ref qp, .ref qe, .ref qn, .ref qs, .int (iI (cn : Int)), .ref qc, .int (iI (cc : Int))])), (qr, ar cI 24 RF), (qp, ar cI 24 PO), (qe, ar cI 24 EN), (qn, ar cI 24 BN), (qs, ar cI 24 ST), (qc, ar cI 24 CH)]) (fun (r : Int) (_ : Unit) => ((0 < cn ∧ (a < RF (cn - 1) ∨ (a = RF (cn - 1) ∧ b < PO (cn - 1)))) ∧ r = 1) ∨ (¬ (0 < cn ∧ (a < RF (cn - 1) ∨ (a = RF (cn - 1) ∧ b < PO (cn - 1)))) ∧ r = 0)) (fun (_ : Unit) => [(h, .inr (3, [.ref qr, .ref qp, .ref qe, .ref qn, .ref qs, .int (iI (cn : Int)), .ref qc, .int (iI (cc : Int))])), (qr, ar cI 24 RF), (qp, ar cI 24 PO), (qe, ar cI 24 EN), (qn, ar cI 24 BN), (qs, ar cI 24 ST), (qc, ar cI 24 CH)]) 0 0 := by
  refine bk_start (by decide) (ble_le rfl) ?_
  intro p e s m args below meth c A ls Q hx hb hr hml hlk hown hnm hT hK hA hAe hQ hP hD hS hl
  have hown : s.vm.findClass "BinnedReads$Index" = some m.cls := hown
  have hl : lv_has ls 4 [(0, .ref h), (1, .int (iI a)), (2, .int (iI b))] := hl
  refine lv_aload_n hx hb d_Indx_endsBehind_0 rfl (lv_at hl 0 rfl) ?_
  refine va_get (ci := 3) (C := R_Indx) (T := F_Indx) (N := 8) hx hb hT in_Indx hown hK.1 hP 0 rfl rfl 5 (by decide) (hT _ tw_68) (fun _ h => h) rfl d_Indx_endsBehind_1 ?_
  refine bk_if_ne (tgt := 9) hx hb d_Indx_endsBehind_4 (by decide) (by omega) (fun c4 => ?_) (fun c4 => ?_)
  · skip
    have h1 := hRF (cn - 1) (by omega)
    have h2 := hPO (cn - 1) (by omega)
    refine lv_aload_n hx hb d_Indx_endsBehind_9 rfl (lv_at hl 0 rfl) ?_
    refine va_get (ci := 3) (C := R_Indx) (T := F_Indx) (N := 8) hx hb hT in_Indx hown hK.1 hP 0 rfl rfl 5 (by decide) (hT _ tw_68) (fun _ h => h) rfl d_Indx_endsBehind_10 ?_
    refine lv_iconst (v := iI 1) hx hb d_Indx_endsBehind_13 rfl ?_
    refine bk_sub hx hb d_Indx_endsBehind_14 ?_
    refine lv_istore_n hx hb d_Indx_endsBehind_15 rfl hl (by decide) rfl (fun ls hl => ?_)
    have hl : lv_has ls 4 [(3, .int (iI ((cn : Int) - 1))), (0, .ref h), (1, .int (iI a)), (2, .int (iI b))] := hl
    refine lv_iload_n hx hb d_Indx_endsBehind_16 rfl (lv_at hl 2 rfl) ?_
    refine lv_aload_n hx hb d_Indx_endsBehind_17 rfl (lv_at hl 1 rfl) ?_
    refine va_get (ci := 3) (C := R_Indx) (T := F_Indx) (N := 8) hx hb hT in_Indx hown hK.1 hP 0 rfl rfl 0 (by decide) (hT _ tw_62) (fun _ h => h) rfl d_Indx_endsBehind_18 ?_
    refine lv_iload_n hx hb d_Indx_endsBehind_21 rfl (lv_at hl 0 rfl) ?_
    refine bk_iald hx hb hK.1 hP 1 0 rfl rfl (cn - 1) (by omega) (by decide) d_Indx_endsBehind_22 ?_
    refine bk_icmp_lt (tgt := 46) hx hb d_Indx_endsBehind_23 (by decide) (by omega) (by omega) (fun c23 => ?_) (fun c23 => ?_)
    · skip
      refine lv_iconst (v := iI 1) hx hb d_Indx_endsBehind_46 rfl ?_
      refine lv_goto (tgt := 51) hx hb d_Indx_endsBehind_47 (by decide) ?_
      exact bk_reti (r := 1) hx hb hr iI_nar1 hlk hAe hQ hS () (by omega) hP hD d_Indx_endsBehind_51
    · skip
      refine lv_iload_n hx hb d_Indx_endsBehind_26 rfl (lv_at hl 2 rfl) ?_
      refine lv_aload_n hx hb d_Indx_endsBehind_27 rfl (lv_at hl 1 rfl) ?_
      refine va_get (ci := 3) (C := R_Indx) (T := F_Indx) (N := 8) hx hb hT in_Indx hown hK.1 hP 0 rfl rfl 0 (by decide) (hT _ tw_62) (fun _ h => h) rfl d_Indx_endsBehind_28 ?_
      refine lv_iload_n hx hb d_Indx_endsBehind_31 rfl (lv_at hl 0 rfl) ?_
      refine bk_iald hx hb hK.1 hP 1 0 rfl rfl (cn - 1) (by omega) (by decide) d_Indx_endsBehind_32 ?_
      refine bk_icmp_ne (tgt := 50) hx hb d_Indx_endsBehind_33 (by decide) (by omega) (by omega) (fun c33 => ?_) (fun c33 => ?_)
      · skip
        refine lv_iconst (v := iI 0) hx hb d_Indx_endsBehind_50 rfl ?_
        exact bk_reti (r := 0) hx hb hr iI_nar0 hlk hAe hQ hS () (by omega) hP hD d_Indx_endsBehind_51
      · skip
        refine lv_iload_n hx hb d_Indx_endsBehind_36 rfl (lv_at hl 3 rfl) ?_
        refine lv_aload_n hx hb d_Indx_endsBehind_37 rfl (lv_at hl 1 rfl) ?_
        refine va_get (ci := 3) (C := R_Indx) (T := F_Indx) (N := 8) hx hb hT in_Indx hown hK.1 hP 0 rfl rfl 1 (by decide) (hT _ tw_63) (fun _ h => h) rfl d_Indx_endsBehind_38 ?_
        refine lv_iload_n hx hb d_Indx_endsBehind_41 rfl (lv_at hl 0 rfl) ?_
        refine bk_iald hx hb hK.1 hP 2 0 rfl rfl (cn - 1) (by omega) (by decide) d_Indx_endsBehind_42 ?_
        refine bk_icmp_ge (tgt := 50) hx hb d_Indx_endsBehind_43 (by decide) (by omega) (by omega) (fun c43 => ?_) (fun c43 => ?_)
        · skip
          refine lv_iconst (v := iI 0) hx hb d_Indx_endsBehind_50 rfl ?_
          exact bk_reti (r := 0) hx hb hr iI_nar0 hlk hAe hQ hS () (by omega) hP hD d_Indx_endsBehind_51
        · skip
          refine lv_iconst (v := iI 1) hx hb d_Indx_endsBehind_46 rfl ?_
          refine lv_goto (tgt := 51) hx hb d_Indx_endsBehind_47 (by decide) ?_
          exact bk_reti (r := 1) hx hb hr iI_nar1 hlk hAe hQ hS () (by omega) hP hD d_Indx_endsBehind_51
  · skip
    refine lv_iconst (v := iI 0) hx hb d_Indx_endsBehind_7 rfl ?_
    exact bk_reti (r := 0) hx hb hr iI_nar0 hlk hAe hQ hS () (by omega) hP hD d_Indx_endsBehind_8
abbrev rm_Indx_append : Room := { frames := 1, cells := 0, slots := 0, locals := 20 }
set_option maxRecDepth 100000 in
set_option maxHeartbeats 4000000 in
theorem c_Indx_append (l : Launch) (D : va_G) (cI cO : ClassId) (h qr qp qe qn qs qc : Nat) (RF PO EN BN ST CH : Nat → Int) (cn cc : Nat) (x1 x2 x3 x4 x5 : Int) (hcn : cn < 24) : Mi l y_Indx_append b_Indx_append 6 .int rm_Indx_append D cI cO [.ref h, .int (iI x1), .int (iI x2), .int (iI x3), .int (iI x4), .int (iI x5)] ([(h, .inr (3, [.ref qr, .ref qp, .ref qe, .ref qn, .ref qs, .int (iI (cn : Int)), .ref qc, .int (iI (cc : Int))])), (qr, ar cI 24 RF), (qp, ar cI 24 PO), (qe, ar cI 24 EN), (qn, ar cI 24 BN), (qs, ar cI 24 ST), (qc, ar cI 24 CH)]) (fun (r : Int) (_ : Unit) => r = (cn : Int)) (fun (_ : Unit) => [(h, .inr (3, [.ref qr, .ref qp, .ref qe, .ref qn, .ref qs, .int (iI ((cn + 1 : Nat) : Int)), .ref qc, .int (iI (cc : Int))])), (qr, ar cI 24 (bU RF cn x1)), (qp, ar cI 24 (bU PO cn x2)), (qe, ar cI 24 (bU EN cn x3)), (qn, ar cI 24 (bU BN cn x4)), (qs, ar cI 24 (bU ST cn x5)), (qc, ar cI 24 CH)]) 0 0 := by
  refine bk_start (by decide) (ble_le rfl) ?_
  intro p e s m args below meth c A ls Q hx hb hr hml hlk hown hnm hT hK hA hAe hQ hP hD hS hl
  have hown : s.vm.findClass "BinnedReads$Index" = some m.cls := hown
  have hl : lv_has ls 6 [(0, .ref h), (1, .int (iI x1)), (2, .int (iI x2)), (3, .int (iI x3)), (4, .int (iI x4)), (5, .int (iI x5))] := hl
  refine lv_aload_n hx hb d_Indx_append_0 rfl (lv_at hl 0 rfl) ?_
  refine bk_fR (ws := [(h, .inr (3, [.ref qr, .ref qp, .ref qe, .ref qn, .ref qs, .int (iI (cn : Int)), .ref qc, .int (iI (cc : Int))])), (qr, ar cI 24 RF), (qp, ar cI 24 PO), (qe, ar cI 24 EN), (qn, ar cI 24 BN), (qs, ar cI 24 ST), (qc, ar cI 24 CH)]) (Wc := [(h, .inr (3, [.ref qr, .ref qp, .ref qe, .ref qn, .ref qs, .int (iI (cn : Int)), .ref qc, .int (iI (cc : Int))])), (qr, ar cI 24 RF), (qp, ar cI 24 PO), (qe, ar cI 24 EN), (qn, ar cI 24 BN), (qs, ar cI 24 ST), (qc, ar cI 24 CH)]) (fun _ => rfl) (bk_hs (X := [(h, .inr (3, [.ref qr, .ref qp, .ref qe, .ref qn, .ref qs, .int (iI (cn : Int)), .ref qc, .int (iI (cc : Int))])), (qr, ar cI 24 RF), (qp, ar cI 24 PO), (qe, ar cI 24 EN), (qn, ar cI 24 BN), (qs, ar cI 24 ST), (qc, ar cI 24 CH)]) (pl := []) (Wc := [(h, .inr (3, [.ref qr, .ref qp, .ref qe, .ref qn, .ref qs, .int (iI (cn : Int)), .ref qc, .int (iI (cc : Int))])), (qr, ar cI 24 RF), (qp, ar cI 24 PO), (qe, ar cI 24 EN), (qn, ar cI 24 BN), (qs, ar cI 24 ST), (qc, ar cI 24 CH)]) [0, 1, 2, 3, 4, 5, 6] rfl) hP hD hS hA (bk_rV (rest := []) hx hb hml hown hT hK (c_Indx_isFull l D cI cO h qr qp qe qn qs qc RF PO EN BN ST CH cn cc (by omega)) (bk_subP (X := [(h, .inr (3, [.ref qr, .ref qp, .ref qe, .ref qn, .ref qs, .int (iI (cn : Int)), .ref qc, .int (iI (cc : Int))])), (qr, ar cI 24 RF), (qp, ar cI 24 PO), (qe, ar cI 24 EN), (qn, ar cI 24 BN), (qs, ar cI 24 ST), (qc, ar cI 24 CH)]) (pl := []) (Wc := [(h, .inr (3, [.ref qr, .ref qp, .ref qe, .ref qn, .ref qs, .int (iI (cn : Int)), .ref qc, .int (iI (cc : Int))])), (qr, ar cI 24 RF), (qp, ar cI 24 PO), (qe, ar cI 24 EN), (qn, ar cI 24 BN), (qs, ar cI 24 ST), (qc, ar cI 24 CH)]) hP [0, 1, 2, 3, 4, 5, 6] rfl) (bk_subD (X := [(h, .inr (3, [.ref qr, .ref qp, .ref qe, .ref qn, .ref qs, .int (iI (cn : Int)), .ref qc, .int (iI (cc : Int))])), (qr, ar cI 24 RF), (qp, ar cI 24 PO), (qe, ar cI 24 EN), (qn, ar cI 24 BN), (qs, ar cI 24 ST), (qc, ar cI 24 CH)]) (pl := []) (Wc := [(h, .inr (3, [.ref qr, .ref qp, .ref qe, .ref qn, .ref qs, .int (iI (cn : Int)), .ref qc, .int (iI (cc : Int))])), (qr, ar cI 24 RF), (qp, ar cI 24 PO), (qe, ar cI 24 EN), (qn, ar cI 24 BN), (qs, ar cI 24 ST), (qc, ar cI 24 CH)]) hD [0, 1, 2, 3, 4, 5, 6] (by decide) rfl) 0 3 rfl rfl rfl tw_230 tw_189 tw_190 tw_4 tw_191 hd_Indx_isFull ⟨rfl, rfl⟩ (by decide) hl.1 rfl (ble_le rfl) d_Indx_append_1 (by decide)) (fun r1 u H locs hq hP hS => ?_)
  have hq : ((24 ≤ cn) ∧ r1 = 1) ∨ (¬ (24 ≤ cn) ∧ r1 = 0) := hq
  have hr1 : 0 ≤ r1 ∧ r1 ≤ 1 := by omega
  refine bk_if_eq (tgt := 9) hx hb d_Indx_append_4 (by decide) (by omega) (fun c4 => ?_) (fun c4 => ?_)
  · skip
    refine lv_aload_n hx hb d_Indx_append_9 rfl (lv_at hl 0 rfl) ?_
    refine va_get (ci := 3) (C := R_Indx) (T := F_Indx) (N := 8) hx hb hT in_Indx hown hK.1 hP 0 rfl rfl 0 (by decide) (hT _ tw_62) (fun _ h => h) rfl d_Indx_append_10 ?_
    refine lv_aload_n hx hb d_Indx_append_13 rfl (lv_at hl 0 rfl) ?_
    refine va_get (ci := 3) (C := R_Indx) (T := F_Indx) (N := 8) hx hb hT in_Indx hown hK.1 hP 0 rfl rfl 5 (by decide) (hT _ tw_68) (fun _ h => h) rfl d_Indx_append_14 ?_
    refine lv_iload_n hx hb d_Indx_append_17 rfl (lv_at hl 1 rfl) ?_
    refine bk_iast hx hb hK.1 hP hD hS 1 0 rfl rfl cn (by omega) (by decide) d_Indx_append_18 (fun H locs hP hD hS => ?_)
    have hP : va_P D classes ([(h, .inr (3, [.ref qr, .ref qp, .ref qe, .ref qn, .ref qs, .int (iI (cn : Int)), .ref qc, .int (iI (cc : Int))])), (qr, ar cI 24 (bU RF cn x1)), (qp, ar cI 24 PO), (qe, ar cI 24 EN), (qn, ar cI 24 BN), (qs, ar cI 24 ST), (qc, ar cI 24 CH)]) H := hP
    have hD : va_D A ([(h, .inr (3, [.ref qr, .ref qp, .ref qe, .ref qn, .ref qs, .int (iI (cn : Int)), .ref qc, .int (iI (cc : Int))])), (qr, ar cI 24 (bU RF cn x1)), (qp, ar cI 24 PO), (qe, ar cI 24 EN), (qn, ar cI 24 BN), (qs, ar cI 24 ST), (qc, ar cI 24 CH)]) := hD
    refine lv_aload_n hx hb d_Indx_append_19 rfl (lv_at hl 0 rfl) ?_
    refine va_get (ci := 3) (C := R_Indx) (T := F_Indx) (N := 8) hx hb hT in_Indx hown hK.1 hP 0 rfl rfl 1 (by decide) (hT _ tw_63) (fun _ h => h) rfl d_Indx_append_20 ?_
    refine lv_aload_n hx hb d_Indx_append_23 rfl (lv_at hl 0 rfl) ?_
    refine va_get (ci := 3) (C := R_Indx) (T := F_Indx) (N := 8) hx hb hT in_Indx hown hK.1 hP 0 rfl rfl 5 (by decide) (hT _ tw_68) (fun _ h => h) rfl d_Indx_append_24 ?_
    refine lv_iload_n hx hb d_Indx_append_27 rfl (lv_at hl 2 rfl) ?_
    refine bk_iast hx hb hK.1 hP hD hS 2 0 rfl rfl cn (by omega) (by decide) d_Indx_append_28 (fun H locs hP hD hS => ?_)
    have hP : va_P D classes ([(h, .inr (3, [.ref qr, .ref qp, .ref qe, .ref qn, .ref qs, .int (iI (cn : Int)), .ref qc, .int (iI (cc : Int))])), (qr, ar cI 24 (bU RF cn x1)), (qp, ar cI 24 (bU PO cn x2)), (qe, ar cI 24 EN), (qn, ar cI 24 BN), (qs, ar cI 24 ST), (qc, ar cI 24 CH)]) H := hP
    have hD : va_D A ([(h, .inr (3, [.ref qr, .ref qp, .ref qe, .ref qn, .ref qs, .int (iI (cn : Int)), .ref qc, .int (iI (cc : Int))])), (qr, ar cI 24 (bU RF cn x1)), (qp, ar cI 24 (bU PO cn x2)), (qe, ar cI 24 EN), (qn, ar cI 24 BN), (qs, ar cI 24 ST), (qc, ar cI 24 CH)]) := hD
    refine lv_aload_n hx hb d_Indx_append_29 rfl (lv_at hl 0 rfl) ?_
    refine va_get (ci := 3) (C := R_Indx) (T := F_Indx) (N := 8) hx hb hT in_Indx hown hK.1 hP 0 rfl rfl 2 (by decide) (hT _ tw_64) (fun _ h => h) rfl d_Indx_append_30 ?_
    refine lv_aload_n hx hb d_Indx_append_33 rfl (lv_at hl 0 rfl) ?_
    refine va_get (ci := 3) (C := R_Indx) (T := F_Indx) (N := 8) hx hb hT in_Indx hown hK.1 hP 0 rfl rfl 5 (by decide) (hT _ tw_68) (fun _ h => h) rfl d_Indx_append_34 ?_
    refine lv_iload_n hx hb d_Indx_append_37 rfl (lv_at hl 3 rfl) ?_
    refine bk_iast hx hb hK.1 hP hD hS 3 0 rfl rfl cn (by omega) (by decide) d_Indx_append_38 (fun H locs hP hD hS => ?_)
    have hP : va_P D classes ([(h, .inr (3, [.ref qr, .ref qp, .ref qe, .ref qn, .ref qs, .int (iI (cn : Int)), .ref qc, .int (iI (cc : Int))])), (qr, ar cI 24 (bU RF cn x1)), (qp, ar cI 24 (bU PO cn x2)), (qe, ar cI 24 (bU EN cn x3)), (qn, ar cI 24 BN), (qs, ar cI 24 ST), (qc, ar cI 24 CH)]) H := hP
    have hD : va_D A ([(h, .inr (3, [.ref qr, .ref qp, .ref qe, .ref qn, .ref qs, .int (iI (cn : Int)), .ref qc, .int (iI (cc : Int))])), (qr, ar cI 24 (bU RF cn x1)), (qp, ar cI 24 (bU PO cn x2)), (qe, ar cI 24 (bU EN cn x3)), (qn, ar cI 24 BN), (qs, ar cI 24 ST), (qc, ar cI 24 CH)]) := hD
    refine lv_aload_n hx hb d_Indx_append_39 rfl (lv_at hl 0 rfl) ?_
    refine va_get (ci := 3) (C := R_Indx) (T := F_Indx) (N := 8) hx hb hT in_Indx hown hK.1 hP 0 rfl rfl 3 (by decide) (hT _ tw_65) (fun _ h => h) rfl d_Indx_append_40 ?_
    refine lv_aload_n hx hb d_Indx_append_43 rfl (lv_at hl 0 rfl) ?_
    refine va_get (ci := 3) (C := R_Indx) (T := F_Indx) (N := 8) hx hb hT in_Indx hown hK.1 hP 0 rfl rfl 5 (by decide) (hT _ tw_68) (fun _ h => h) rfl d_Indx_append_44 ?_
    refine lv_iload hx hb d_Indx_append_47 (lv_at hl 4 rfl) ?_
    refine bk_iast hx hb hK.1 hP hD hS 4 0 rfl rfl cn (by omega) (by decide) d_Indx_append_49 (fun H locs hP hD hS => ?_)
    have hP : va_P D classes ([(h, .inr (3, [.ref qr, .ref qp, .ref qe, .ref qn, .ref qs, .int (iI (cn : Int)), .ref qc, .int (iI (cc : Int))])), (qr, ar cI 24 (bU RF cn x1)), (qp, ar cI 24 (bU PO cn x2)), (qe, ar cI 24 (bU EN cn x3)), (qn, ar cI 24 (bU BN cn x4)), (qs, ar cI 24 ST), (qc, ar cI 24 CH)]) H := hP
    have hD : va_D A ([(h, .inr (3, [.ref qr, .ref qp, .ref qe, .ref qn, .ref qs, .int (iI (cn : Int)), .ref qc, .int (iI (cc : Int))])), (qr, ar cI 24 (bU RF cn x1)), (qp, ar cI 24 (bU PO cn x2)), (qe, ar cI 24 (bU EN cn x3)), (qn, ar cI 24 (bU BN cn x4)), (qs, ar cI 24 ST), (qc, ar cI 24 CH)]) := hD
    refine lv_aload_n hx hb d_Indx_append_50 rfl (lv_at hl 0 rfl) ?_
    refine va_get (ci := 3) (C := R_Indx) (T := F_Indx) (N := 8) hx hb hT in_Indx hown hK.1 hP 0 rfl rfl 4 (by decide) (hT _ tw_66) (fun _ h => h) rfl d_Indx_append_51 ?_
    refine lv_aload_n hx hb d_Indx_append_54 rfl (lv_at hl 0 rfl) ?_
    refine va_get (ci := 3) (C := R_Indx) (T := F_Indx) (N := 8) hx hb hT in_Indx hown hK.1 hP 0 rfl rfl 5 (by decide) (hT _ tw_68) (fun _ h => h) rfl d_Indx_append_55 ?_
    refine lv_iload hx hb d_Indx_append_58 (lv_at hl 5 rfl) ?_
    refine bk_iast hx hb hK.1 hP hD hS 5 0 rfl rfl cn (by omega) (by decide) d_Indx_append_60 (fun H locs hP hD hS => ?_)
    have hP : va_P D classes ([(h, .inr (3, [.ref qr, .ref qp, .ref qe, .ref qn, .ref qs, .int (iI (cn : Int)), .ref qc, .int (iI (cc : Int))])), (qr, ar cI 24 (bU RF cn x1)), (qp, ar cI 24 (bU PO cn x2)), (qe, ar cI 24 (bU EN cn x3)), (qn, ar cI 24 (bU BN cn x4)), (qs, ar cI 24 (bU ST cn x5)), (qc, ar cI 24 CH)]) H := hP
    have hD : va_D A ([(h, .inr (3, [.ref qr, .ref qp, .ref qe, .ref qn, .ref qs, .int (iI (cn : Int)), .ref qc, .int (iI (cc : Int))])), (qr, ar cI 24 (bU RF cn x1)), (qp, ar cI 24 (bU PO cn x2)), (qe, ar cI 24 (bU EN cn x3)), (qn, ar cI 24 (bU BN cn x4)), (qs, ar cI 24 (bU ST cn x5)), (qc, ar cI 24 CH)]) := hD
    refine lv_aload_n hx hb d_Indx_append_61 rfl (lv_at hl 0 rfl) ?_
    refine lv_dup hx hb d_Indx_append_62 rfl ?_
    refine va_get (ci := 3) (C := R_Indx) (T := F_Indx) (N := 8) hx hb hT in_Indx hown hK.1 hP 0 rfl rfl 5 (by decide) (hT _ tw_68) (fun _ h => h) rfl d_Indx_append_63 ?_
    refine lv_dup_x1 hx hb d_Indx_append_66 rfl rfl ?_
    refine lv_iconst (v := iI 1) hx hb d_Indx_append_67 rfl ?_
    refine bk_add hx hb d_Indx_append_68 ?_
    refine bk_top (y := iI ((cn + 1 : Nat) : Int)) (congrArg iI (by omega)) ?_
    refine va_put (ci := 3) (v := .int (iI ((cn + 1 : Nat) : Int))) (ty := .int) (C := R_Indx) (T := F_Indx) (N := 8) hx hb hT in_Indx t_Indx to_Indx n_Indx hown hK.1 hP hD hS 0 rfl rfl 5 (by decide) (hT _ tw_68) (fun _ h => h) rfl (by decide +kernel) rfl rfl (ble_lt rfl) d_Indx_append_69 (fun H locs hP hD hS => ?_)
    have hP : va_P D classes ([(h, .inr (3, [.ref qr, .ref qp, .ref qe, .ref qn, .ref qs, .int (iI ((cn + 1 : Nat) : Int)), .ref qc, .int (iI (cc : Int))])), (qr, ar cI 24 (bU RF cn x1)), (qp, ar cI 24 (bU PO cn x2)), (qe, ar cI 24 (bU EN cn x3)), (qn, ar cI 24 (bU BN cn x4)), (qs, ar cI 24 (bU ST cn x5)), (qc, ar cI 24 CH)]) H := hP
    have hD : va_D A ([(h, .inr (3, [.ref qr, .ref qp, .ref qe, .ref qn, .ref qs, .int (iI ((cn + 1 : Nat) : Int)), .ref qc, .int (iI (cc : Int))])), (qr, ar cI 24 (bU RF cn x1)), (qp, ar cI 24 (bU PO cn x2)), (qe, ar cI 24 (bU EN cn x3)), (qn, ar cI 24 (bU BN cn x4)), (qs, ar cI 24 (bU ST cn x5)), (qc, ar cI 24 CH)]) := hD
    exact bk_reti (r := (cn : Int)) hx hb hr rfl hlk hAe hQ hS () rfl hP hD d_Indx_append_72
  · skip
    exact absurd c4 (by omega)
abbrev rm_Indx_overlaps : Room := { frames := 0, cells := 0, slots := 0, locals := 0 }
set_option maxRecDepth 100000 in
set_option maxHeartbeats 4000000 in
theorem c_Indx_overlaps (l : Launch) (D : va_G) (cI cO : ClassId) (h qr qp qe qn qs qc : Nat) (RF PO EN BN ST CH : Nat → Int) (cn cc : Nat) (i : Nat) (b d : Int) (hcn : cn ≤ 24) (hRF : ∀ i, i < cn → 0 ≤ RF i ∧ RF i ≤ 1) (hPO : ∀ i, i < cn → 0 ≤ PO i ∧ PO i ≤ 4095) (hEN : ∀ i, i < cn → 0 ≤ EN i ∧ EN i ≤ 4096) (hBN : ∀ i, i < cn → 0 ≤ BN i ∧ BN i ≤ 72) (hi : i < cn) (hb1 : -2147483648 ≤ b ∧ b < 2147483648) (hd1 : -2147483648 ≤ d ∧ d < 2147483648) : Mi l y_Indx_overlaps b_Indx_overlaps 4 .boolean rm_Indx_overlaps D cI cO [.ref h, .int (iI (i : Int)), .int (iI b), .int (iI d)] ([(h, .inr (3, [.ref qr, .ref qp, .ref qe, .ref qn, .ref qs, .int (iI (cn : Int)), .ref qc, .int (iI (cc : Int))])), (qr, ar cI 24 RF), (qp, ar cI 24 PO), (qe, ar cI 24 EN), (qn, ar cI 24 BN), (qs, ar cI 24 ST), (qc, ar cI 24 CH)]) (fun (r : Int) (_ : Unit) => ((PO i < d ∧ b < EN i) ∧ r = 1) ∨ (¬ (PO i < d ∧ b < EN i) ∧ r = 0)) (fun (_ : Unit) => [(h, .inr (3, [.ref qr, .ref qp, .ref qe, .ref qn, .ref qs, .int (iI (cn : Int)), .ref qc, .int (iI (cc : Int))])), (qr, ar cI 24 RF), (qp, ar cI 24 PO), (qe, ar cI 24 EN), (qn, ar cI 24 BN), (qs, ar cI 24 ST), (qc, ar cI 24 CH)]) 0 0 := by
  refine bk_start (by decide) (ble_le rfl) ?_
  intro p e s m args below meth c A ls Q hx hb hr hml hlk hown hnm hT hK hA hAe hQ hP hD hS hl
  have hown : s.vm.findClass "BinnedReads$Index" = some m.cls := hown
  have hl : lv_has ls 4 [(0, .ref h), (1, .int (iI (i : Int))), (2, .int (iI b)), (3, .int (iI d))] := hl
  have h1 := hPO i hi
  have h2 := hEN i hi
  refine lv_aload_n hx hb d_Indx_overlaps_0 rfl (lv_at hl 0 rfl) ?_
  refine va_get (ci := 3) (C := R_Indx) (T := F_Indx) (N := 8) hx hb hT in_Indx hown hK.1 hP 0 rfl rfl 1 (by decide) (hT _ tw_63) (fun _ h => h) rfl d_Indx_overlaps_1 ?_
  refine lv_iload_n hx hb d_Indx_overlaps_4 rfl (lv_at hl 1 rfl) ?_
  refine bk_iald hx hb hK.1 hP 2 0 rfl rfl i (by omega) (by decide) d_Indx_overlaps_5 ?_
  refine lv_iload_n hx hb d_Indx_overlaps_6 rfl (lv_at hl 3 rfl) ?_
  refine bk_icmp_ge (tgt := 24) hx hb d_Indx_overlaps_7 (by decide) (by omega) (by omega) (fun c7 => ?_) (fun c7 => ?_)
  · skip
    refine lv_iconst (v := iI 0) hx hb d_Indx_overlaps_24 rfl ?_
    exact bk_reti (r := 0) hx hb hr iI_nar0 hlk hAe hQ hS () (by omega) hP hD d_Indx_overlaps_25
  · skip
    refine lv_iload_n hx hb d_Indx_overlaps_10 rfl (lv_at hl 2 rfl) ?_
    refine lv_aload_n hx hb d_Indx_overlaps_11 rfl (lv_at hl 0 rfl) ?_
    refine va_get (ci := 3) (C := R_Indx) (T := F_Indx) (N := 8) hx hb hT in_Indx hown hK.1 hP 0 rfl rfl 2 (by decide) (hT _ tw_64) (fun _ h => h) rfl d_Indx_overlaps_12 ?_
    refine lv_iload_n hx hb d_Indx_overlaps_15 rfl (lv_at hl 1 rfl) ?_
    refine bk_iald hx hb hK.1 hP 3 0 rfl rfl i (by omega) (by decide) d_Indx_overlaps_16 ?_
    refine bk_icmp_ge (tgt := 24) hx hb d_Indx_overlaps_17 (by decide) (by omega) (by omega) (fun c17 => ?_) (fun c17 => ?_)
    · skip
      refine lv_iconst (v := iI 0) hx hb d_Indx_overlaps_24 rfl ?_
      exact bk_reti (r := 0) hx hb hr iI_nar0 hlk hAe hQ hS () (by omega) hP hD d_Indx_overlaps_25
    · skip
      refine lv_iconst (v := iI 1) hx hb d_Indx_overlaps_20 rfl ?_
      refine lv_goto (tgt := 25) hx hb d_Indx_overlaps_21 (by decide) ?_
      exact bk_reti (r := 1) hx hb hr iI_nar1 hlk hAe hQ hS () (by omega) hP hD d_Indx_overlaps_25
abbrev rm_Indx_firstEndingAfter : Room := { frames := 0, cells := 0, slots := 0, locals := 0 }
set_option maxRecDepth 100000 in
set_option maxHeartbeats 4000000 in
theorem c_Indx_firstEndingAfter (l : Launch) (D : va_G) (cI cO : ClassId) (h qr qp qe qn qs qc : Nat) (RF PO EN BN ST CH : Nat → Int) (cn cc : Nat) (a b : Int) (hcn : cn ≤ 24) (hRF : ∀ i, i < cn → 0 ≤ RF i ∧ RF i ≤ 1) (hPO : ∀ i, i < cn → 0 ≤ PO i ∧ PO i ≤ 4095) (hEN : ∀ i, i < cn → 0 ≤ EN i ∧ EN i ≤ 4096) (hBN : ∀ i, i < cn → 0 ≤ BN i ∧ BN i ≤ 72) (ha : -2147483648 ≤ a ∧ a < 2147483648) (hb1 : -2147483648 ≤ b ∧ b < 2147483648) : Mi l y_Indx_firstEndingAfter b_Indx_firstEndingAfter 4 .int rm_Indx_firstEndingAfter D cI cO [.ref h, .int (iI a), .int (iI b)] ([(h, .inr (3, [.ref qr, .ref qp, .ref qe, .ref qn, .ref qs, .int (iI (cn : Int)), .ref qc, .int (iI (cc : Int))])), (qr, ar cI 24 RF), (qp, ar cI 24 PO), (qe, ar cI 24 EN), (qn, ar cI 24 BN), (qs, ar cI 24 ST), (qc, ar cI 24 CH)]) (fun (r : Int) (j : Nat) => r = (j : Int) ∧ j ≤ cn ∧ (∀ z, z < j → ¬ (RF z = a ∧ b < EN z)) ∧ (j < cn → RF j = a ∧ b < EN j)) (fun (j : Nat) => [(h, .inr (3, [.ref qr, .ref qp, .ref qe, .ref qn, .ref qs, .int (iI (cn : Int)), .ref qc, .int (iI (cc : Int))])), (qr, ar cI 24 RF), (qp, ar cI 24 PO), (qe, ar cI 24 EN), (qn, ar cI 24 BN), (qs, ar cI 24 ST), (qc, ar cI 24 CH)]) 0 0 := by
  refine bk_start (by decide) (ble_le rfl) ?_
  intro p e s m args below meth c A ls Q hx hb hr hml hlk hown hnm hT hK hA hAe hQ hP hD hS hl
  have hown : s.vm.findClass "BinnedReads$Index" = some m.cls := hown
  have hl : lv_has ls 4 [(0, .ref h), (1, .int (iI a)), (2, .int (iI b))] := hl
  refine lv_iconst (v := iI 0) hx hb d_Indx_firstEndingAfter_0 rfl ?_
  refine lv_istore_n hx hb d_Indx_firstEndingAfter_1 rfl hl (by decide) rfl (fun ls hl => ?_)
  have hl : lv_has ls 4 [(3, .int (iI 0)), (0, .ref h), (1, .int (iI a)), (2, .int (iI b))] := hl
  have cut2 : ∀ (N0 : Nat) (i : Nat) (H : Heap) (locs : List Loc) (ls : Array Slot), cn - i = N0 → (i ≤ cn) → (∀ z, z < i → ¬ (RF z = a ∧ b < EN z)) → lv_has ls 4 [(0, .ref h), (1, .int (iI a)), (2, .int (iI b)), (3, .int (iI (i : Int)))] → va_P D classes ([(h, .inr (3, [.ref qr, .ref qp, .ref qe, .ref qn, .ref qs, .int (iI (cn : Int)), .ref qc, .int (iI (cc : Int))])), (qr, ar cI 24 RF), (qp, ar cI 24 PO), (qe, ar cI 24 EN), (qn, ar cI 24 BN), (qs, ar cI 24 ST), (qc, ar cI 24 CH)]) H → va_D A ([(h, .inr (3, [.ref qr, .ref qp, .ref qe, .ref qn, .ref qs, .int (iI (cn : Int)), .ref qc, .int (iI (cc : Int))])), (qr, ar cI 24 RF), (qp, ar cI 24 PO), (qe, ar cI 24 EN), (qn, ar cI 24 BN), (qs, ar cI 24 ST), (qc, ar cI 24 CH)]) → va_S A s.heap H locs → W p l e rm_Indx_firstEndingAfter s m args below meth c H locs 0 0 Q (F0 m 2 ls []) := by
    intro N0
    induction N0 using Nat.strongRecOn with
    | _ N0 ih2 =>
      intro i H locs ls hN2 hi hno hl hP hD hS
      refine lv_iload_n hx hb d_Indx_firstEndingAfter_2 rfl (lv_at hl 3 rfl) ?_
      refine lv_aload_n hx hb d_Indx_firstEndingAfter_3 rfl (lv_at hl 0 rfl) ?_
      refine va_get (ci := 3) (C := R_Indx) (T := F_Indx) (N := 8) hx hb hT in_Indx hown hK.1 hP 0 rfl rfl 5 (by decide) (hT _ tw_68) (fun _ h => h) rfl d_Indx_firstEndingAfter_4 ?_
      refine bk_icmp_ge (tgt := 38) hx hb d_Indx_firstEndingAfter_7 (by decide) (by omega) (by omega) (fun c7 => ?_) (fun c7 => ?_)
      · skip
        refine lv_aload_n hx hb d_Indx_firstEndingAfter_38 rfl (lv_at hl 0 rfl) ?_
        refine va_get (ci := 3) (C := R_Indx) (T := F_Indx) (N := 8) hx hb hT in_Indx hown hK.1 hP 0 rfl rfl 5 (by decide) (hT _ tw_68) (fun _ h => h) rfl d_Indx_firstEndingAfter_39 ?_
        exact bk_reti (r := (cn : Int)) hx hb hr rfl hlk hAe hQ hS i (⟨by omega, hi, hno, fun q => by omega⟩) hP hD d_Indx_firstEndingAfter_42
      · skip
        have h1 := hRF i (by omega)
        have h2 := hEN i (by omega)
        refine lv_aload_n hx hb d_Indx_firstEndingAfter_10 rfl (lv_at hl 0 rfl) ?_
        refine va_get (ci := 3) (C := R_Indx) (T := F_Indx) (N := 8) hx hb hT in_Indx hown hK.1 hP 0 rfl rfl 0 (by decide) (hT _ tw_62) (fun _ h => h) rfl d_Indx_firstEndingAfter_11 ?_
        refine lv_iload_n hx hb d_Indx_firstEndingAfter_14 rfl (lv_at hl 3 rfl) ?_
        refine bk_iald hx hb hK.1 hP 1 0 rfl rfl i (by omega) (by decide) d_Indx_firstEndingAfter_15 ?_
        refine lv_iload_n hx hb d_Indx_firstEndingAfter_16 rfl (lv_at hl 1 rfl) ?_
        refine bk_icmp_ne (tgt := 32) hx hb d_Indx_firstEndingAfter_17 (by decide) (by omega) (by omega) (fun c17 => ?_) (fun c17 => ?_)
        · skip
          refine lv_iinc (k := 3) (v := iI ((i + 1 : Nat) : Int)) hx hb d_Indx_firstEndingAfter_32 hl rfl ((iI_add _ _).trans (congrArg iI (by omega))) (by decide) rfl (fun ls hl => ?_)
          have hl : lv_has ls 4 [(3, .int (iI ((i + 1 : Nat) : Int))), (0, .ref h), (1, .int (iI a)), (2, .int (iI b))] := hl
          refine lv_goto (tgt := 2) hx hb d_Indx_firstEndingAfter_35 (by decide) ?_
          exact ih2 (cn - (i + 1)) (by omega) (i + 1) _ _ _ rfl (by omega) (fun z hz => by by_cases e1 : z = i; (subst e1; omega); exact hno z (by omega)) (lv_sub hl [1, 2, 3, 0] rfl) hP hD hS
        · skip
          refine lv_aload_n hx hb d_Indx_firstEndingAfter_20 rfl (lv_at hl 0 rfl) ?_
          refine va_get (ci := 3) (C := R_Indx) (T := F_Indx) (N := 8) hx hb hT in_Indx hown hK.1 hP 0 rfl rfl 2 (by decide) (hT _ tw_64) (fun _ h => h) rfl d_Indx_firstEndingAfter_21 ?_
          refine lv_iload_n hx hb d_Indx_firstEndingAfter_24 rfl (lv_at hl 3 rfl) ?_
          refine bk_iald hx hb hK.1 hP 3 0 rfl rfl i (by omega) (by decide) d_Indx_firstEndingAfter_25 ?_
          refine lv_iload_n hx hb d_Indx_firstEndingAfter_26 rfl (lv_at hl 2 rfl) ?_
          refine bk_icmp_le (tgt := 32) hx hb d_Indx_firstEndingAfter_27 (by decide) (by omega) (by omega) (fun c27 => ?_) (fun c27 => ?_)
          · skip
            refine lv_iinc (k := 3) (v := iI ((i + 1 : Nat) : Int)) hx hb d_Indx_firstEndingAfter_32 hl rfl ((iI_add _ _).trans (congrArg iI (by omega))) (by decide) rfl (fun ls hl => ?_)
            have hl : lv_has ls 4 [(3, .int (iI ((i + 1 : Nat) : Int))), (0, .ref h), (1, .int (iI a)), (2, .int (iI b))] := hl
            refine lv_goto (tgt := 2) hx hb d_Indx_firstEndingAfter_35 (by decide) ?_
            exact ih2 (cn - (i + 1)) (by omega) (i + 1) _ _ _ rfl (by omega) (fun z hz => by by_cases e1 : z = i; (subst e1; omega); exact hno z (by omega)) (lv_sub hl [1, 2, 3, 0] rfl) hP hD hS
          · skip
            refine lv_iload_n hx hb d_Indx_firstEndingAfter_30 rfl (lv_at hl 3 rfl) ?_
            exact bk_reti (r := (i : Int)) hx hb hr rfl hlk hAe hQ hS i (⟨rfl, hi, hno, fun _ => by omega⟩) hP hD d_Indx_firstEndingAfter_31
  exact cut2 _ 0 _ _ _ rfl (by omega) (fun z hz => absurd hz (Nat.not_lt_zero z)) (lv_sub hl [1, 2, 3, 0] rfl) hP hD hS
abbrev rm_Indx_choose : Room := { frames := 1, cells := 0, slots := 0, locals := 24 }
set_option maxRecDepth 100000 in
set_option maxHeartbeats 4000000 in
theorem c_Indx_choose (l : Launch) (D : va_G) (cI cO : ClassId) (h qr qp qe qn qs qc : Nat) (RF PO EN BN ST CH : Nat → Int) (cn cc : Nat) (a b d : Int) (hcn : cn ≤ 24) (hRF : ∀ i, i < cn → 0 ≤ RF i ∧ RF i ≤ 1) (hPO : ∀ i, i < cn → 0 ≤ PO i ∧ PO i ≤ 4095) (hEN : ∀ i, i < cn → 0 ≤ EN i ∧ EN i ≤ 4096) (hBN : ∀ i, i < cn → 0 ≤ BN i ∧ BN i ≤ 72) (ha : 0 ≤ a ∧ a ≤ 1) (hb1 : 0 ≤ b ∧ b ≤ 4096) (hd1 : 0 ≤ d ∧ d ≤ 4096) : Mv l y_Indx_choose b_Indx_choose 6 rm_Indx_choose D cI cO [.ref h, .int (iI a), .int (iI b), .int (iI d)] ([(h, .inr (3, [.ref qr, .ref qp, .ref qe, .ref qn, .ref qs, .int (iI (cn : Int)), .ref qc, .int (iI (cc : Int))])), (qr, ar cI 24 RF), (qp, ar cI 24 PO), (qe, ar cI 24 EN), (qn, ar cI 24 BN), (qs, ar cI 24 ST), (qc, ar cI 24 CH)]) (fun (u : Nat × (Nat → Int) × Nat) => u.1 ≤ cn ∧ (∀ z, z < u.1 → ¬ (RF z = a ∧ 64 * (b / 64) < EN z)) ∧ (u.1 < cn → RF u.1 = a ∧ 64 * (b / 64) < EN u.1) ∧ u.2.2 = (selN (fun z => decide (RF z = a ∧ binB (BN z) < d ∧ b < binE (BN z))) u.1 cn).length ∧ holdsL u.2.1 (selN (fun z => decide (RF z = a ∧ binB (BN z) < d ∧ b < binE (BN z))) u.1 cn)) (fun (u : Nat × (Nat → Int) × Nat) => [(h, .inr (3, [.ref qr, .ref qp, .ref qe, .ref qn, .ref qs, .int (iI (cn : Int)), .ref qc, .int (iI (u.2.2 : Int))])), (qr, ar cI 24 RF), (qp, ar cI 24 PO), (qe, ar cI 24 EN), (qn, ar cI 24 BN), (qs, ar cI 24 ST), (qc, ar cI 24 u.2.1)]) 0 0 := by
  refine bk_start (by decide) (ble_le rfl) ?_
  intro p e s m args below meth c A ls Q hx hb hr hml hlk hown hnm hT hK hA hAe hQ hP hD hS hl
  have hown : s.vm.findClass "BinnedReads$Index" = some m.cls := hown
  have hl : lv_has ls 6 [(0, .ref h), (1, .int (iI a)), (2, .int (iI b)), (3, .int (iI d))] := hl
  refine lv_aload_n hx hb d_Indx_choose_0 rfl (lv_at hl 0 rfl) ?_
  refine lv_iconst (v := iI 0) hx hb d_Indx_choose_1 rfl ?_
  refine va_put (ci := 3) (v := .int (iI 0)) (ty := .int) (C := R_Indx) (T := F_Indx) (N := 8) hx hb hT in_Indx t_Indx to_Indx n_Indx hown hK.1 hP hD hS 0 rfl rfl 7 (by decide) (hT _ tw_72) (fun _ h => h) rfl (by decide +kernel) rfl rfl (ble_lt rfl) d_Indx_choose_2 (fun H locs hP hD hS => ?_)
  have hP : va_P D classes ([(h, .inr (3, [.ref qr, .ref qp, .ref qe, .ref qn, .ref qs, .int (iI (cn : Int)), .ref qc, .int (iI 0)])), (qr, ar cI 24 RF), (qp, ar cI 24 PO), (qe, ar cI 24 EN), (qn, ar cI 24 BN), (qs, ar cI 24 ST), (qc, ar cI 24 CH)]) H := hP
  have hD : va_D A ([(h, .inr (3, [.ref qr, .ref qp, .ref qe, .ref qn, .ref qs, .int (iI (cn : Int)), .ref qc, .int (iI 0)])), (qr, ar cI 24 RF), (qp, ar cI 24 PO), (qe, ar cI 24 EN), (qn, ar cI 24 BN), (qs, ar cI 24 ST), (qc, ar cI 24 CH)]) := hD
  refine lv_aload_n hx hb d_Indx_choose_5 rfl (lv_at hl 0 rfl) ?_
  refine lv_iload_n hx hb d_Indx_choose_6 rfl (lv_at hl 1 rfl) ?_
  refine lv_bipush (v := iI 64) hx hb d_Indx_choose_7 (by decide) ?_
  refine lv_iload_n hx hb d_Indx_choose_9 rfl (lv_at hl 2 rfl) ?_
  refine lv_bipush (v := iI 64) hx hb d_Indx_choose_10 (by decide) ?_
  refine bk_div hx hb d_Indx_choose_12 (by omega) (by omega) ?_
  refine bk_mul hx hb d_Indx_choose_13 ?_
  refine bk_fR (ws := [(h, .inr (3, [.ref qr, .ref qp, .ref qe, .ref qn, .ref qs, .int (iI (cn : Int)), .ref qc, .int (iI 0)])), (qr, ar cI 24 RF), (qp, ar cI 24 PO), (qe, ar cI 24 EN), (qn, ar cI 24 BN), (qs, ar cI 24 ST), (qc, ar cI 24 CH)]) (Wc := [(h, .inr (3, [.ref qr, .ref qp, .ref qe, .ref qn, .ref qs, .int (iI (cn : Int)), .ref qc, .int (iI 0)])), (qr, ar cI 24 RF), (qp, ar cI 24 PO), (qe, ar cI 24 EN), (qn, ar cI 24 BN), (qs, ar cI 24 ST), (qc, ar cI 24 CH)]) (fun _ => rfl) (bk_hs (X := [(h, .inr (3, [.ref qr, .ref qp, .ref qe, .ref qn, .ref qs, .int (iI (cn : Int)), .ref qc, .int (iI 0)])), (qr, ar cI 24 RF), (qp, ar cI 24 PO), (qe, ar cI 24 EN), (qn, ar cI 24 BN), (qs, ar cI 24 ST), (qc, ar cI 24 CH)]) (pl := []) (Wc := [(h, .inr (3, [.ref qr, .ref qp, .ref qe, .ref qn, .ref qs, .int (iI (cn : Int)), .ref qc, .int (iI 0)])), (qr, ar cI 24 RF), (qp, ar cI 24 PO), (qe, ar cI 24 EN), (qn, ar cI 24 BN), (qs, ar cI 24 ST), (qc, ar cI 24 CH)]) [0, 1, 2, 3, 4, 5, 6] rfl) hP hD hS hA (bk_rV (rest := []) hx hb hml hown hT hK (c_Indx_firstEndingAfter l D cI cO h qr qp qe qn qs qc RF PO EN BN ST CH cn 0 a (64 * (b / 64)) hcn hRF hPO hEN hBN (by omega) (by omega)) (bk_subP (X := [(h, .inr (3, [.ref qr, .ref qp, .ref qe, .ref qn, .ref qs, .int (iI (cn : Int)), .ref qc, .int (iI 0)])), (qr, ar cI 24 RF), (qp, ar cI 24 PO), (qe, ar cI 24 EN), (qn, ar cI 24 BN), (qs, ar cI 24 ST), (qc, ar cI 24 CH)]) (pl := []) (Wc := [(h, .inr (3, [.ref qr, .ref qp, .ref qe, .ref qn, .ref qs, .int (iI (cn : Int)), .ref qc, .int (iI 0)])), (qr, ar cI 24 RF), (qp, ar cI 24 PO), (qe, ar cI 24 EN), (qn, ar cI 24 BN), (qs, ar cI 24 ST), (qc, ar cI 24 CH)]) hP [0, 1, 2, 3, 4, 5, 6] rfl) (bk_subD (X := [(h, .inr (3, [.ref qr, .ref qp, .ref qe, .ref qn, .ref qs, .int (iI (cn : Int)), .ref qc, .int (iI 0)])), (qr, ar cI 24 RF), (qp, ar cI 24 PO), (qe, ar cI 24 EN), (qn, ar cI 24 BN), (qs, ar cI 24 ST), (qc, ar cI 24 CH)]) (pl := []) (Wc := [(h, .inr (3, [.ref qr, .ref qp, .ref qe, .ref qn, .ref qs, .int (iI (cn : Int)), .ref qc, .int (iI 0)])), (qr, ar cI 24 RF), (qp, ar cI 24 PO), (qe, ar cI 24 EN), (qn, ar cI 24 BN), (qs, ar cI 24 ST), (qc, ar cI 24 CH)]) hD [0, 1, 2, 3, 4, 5, 6] (by decide) rfl) 0 3 rfl rfl rfl tw_336 tw_338 ts_7 tw_4 tw_339 hd_Indx_firstEndingAfter ⟨rfl, rfl⟩ (by decide) hl.1 rfl (ble_le rfl) d_Indx_choose_14 (by decide)) (fun r14 u H locs hq hP hS => ?_)
  obtain ⟨j, rfl⟩ : ∃ z, z = u := ⟨_, rfl⟩
  have hq : r14 = (j : Int) ∧ j ≤ cn ∧ (∀ z, z < j → ¬ (RF z = a ∧ (64 * (b / 64)) < EN z)) ∧ (j < cn → RF j = a ∧ (64 * (b / 64)) < EN j) := hq
  obtain ⟨rfl, hj1, hj2, hj3⟩ := hq
  refine lv_istore hx hb d_Indx_choose_17 hl (by decide) rfl (fun ls hl => ?_)
  have hl : lv_has ls 6 [(4, .int (iI (j : Int))), (0, .ref h), (1, .int (iI a)), (2, .int (iI b)), (3, .int (iI d))] := hl
  refine lv_iload hx hb d_Indx_choose_19 (lv_at hl 0 rfl) ?_
  refine lv_istore hx hb d_Indx_choose_21 hl (by decide) rfl (fun ls hl => ?_)
  have hl : lv_has ls 6 [(5, .int (iI (j : Int))), (4, .int (iI (j : Int))), (0, .ref h), (1, .int (iI a)), (2, .int (iI b)), (3, .int (iI d))] := hl
  have cut23 : ∀ (N0 : Nat) (i : Nat) (C2 : Nat → Int) (mm : Nat) (H : Heap) (locs : List Loc) (ls : Array Slot), cn - i = N0 → (j ≤ i ∧ i ≤ cn) → (mm = (selN (fun z => decide (RF z = a ∧ binB (BN z) < d ∧ b < binE (BN z))) j i).length) → (holdsL C2 (selN (fun z => decide (RF z = a ∧ binB (BN z) < d ∧ b < binE (BN z))) j i)) → lv_has ls 6 [(0, .ref h), (1, .int (iI a)), (2, .int (iI b)), (3, .int (iI d)), (5, .int (iI (i : Int)))] → va_P D classes ([(h, .inr (3, [.ref qr, .ref qp, .ref qe, .ref qn, .ref qs, .int (iI (cn : Int)), .ref qc, .int (iI (mm : Int))])), (qr, ar cI 24 RF), (qp, ar cI 24 PO), (qe, ar cI 24 EN), (qn, ar cI 24 BN), (qs, ar cI 24 ST), (qc, ar cI 24 C2)]) H → va_D A ([(h, .inr (3, [.ref qr, .ref qp, .ref qe, .ref qn, .ref qs, .int (iI (cn : Int)), .ref qc, .int (iI (mm : Int))])), (qr, ar cI 24 RF), (qp, ar cI 24 PO), (qe, ar cI 24 EN), (qn, ar cI 24 BN), (qs, ar cI 24 ST), (qc, ar cI 24 C2)]) → va_S A s.heap H locs → W p l e rm_Indx_choose s m args below meth c H locs 0 0 Q (F0 m 23 ls []) := by
    intro N0
    induction N0 using Nat.strongRecOn with
    | _ N0 ih23 =>
      intro i C2 mm H locs ls hN23 hij hm hC hl hP hD hS
      have hsl := selN_len (P := fun z => decide (RF z = a ∧ binB (BN z) < d ∧ b < binE (BN z))) (lo := j) (n := i)
      refine lv_iload hx hb d_Indx_choose_23 (lv_at hl 4 rfl) ?_
      refine lv_aload_n hx hb d_Indx_choose_25 rfl (lv_at hl 0 rfl) ?_
      refine va_get (ci := 3) (C := R_Indx) (T := F_Indx) (N := 8) hx hb hT in_Indx hown hK.1 hP 0 rfl rfl 5 (by decide) (hT _ tw_68) (fun _ h => h) rfl d_Indx_choose_26 ?_
      refine bk_icmp_ge (tgt := 82) hx hb d_Indx_choose_29 (by decide) (by omega) (by omega) (fun c29 => ?_) (fun c29 => ?_)
      · skip
        exact bk_retv hx hb hr hlk hAe hQ hS (j, C2, mm) (by have e1 : i = cn := (by omega); subst e1; exact ⟨hj1, hj2, hj3, hm, hC⟩) hP hD d_Indx_choose_82
      · skip
        have h1 := hRF i (by omega)
        have h2 := hBN i (by omega)
        refine lv_aload_n hx hb d_Indx_choose_32 rfl (lv_at hl 0 rfl) ?_
        refine va_get (ci := 3) (C := R_Indx) (T := F_Indx) (N := 8) hx hb hT in_Indx hown hK.1 hP 0 rfl rfl 0 (by decide) (hT _ tw_62) (fun _ h => h) rfl d_Indx_choose_33 ?_
        refine lv_iload hx hb d_Indx_choose_36 (lv_at hl 4 rfl) ?_
        refine bk_iald hx hb hK.1 hP 1 0 rfl rfl i (by omega) (by decide) d_Indx_choose_38 ?_
        refine lv_iload_n hx hb d_Indx_choose_39 rfl (lv_at hl 1 rfl) ?_
        have cut76 : ∀ (C3 : Nat → Int) (m3 : Nat) (H : Heap) (locs : List Loc) (ls : Array Slot), (m3 = (selN (fun z => decide (RF z = a ∧ binB (BN z) < d ∧ b < binE (BN z))) j (i + 1)).length) → (holdsL C3 (selN (fun z => decide (RF z = a ∧ binB (BN z) < d ∧ b < binE (BN z))) j (i + 1))) → lv_has ls 6 [(0, .ref h), (1, .int (iI a)), (2, .int (iI b)), (3, .int (iI d)), (5, .int (iI (i : Int)))] → va_P D classes ([(h, .inr (3, [.ref qr, .ref qp, .ref qe, .ref qn, .ref qs, .int (iI (cn : Int)), .ref qc, .int (iI (m3 : Int))])), (qr, ar cI 24 RF), (qp, ar cI 24 PO), (qe, ar cI 24 EN), (qn, ar cI 24 BN), (qs, ar cI 24 ST), (qc, ar cI 24 C3)]) H → va_D A ([(h, .inr (3, [.ref qr, .ref qp, .ref qe, .ref qn, .ref qs, .int (iI (cn : Int)), .ref qc, .int (iI (m3 : Int))])), (qr, ar cI 24 RF), (qp, ar cI 24 PO), (qe, ar cI 24 EN), (qn, ar cI 24 BN), (qs, ar cI 24 ST), (qc, ar cI 24 C3)]) → va_S A s.heap H locs → W p l e rm_Indx_choose s m args below meth c H locs 0 0 Q (F0 m 76 ls []) := by
          intro C3 m3 H locs ls hm3 hC3 hl hP hD hS
          refine lv_iinc (k := 4) (v := iI ((i + 1 : Nat) : Int)) hx hb d_Indx_choose_76 hl rfl ((iI_add _ _).trans (congrArg iI (by omega))) (by decide) rfl (fun ls hl => ?_)
          have hl : lv_has ls 6 [(5, .int (iI ((i + 1 : Nat) : Int))), (0, .ref h), (1, .int (iI a)), (2, .int (iI b)), (3, .int (iI d))] := hl
          refine lv_goto (tgt := 23) hx hb d_Indx_choose_79 (by decide) ?_
          exact ih23 (cn - (i + 1)) (by omega) (i + 1) C3 m3 _ _ _ rfl (by omega) hm3 hC3 (lv_sub hl [1, 2, 3, 4, 0] rfl) hP hD hS
        refine bk_icmp_ne (tgt := 76) hx hb d_Indx_choose_40 (by decide) (by omega) (by omega) (fun c40 => ?_) (fun c40 => ?_)
        · skip
          have hPi : ¬ (fun z => decide (RF z = a ∧ binB (BN z) < d ∧ b < binE (BN z))) i = true := fun q => by have := of_decide_eq_true q; omega
          have hsn := selN_no (P := fun z => decide (RF z = a ∧ binB (BN z) < d ∧ b < binE (BN z))) (lo := j) (n := i) hPi
          exact cut76 C2 mm _ _ _ (by rw [hsn]; exact hm) (by rw [hsn]; exact hC) (lv_sub hl [0, 1, 2, 3, 4] rfl) hP hD hS
        · skip
          refine lv_aload_n hx hb d_Indx_choose_43 rfl (lv_at hl 0 rfl) ?_
          refine va_get (ci := 3) (C := R_Indx) (T := F_Indx) (N := 8) hx hb hT in_Indx hown hK.1 hP 0 rfl rfl 3 (by decide) (hT _ tw_65) (fun _ h => h) rfl d_Indx_choose_44 ?_
          refine lv_iload hx hb d_Indx_choose_47 (lv_at hl 4 rfl) ?_
          refine bk_iald hx hb hK.1 hP 4 0 rfl rfl i (by omega) (by decide) d_Indx_choose_49 ?_
          refine lv_iload_n hx hb d_Indx_choose_50 rfl (lv_at hl 2 rfl) ?_
          refine lv_iload_n hx hb d_Indx_choose_51 rfl (lv_at hl 3 rfl) ?_
          refine bk_fR (ws := [(h, .inr (3, [.ref qr, .ref qp, .ref qe, .ref qn, .ref qs, .int (iI (cn : Int)), .ref qc, .int (iI (mm : Int))])), (qr, ar cI 24 RF), (qp, ar cI 24 PO), (qe, ar cI 24 EN), (qn, ar cI 24 BN), (qs, ar cI 24 ST), (qc, ar cI 24 C2)]) (Wc := []) (fun _ => rfl) (bk_hs (X := [(h, .inr (3, [.ref qr, .ref qp, .ref qe, .ref qn, .ref qs, .int (iI (cn : Int)), .ref qc, .int (iI (mm : Int))])), (qr, ar cI 24 RF), (qp, ar cI 24 PO), (qe, ar cI 24 EN), (qn, ar cI 24 BN), (qs, ar cI 24 ST), (qc, ar cI 24 C2)]) (pl := []) (Wc := []) [] rfl) hP hD hS hA (bk_rSN (rest := []) (host := "BinnedReads") hx hb hml hown hT hK (c_BR_binMeets l D cI cO (BN i) b d (hBN i (by omega)) hb1 hd1) (bk_subP (X := [(h, .inr (3, [.ref qr, .ref qp, .ref qe, .ref qn, .ref qs, .int (iI (cn : Int)), .ref qc, .int (iI (mm : Int))])), (qr, ar cI 24 RF), (qp, ar cI 24 PO), (qe, ar cI 24 EN), (qn, ar cI 24 BN), (qs, ar cI 24 ST), (qc, ar cI 24 C2)]) (pl := []) (Wc := []) hP [] rfl) (bk_subD (X := [(h, .inr (3, [.ref qr, .ref qp, .ref qe, .ref qn, .ref qs, .int (iI (cn : Int)), .ref qc, .int (iI (mm : Int))])), (qr, ar cI 24 RF), (qp, ar cI 24 PO), (qe, ar cI 24 EN), (qn, ar cI 24 BN), (qs, ar cI 24 ST), (qc, ar cI 24 C2)]) (pl := []) (Wc := []) hD [] (by decide) rfl) (by decide) tw_341 tw_1 tw_342 hd_BR_binMeets.2 ⟨rfl, rfl⟩ (by decide) hl.1 rfl (ble_le rfl) d_Indx_choose_52 (by decide)) (fun r52 u H locs hq hP hS => ?_)
          have hq : ((binB (BN i) < d ∧ b < binE (BN i)) ∧ r52 = 1) ∨ (¬ (binB (BN i) < d ∧ b < binE (BN i)) ∧ r52 = 0) := hq
          refine bk_if_eq (tgt := 76) hx hb d_Indx_choose_55 (by decide) (by omega) (fun c55 => ?_) (fun c55 => ?_)
          · skip
            have hPi : ¬ (fun z => decide (RF z = a ∧ binB (BN z) < d ∧ b < binE (BN z))) i = true := fun q => by have := of_decide_eq_true q; omega
            have hsn := selN_no (P := fun z => decide (RF z = a ∧ binB (BN z) < d ∧ b < binE (BN z))) (lo := j) (n := i) hPi
            exact cut76 C2 mm _ _ _ (by rw [hsn]; exact hm) (by rw [hsn]; exact hC) (lv_sub hl [0, 1, 2, 3, 4] rfl) hP hD hS
          · skip
            have hPi : (fun z => decide (RF z = a ∧ binB (BN z) < d ∧ b < binE (BN z))) i = true := decide_eq_true (by omega)
            have hsy := selN_yes (lo := j) (n := i) (P := fun z => decide (RF z = a ∧ binB (BN z) < d ∧ b < binE (BN z))) hij.1 hPi
            refine lv_aload_n hx hb d_Indx_choose_58 rfl (lv_at hl 0 rfl) ?_
            refine va_get (ci := 3) (C := R_Indx) (T := F_Indx) (N := 8) hx hb hT in_Indx hown hK.1 hP 0 rfl rfl 6 (by decide) (hT _ tw_70) (fun _ h => h) rfl d_Indx_choose_59 ?_
            refine lv_aload_n hx hb d_Indx_choose_62 rfl (lv_at hl 0 rfl) ?_
            refine lv_dup hx hb d_Indx_choose_63 rfl ?_
            refine va_get (ci := 3) (C := R_Indx) (T := F_Indx) (N := 8) hx hb hT in_Indx hown hK.1 hP 0 rfl rfl 7 (by decide) (hT _ tw_72) (fun _ h => h) rfl d_Indx_choose_64 ?_
            refine lv_dup_x1 hx hb d_Indx_choose_67 rfl rfl ?_
            refine lv_iconst (v := iI 1) hx hb d_Indx_choose_68 rfl ?_
            refine bk_add hx hb d_Indx_choose_69 ?_
            refine bk_top (y := iI ((mm + 1 : Nat) : Int)) (congrArg iI (by omega)) ?_
            refine va_put (ci := 3) (v := .int (iI ((mm + 1 : Nat) : Int))) (ty := .int) (C := R_Indx) (T := F_Indx) (N := 8) hx hb hT in_Indx t_Indx to_Indx n_Indx hown hK.1 hP hD hS 0 rfl rfl 7 (by decide) (hT _ tw_72) (fun _ h => h) rfl (by decide +kernel) rfl rfl (ble_lt rfl) d_Indx_choose_70 (fun H locs hP hD hS => ?_)
            have hP : va_P D classes ([(h, .inr (3, [.ref qr, .ref qp, .ref qe, .ref qn, .ref qs, .int (iI (cn : Int)), .ref qc, .int (iI ((mm + 1 : Nat) : Int))])), (qr, ar cI 24 RF), (qp, ar cI 24 PO), (qe, ar cI 24 EN), (qn, ar cI 24 BN), (qs, ar cI 24 ST), (qc, ar cI 24 C2)]) H := hP
            have hD : va_D A ([(h, .inr (3, [.ref qr, .ref qp, .ref qe, .ref qn, .ref qs, .int (iI (cn : Int)), .ref qc, .int (iI ((mm + 1 : Nat) : Int))])), (qr, ar cI 24 RF), (qp, ar cI 24 PO), (qe, ar cI 24 EN), (qn, ar cI 24 BN), (qs, ar cI 24 ST), (qc, ar cI 24 C2)]) := hD
            refine lv_iload hx hb d_Indx_choose_73 (lv_at hl 4 rfl) ?_
            refine bk_iast hx hb hK.1 hP hD hS 6 0 rfl rfl mm (by omega) (by decide) d_Indx_choose_75 (fun H locs hP hD hS => ?_)
            have hP : va_P D classes ([(h, .inr (3, [.ref qr, .ref qp, .ref qe, .ref qn, .ref qs, .int (iI (cn : Int)), .ref qc, .int (iI ((mm + 1 : Nat) : Int))])), (qr, ar cI 24 RF), (qp, ar cI 24 PO), (qe, ar cI 24 EN), (qn, ar cI 24 BN), (qs, ar cI 24 ST), (qc, ar cI 24 (bU C2 mm (i : Int)))]) H := hP
            have hD : va_D A ([(h, .inr (3, [.ref qr, .ref qp, .ref qe, .ref qn, .ref qs, .int (iI (cn : Int)), .ref qc, .int (iI ((mm + 1 : Nat) : Int))])), (qr, ar cI 24 RF), (qp, ar cI 24 PO), (qe, ar cI 24 EN), (qn, ar cI 24 BN), (qs, ar cI 24 ST), (qc, ar cI 24 (bU C2 mm (i : Int)))]) := hD
            exact cut76 (bU C2 mm (i : Int)) (mm + 1) _ _ _ (by rw [hsy, List.length_append, hm]; rfl) (by rw [hsy, hm]; exact holdsL_push hC) (lv_sub hl [0, 1, 2, 3, 4] rfl) hP hD hS
  exact cut23 _ j CH 0 _ _ _ rfl (by omega) (by rw [selN_lo (Nat.le_refl _)]; rfl) (by rw [selN_lo (Nat.le_refl _)]; exact holdsL_nil) (lv_sub hl [2, 3, 4, 5, 0] rfl) hP hD hS
abbrev rm_Strm_empty : Room := { frames := 0, cells := 0, slots := 0, locals := 0 }
set_option maxRecDepth 100000 in
set_option maxHeartbeats 4000000 in
theorem c_Strm_empty (l : Launch) (D : va_G) (cI cO : ClassId) (hs qy : Nat) (SB : Nat → Int) (sl : Nat) : Mv l y_Strm_empty b_Strm_empty 1 rm_Strm_empty D cI cO [.ref hs] ([(hs, .inr (4, [.ref qy, .int (iI (sl : Int))])), (qy, ar cI 528 SB)]) (fun (_ : Unit) => True) (fun (_ : Unit) => [(hs, .inr (4, [.ref qy, .int (iI 0)])), (qy, ar cI 528 SB)]) 0 0 := by
  refine bk_start (by decide) (ble_le rfl) ?_
  intro p e s m args below meth c A ls Q hx hb hr hml hlk hown hnm hT hK hA hAe hQ hP hD hS hl
  have hown : s.vm.findClass "BinnedReads$Stream" = some m.cls := hown
  have hl : lv_has ls 1 [(0, .ref hs)] := hl
  refine lv_aload_n hx hb d_Strm_empty_0 rfl (lv_at hl 0 rfl) ?_
  refine lv_iconst (v := iI 0) hx hb d_Strm_empty_1 rfl ?_
  refine va_put (ci := 4) (v := .int (iI 0)) (ty := .int) (C := R_Strm) (T := F_Strm) (N := 2) hx hb hT in_Strm t_Strm to_Strm n_Strm hown hK.1 hP hD hS 0 rfl rfl 1 (by decide) (hT _ tw_48) (fun _ h => h) rfl (by decide +kernel) rfl rfl (ble_lt rfl) d_Strm_empty_2 (fun H locs hP hD hS => ?_)
  have hP : va_P D classes ([(hs, .inr (4, [.ref qy, .int (iI 0)])), (qy, ar cI 528 SB)]) H := hP
  have hD : va_D A ([(hs, .inr (4, [.ref qy, .int (iI 0)])), (qy, ar cI 528 SB)]) := hD
  exact bk_retv hx hb hr hlk hAe hQ hS () trivial hP hD d_Strm_empty_5
abbrev rm_Strm_rowLength : Room := { frames := 0, cells := 0, slots := 0, locals := 0 }
set_option maxRecDepth 100000 in
set_option maxHeartbeats 4000000 in
theorem c_Strm_rowLength (l : Launch) (D : va_G) (cI cO : ClassId) (hs qy : Nat) (SB : Nat → Int) (sl : Nat) (i : Nat) (hi : i < sl ∧ sl ≤ 528) : Mi l y_Strm_rowLength b_Strm_rowLength 2 .int rm_Strm_rowLength D cI cO [.ref hs, .int (iI (i : Int))] ([(hs, .inr (4, [.ref qy, .int (iI (sl : Int))])), (qy, ar cI 528 SB)]) (fun (r : Int) (_ : Unit) => r = SB i + 1) (fun (_ : Unit) => [(hs, .inr (4, [.ref qy, .int (iI (sl : Int))])), (qy, ar cI 528 SB)]) 0 0 := by
  refine bk_start (by decide) (ble_le rfl) ?_
  intro p e s m args below meth c A ls Q hx hb hr hml hlk hown hnm hT hK hA hAe hQ hP hD hS hl
  have hown : s.vm.findClass "BinnedReads$Stream" = some m.cls := hown
  have hl : lv_has ls 2 [(0, .ref hs), (1, .int (iI (i : Int)))] := hl
  refine lv_iload_n hx hb d_Strm_rowLength_0 rfl (lv_at hl 1 rfl) ?_
  refine bk_if_lt (tgt := 12) hx hb d_Strm_rowLength_1 (by decide) (by omega) (fun c1 => ?_) (fun c1 => ?_)
  · skip
    exact absurd c1 (by omega)
  · skip
    refine lv_iload_n hx hb d_Strm_rowLength_4 rfl (lv_at hl 1 rfl) ?_
    refine lv_aload_n hx hb d_Strm_rowLength_5 rfl (lv_at hl 0 rfl) ?_
    refine va_get (ci := 4) (C := R_Strm) (T := F_Strm) (N := 2) hx hb hT in_Strm hown hK.1 hP 0 rfl rfl 1 (by decide) (hT _ tw_48) (fun _ h => h) rfl d_Strm_rowLength_6 ?_
    refine bk_icmp_lt (tgt := 16) hx hb d_Strm_rowLength_9 (by decide) (by omega) (by omega) (fun c9 => ?_) (fun c9 => ?_)
    · skip
      refine lv_aload_n hx hb d_Strm_rowLength_16 rfl (lv_at hl 0 rfl) ?_
      refine va_get (ci := 4) (C := R_Strm) (T := F_Strm) (N := 2) hx hb hT in_Strm hown hK.1 hP 0 rfl rfl 0 (by decide) (hT _ tw_46) (fun _ h => h) rfl d_Strm_rowLength_17 ?_
      refine lv_iload_n hx hb d_Strm_rowLength_20 rfl (lv_at hl 1 rfl) ?_
      refine bk_iald hx hb hK.1 hP 1 0 rfl rfl i (by omega) (by decide) d_Strm_rowLength_21 ?_
      refine lv_iconst (v := iI 1) hx hb d_Strm_rowLength_22 rfl ?_
      refine bk_add hx hb d_Strm_rowLength_23 ?_
      exact bk_reti (r := SB i + 1) hx hb hr rfl hlk hAe hQ hS () rfl hP hD d_Strm_rowLength_24
    · skip
      exact absurd c9 (by omega)
abbrev rm_Strm_appendByte : Room := { frames := 0, cells := 0, slots := 0, locals := 0 }
set_option maxRecDepth 100000 in
set_option maxHeartbeats 4000000 in
theorem c_Strm_appendByte (l : Launch) (D : va_G) (cI cO : ClassId) (hs qy : Nat) (SB : Nat → Int) (sl : Nat) (v : Int) (hsl : sl < 528) : Mv l y_Strm_appendByte b_Strm_appendByte 2 rm_Strm_appendByte D cI cO [.ref hs, .int (iI v)] ([(hs, .inr (4, [.ref qy, .int (iI (sl : Int))])), (qy, ar cI 528 SB)]) (fun (_ : Unit) => True) (fun (_ : Unit) => [(hs, .inr (4, [.ref qy, .int (iI ((sl + 1 : Nat) : Int))])), (qy, ar cI 528 (bU SB sl v))]) 0 0 := by
  refine bk_start (by decide) (ble_le rfl) ?_
  intro p e s m args below meth c A ls Q hx hb hr hml hlk hown hnm hT hK hA hAe hQ hP hD hS hl
  have hown : s.vm.findClass "BinnedReads$Stream" = some m.cls := hown
  have hl : lv_has ls 2 [(0, .ref hs), (1, .int (iI v))] := hl
  refine lv_aload_n hx hb d_Strm_appendByte_0 rfl (lv_at hl 0 rfl) ?_
  refine va_get (ci := 4) (C := R_Strm) (T := F_Strm) (N := 2) hx hb hT in_Strm hown hK.1 hP 0 rfl rfl 1 (by decide) (hT _ tw_48) (fun _ h => h) rfl d_Strm_appendByte_1 ?_
  refine lv_aload_n hx hb d_Strm_appendByte_4 rfl (lv_at hl 0 rfl) ?_
  refine va_get (ci := 4) (C := R_Strm) (T := F_Strm) (N := 2) hx hb hT in_Strm hown hK.1 hP 0 rfl rfl 0 (by decide) (hT _ tw_46) (fun _ h => h) rfl d_Strm_appendByte_5 ?_
  refine va_alen (v := iI 528) hx hb hK.1 hP 1 0 rfl rfl (show Int32.ofNat 528 = iI 528 from by decide) d_Strm_appendByte_8 ?_
  refine bk_icmp_ge (tgt := 29) hx hb d_Strm_appendByte_9 (by decide) (by omega) (by omega) (fun c9 => ?_) (fun c9 => ?_)
  · skip
    exact absurd c9 (by omega)
  · skip
    refine lv_aload_n hx hb d_Strm_appendByte_12 rfl (lv_at hl 0 rfl) ?_
    refine va_get (ci := 4) (C := R_Strm) (T := F_Strm) (N := 2) hx hb hT in_Strm hown hK.1 hP 0 rfl rfl 0 (by decide) (hT _ tw_46) (fun _ h => h) rfl d_Strm_appendByte_13 ?_
    refine lv_aload_n hx hb d_Strm_appendByte_16 rfl (lv_at hl 0 rfl) ?_
    refine lv_dup hx hb d_Strm_appendByte_17 rfl ?_
    refine va_get (ci := 4) (C := R_Strm) (T := F_Strm) (N := 2) hx hb hT in_Strm hown hK.1 hP 0 rfl rfl 1 (by decide) (hT _ tw_48) (fun _ h => h) rfl d_Strm_appendByte_18 ?_
    refine lv_dup_x1 hx hb d_Strm_appendByte_21 rfl rfl ?_
    refine lv_iconst (v := iI 1) hx hb d_Strm_appendByte_22 rfl ?_
    refine bk_add hx hb d_Strm_appendByte_23 ?_
    refine bk_top (y := iI ((sl + 1 : Nat) : Int)) (congrArg iI (by omega)) ?_
    refine va_put (ci := 4) (v := .int (iI ((sl + 1 : Nat) : Int))) (ty := .int) (C := R_Strm) (T := F_Strm) (N := 2) hx hb hT in_Strm t_Strm to_Strm n_Strm hown hK.1 hP hD hS 0 rfl rfl 1 (by decide) (hT _ tw_48) (fun _ h => h) rfl (by decide +kernel) rfl rfl (ble_lt rfl) d_Strm_appendByte_24 (fun H locs hP hD hS => ?_)
    have hP : va_P D classes ([(hs, .inr (4, [.ref qy, .int (iI ((sl + 1 : Nat) : Int))])), (qy, ar cI 528 SB)]) H := hP
    have hD : va_D A ([(hs, .inr (4, [.ref qy, .int (iI ((sl + 1 : Nat) : Int))])), (qy, ar cI 528 SB)]) := hD
    refine lv_iload_n hx hb d_Strm_appendByte_27 rfl (lv_at hl 1 rfl) ?_
    refine bk_iast hx hb hK.1 hP hD hS 1 0 rfl rfl sl (by omega) (by decide) d_Strm_appendByte_28 (fun H locs hP hD hS => ?_)
    have hP : va_P D classes ([(hs, .inr (4, [.ref qy, .int (iI ((sl + 1 : Nat) : Int))])), (qy, ar cI 528 (bU SB sl v))]) H := hP
    have hD : va_D A ([(hs, .inr (4, [.ref qy, .int (iI ((sl + 1 : Nat) : Int))])), (qy, ar cI 528 (bU SB sl v))]) := hD
    exact bk_retv hx hb hr hlk hAe hQ hS () trivial hP hD d_Strm_appendByte_29
end
section
abbrev rm_Disk_empty : Room := { frames := 0, cells := 0, slots := 0, locals := 0 }
set_option maxRecDepth 100000 in
set_option maxHeartbeats 4000000 in
theorem c_Disk_empty (l : Launch) (D : va_G) (cI cO : ClassId) (hk qd qk : Nat) (DB KS : Nat → Int) (sz bc : Nat) (tn : Int) : Mv l y_Disk_empty b_Disk_empty 1 rm_Disk_empty D cI cO [.ref hk] ([(hk, .inr (0, [.ref qd, .ref qk, .int (iI (sz : Int)), .int (iI (bc : Int)), .int (iI tn)])), (qd, ar cI 693 DB), (qk, ar cI 15 KS)]) (fun (_ : Unit) => True) (fun (_ : Unit) => [(hk, .inr (0, [.ref qd, .ref qk, .int (iI 0), .int (iI 0), .int (iI (-1))])), (qd, ar cI 693 DB), (qk, ar cI 15 KS)]) 0 0 := by
  refine bk_start (by decide) (ble_le rfl) ?_
  intro p e s m args below meth c A ls Q hx hb hr hml hlk hown hnm hT hK hA hAe hQ hP hD hS hl
  have hown : s.vm.findClass "BinnedReads$Disk" = some m.cls := hown
  have hl : lv_has ls 1 [(0, .ref hk)] := hl
  refine lv_aload_n hx hb d_Disk_empty_0 rfl (lv_at hl 0 rfl) ?_
  refine lv_iconst (v := iI 0) hx hb d_Disk_empty_1 rfl ?_
  refine va_put (ci := 0) (v := .int (iI 0)) (ty := .int) (C := R_Disk) (T := F_Disk) (N := 5) hx hb hT in_Disk t_Disk to_Disk n_Disk hown hK.1 hP hD hS 0 rfl rfl 2 (by decide) (hT _ tw_99) (fun _ h => h) rfl (by decide +kernel) rfl rfl (ble_lt rfl) d_Disk_empty_2 (fun H locs hP hD hS => ?_)
  have hP : va_P D classes ([(hk, .inr (0, [.ref qd, .ref qk, .int (iI 0), .int (iI (bc : Int)), .int (iI tn)])), (qd, ar cI 693 DB), (qk, ar cI 15 KS)]) H := hP
  have hD : va_D A ([(hk, .inr (0, [.ref qd, .ref qk, .int (iI 0), .int (iI (bc : Int)), .int (iI tn)])), (qd, ar cI 693 DB), (qk, ar cI 15 KS)]) := hD
  refine lv_aload_n hx hb d_Disk_empty_5 rfl (lv_at hl 0 rfl) ?_
  refine lv_iconst (v := iI 0) hx hb d_Disk_empty_6 rfl ?_
  refine va_put (ci := 0) (v := .int (iI 0)) (ty := .int) (C := R_Disk) (T := F_Disk) (N := 5) hx hb hT in_Disk t_Disk to_Disk n_Disk hown hK.1 hP hD hS 0 rfl rfl 3 (by decide) (hT _ tw_101) (fun _ h => h) rfl (by decide +kernel) rfl rfl (ble_lt rfl) d_Disk_empty_7 (fun H locs hP hD hS => ?_)
  have hP : va_P D classes ([(hk, .inr (0, [.ref qd, .ref qk, .int (iI 0), .int (iI 0), .int (iI tn)])), (qd, ar cI 693 DB), (qk, ar cI 15 KS)]) H := hP
  have hD : va_D A ([(hk, .inr (0, [.ref qd, .ref qk, .int (iI 0), .int (iI 0), .int (iI tn)])), (qd, ar cI 693 DB), (qk, ar cI 15 KS)]) := hD
  refine lv_aload_n hx hb d_Disk_empty_10 rfl (lv_at hl 0 rfl) ?_
  refine lv_iconst (v := iI (-1)) hx hb d_Disk_empty_11 rfl ?_
  refine va_put (ci := 0) (v := .int (iI (-1))) (ty := .int) (C := R_Disk) (T := F_Disk) (N := 5) hx hb hT in_Disk t_Disk to_Disk n_Disk hown hK.1 hP hD hS 0 rfl rfl 4 (by decide) (hT _ tw_103) (fun _ h => h) rfl (by decide +kernel) rfl rfl (ble_lt rfl) d_Disk_empty_12 (fun H locs hP hD hS => ?_)
  have hP : va_P D classes ([(hk, .inr (0, [.ref qd, .ref qk, .int (iI 0), .int (iI 0), .int (iI (-1))])), (qd, ar cI 693 DB), (qk, ar cI 15 KS)]) H := hP
  have hD : va_D A ([(hk, .inr (0, [.ref qd, .ref qk, .int (iI 0), .int (iI 0), .int (iI (-1))])), (qd, ar cI 693 DB), (qk, ar cI 15 KS)]) := hD
  exact bk_retv hx hb hr hlk hAe hQ hS () trivial hP hD d_Disk_empty_15
abbrev rm_Disk_isWritten : Room := { frames := 0, cells := 0, slots := 0, locals := 0 }
set_option maxRecDepth 100000 in
set_option maxHeartbeats 4000000 in
theorem c_Disk_isWritten (l : Launch) (D : va_G) (cI cO : ClassId) (hk qd qk : Nat) (DB KS : Nat → Int) (sz bc : Nat) (tn : Int) (hsz : sz ≤ 693) : Mi l y_Disk_isWritten b_Disk_isWritten 1 .boolean rm_Disk_isWritten D cI cO [.ref hk] ([(hk, .inr (0, [.ref qd, .ref qk, .int (iI (sz : Int)), .int (iI (bc : Int)), .int (iI tn)])), (qd, ar cI 693 DB), (qk, ar cI 15 KS)]) (fun (r : Int) (_ : Unit) => ((0 < sz) ∧ r = 1) ∨ (¬ (0 < sz) ∧ r = 0)) (fun (_ : Unit) => [(hk, .inr (0, [.ref qd, .ref qk, .int (iI (sz : Int)), .int (iI (bc : Int)), .int (iI tn)])), (qd, ar cI 693 DB), (qk, ar cI 15 KS)]) 0 0 := by
  refine bk_start (by decide) (ble_le rfl) ?_
  intro p e s m args below meth c A ls Q hx hb hr hml hlk hown hnm hT hK hA hAe hQ hP hD hS hl
  have hown : s.vm.findClass "BinnedReads$Disk" = some m.cls := hown
  have hl : lv_has ls 1 [(0, .ref hk)] := hl
  refine lv_aload_n hx hb d_Disk_isWritten_0 rfl (lv_at hl 0 rfl) ?_
  refine va_get (ci := 0) (C := R_Disk) (T := F_Disk) (N := 5) hx hb hT in_Disk hown hK.1 hP 0 rfl rfl 2 (by decide) (hT _ tw_99) (fun _ h => h) rfl d_Disk_isWritten_1 ?_
  refine bk_if_le (tgt := 11) hx hb d_Disk_isWritten_4 (by decide) (by omega) (fun c4 => ?_) (fun c4 => ?_)
  · skip
    refine lv_iconst (v := iI 0) hx hb d_Disk_isWritten_11 rfl ?_
    exact bk_reti (r := 0) hx hb hr iI_nar0 hlk hAe hQ hS () (by omega) hP hD d_Disk_isWritten_12
  · skip
    refine lv_iconst (v := iI 1) hx hb d_Disk_isWritten_7 rfl ?_
    refine lv_goto (tgt := 12) hx hb d_Disk_isWritten_8 (by decide) ?_
    exact bk_reti (r := 1) hx hb hr iI_nar1 hlk hAe hQ hS () (by omega) hP hD d_Disk_isWritten_12
abbrev rm_Disk_at : Room := { frames := 0, cells := 0, slots := 0, locals := 0 }
set_option maxRecDepth 100000 in
set_option maxHeartbeats 4000000 in
theorem c_Disk_at (l : Launch) (D : va_G) (cI cO : ClassId) (hk qd qk : Nat) (DB KS : Nat → Int) (sz bc : Nat) (tn : Int) (k : Int) (hsz : sz ≤ 693) (hk1 : -2147483648 ≤ k ∧ k < 2147483648) : Mi l y_Disk_at b_Disk_at 2 .int rm_Disk_at D cI cO [.ref hk, .int (iI k)] ([(hk, .inr (0, [.ref qd, .ref qk, .int (iI (sz : Int)), .int (iI (bc : Int)), .int (iI tn)])), (qd, ar cI 693 DB), (qk, ar cI 15 KS)]) (fun (r : Int) (_ : Unit) => (0 ≤ k ∧ k < (sz : Int) ∧ r = DB k.toNat) ∨ (¬ (0 ≤ k ∧ k < (sz : Int)) ∧ r = -1)) (fun (_ : Unit) => [(hk, .inr (0, [.ref qd, .ref qk, .int (iI (sz : Int)), .int (iI (bc : Int)), .int (iI tn)])), (qd, ar cI 693 DB), (qk, ar cI 15 KS)]) 0 0 := by
  refine bk_start (by decide) (ble_le rfl) ?_
  intro p e s m args below meth c A ls Q hx hb hr hml hlk hown hnm hT hK hA hAe hQ hP hD hS hl
  have hown : s.vm.findClass "BinnedReads$Disk" = some m.cls := hown
  have hl : lv_has ls 2 [(0, .ref hk), (1, .int (iI k))] := hl
  refine lv_iload_n hx hb d_Disk_at_0 rfl (lv_at hl 1 rfl) ?_
  refine bk_if_lt (tgt := 12) hx hb d_Disk_at_1 (by decide) (by omega) (fun c1 => ?_) (fun c1 => ?_)
  · skip
    refine lv_iconst (v := iI (-1)) hx hb d_Disk_at_12 rfl ?_
    refine lv_goto (tgt := 22) hx hb d_Disk_at_13 (by decide) ?_
    exact bk_reti (r := (-1)) hx hb hr rfl hlk hAe hQ hS () (by omega) hP hD d_Disk_at_22
  · skip
    refine lv_iload_n hx hb d_Disk_at_4 rfl (lv_at hl 1 rfl) ?_
    refine lv_aload_n hx hb d_Disk_at_5 rfl (lv_at hl 0 rfl) ?_
    refine va_get (ci := 0) (C := R_Disk) (T := F_Disk) (N := 5) hx hb hT in_Disk hown hK.1 hP 0 rfl rfl 2 (by decide) (hT _ tw_99) (fun _ h => h) rfl d_Disk_at_6 ?_
    refine bk_icmp_lt (tgt := 16) hx hb d_Disk_at_9 (by decide) (by omega) (by omega) (fun c9 => ?_) (fun c9 => ?_)
    · skip
      refine lv_aload_n hx hb d_Disk_at_16 rfl (lv_at hl 0 rfl) ?_
      refine va_get (ci := 0) (C := R_Disk) (T := F_Disk) (N := 5) hx hb hT in_Disk hown hK.1 hP 0 rfl rfl 0 (by decide) (hT _ tw_97) (fun _ h => h) rfl d_Disk_at_17 ?_
      refine lv_iload_n hx hb d_Disk_at_20 rfl (lv_at hl 1 rfl) ?_
      refine bk_iald hx hb hK.1 hP 1 0 rfl rfl k.toNat (by omega) (by decide) d_Disk_at_21 ?_
      exact bk_reti (r := DB k.toNat) hx hb hr rfl hlk hAe hQ hS () (by omega) hP hD d_Disk_at_22
    · skip
      refine lv_iconst (v := iI (-1)) hx hb d_Disk_at_12 rfl ?_
      refine lv_goto (tgt := 22) hx hb d_Disk_at_13 (by decide) ?_
      exact bk_reti (r := (-1)) hx hb hr rfl hlk hAe hQ hS () (by omega) hP hD d_Disk_at_22
set_option maxRecDepth 100000 in
set_option maxHeartbeats 4000000 in
theorem c_Disk_at_in (l : Launch) (D : va_G) (cI cO : ClassId) (hk qd qk : Nat) (DB KS : Nat → Int) (sz bc : Nat) (tn : Int) (j : Nat) (hsz : sz ≤ 693) (hj : j < sz) : Mi l y_Disk_at b_Disk_at 2 .int rm_Disk_at D cI cO [.ref hk, .int (iI (j : Int))] ([(hk, .inr (0, [.ref qd, .ref qk, .int (iI (sz : Int)), .int (iI (bc : Int)), .int (iI tn)])), (qd, ar cI 693 DB), (qk, ar cI 15 KS)]) (fun (r : Int) (_ : Unit) => r = DB j) (fun (_ : Unit) => [(hk, .inr (0, [.ref qd, .ref qk, .int (iI (sz : Int)), .int (iI (bc : Int)), .int (iI tn)])), (qd, ar cI 693 DB), (qk, ar cI 15 KS)]) 0 0 := by
  refine bk_start (by decide) (ble_le rfl) ?_
  intro p e s m args below meth c A ls Q hx hb hr hml hlk hown hnm hT hK hA hAe hQ hP hD hS hl
  have hown : s.vm.findClass "BinnedReads$Disk" = some m.cls := hown
  have hl : lv_has ls 2 [(0, .ref hk), (1, .int (iI (j : Int)))] := hl
  refine lv_iload_n hx hb d_Disk_at_0 rfl (lv_at hl 1 rfl) ?_
  refine bk_if_lt (tgt := 12) hx hb d_Disk_at_1 (by decide) (by omega) (fun c1 => ?_) (fun c1 => ?_)
  · skip
    exact absurd c1 (by omega)
  · skip
    refine lv_iload_n hx hb d_Disk_at_4 rfl (lv_at hl 1 rfl) ?_
    refine lv_aload_n hx hb d_Disk_at_5 rfl (lv_at hl 0 rfl) ?_
    refine va_get (ci := 0) (C := R_Disk) (T := F_Disk) (N := 5) hx hb hT in_Disk hown hK.1 hP 0 rfl rfl 2 (by decide) (hT _ tw_99) (fun _ h => h) rfl d_Disk_at_6 ?_
    refine bk_icmp_lt (tgt := 16) hx hb d_Disk_at_9 (by decide) (by omega) (by omega) (fun c9 => ?_) (fun c9 => ?_)
    · skip
      refine lv_aload_n hx hb d_Disk_at_16 rfl (lv_at hl 0 rfl) ?_
      refine va_get (ci := 0) (C := R_Disk) (T := F_Disk) (N := 5) hx hb hT in_Disk hown hK.1 hP 0 rfl rfl 0 (by decide) (hT _ tw_97) (fun _ h => h) rfl d_Disk_at_17 ?_
      refine lv_iload_n hx hb d_Disk_at_20 rfl (lv_at hl 1 rfl) ?_
      refine bk_iald hx hb hK.1 hP 1 0 rfl rfl j (by omega) (by decide) d_Disk_at_21 ?_
      exact bk_reti (r := DB j) hx hb hr rfl hlk hAe hQ hS () rfl hP hD d_Disk_at_22
    · skip
      exact absurd c9 (by omega)
abbrev rm_Disk_appendByte : Room := { frames := 0, cells := 0, slots := 0, locals := 0 }
set_option maxRecDepth 100000 in
set_option maxHeartbeats 4000000 in
theorem c_Disk_appendByte (l : Launch) (D : va_G) (cI cO : ClassId) (hk qd qk : Nat) (DB KS : Nat → Int) (sz bc : Nat) (tn : Int) (v : Int) (hsz : sz < 693) : Mv l y_Disk_appendByte b_Disk_appendByte 2 rm_Disk_appendByte D cI cO [.ref hk, .int (iI v)] ([(hk, .inr (0, [.ref qd, .ref qk, .int (iI (sz : Int)), .int (iI (bc : Int)), .int (iI tn)])), (qd, ar cI 693 DB), (qk, ar cI 15 KS)]) (fun (_ : Unit) => True) (fun (_ : Unit) => [(hk, .inr (0, [.ref qd, .ref qk, .int (iI ((sz + 1 : Nat) : Int)), .int (iI (bc : Int)), .int (iI tn)])), (qd, ar cI 693 (bU DB sz v)), (qk, ar cI 15 KS)]) 0 0 := by
  refine bk_start (by decide) (ble_le rfl) ?_
  intro p e s m args below meth c A ls Q hx hb hr hml hlk hown hnm hT hK hA hAe hQ hP hD hS hl
  have hown : s.vm.findClass "BinnedReads$Disk" = some m.cls := hown
  have hl : lv_has ls 2 [(0, .ref hk), (1, .int (iI v))] := hl
  refine lv_aload_n hx hb d_Disk_appendByte_0 rfl (lv_at hl 0 rfl) ?_
  refine va_get (ci := 0) (C := R_Disk) (T := F_Disk) (N := 5) hx hb hT in_Disk hown hK.1 hP 0 rfl rfl 2 (by decide) (hT _ tw_99) (fun _ h => h) rfl d_Disk_appendByte_1 ?_
  refine lv_aload_n hx hb d_Disk_appendByte_4 rfl (lv_at hl 0 rfl) ?_
  refine va_get (ci := 0) (C := R_Disk) (T := F_Disk) (N := 5) hx hb hT in_Disk hown hK.1 hP 0 rfl rfl 0 (by decide) (hT _ tw_97) (fun _ h => h) rfl d_Disk_appendByte_5 ?_
  refine va_alen (v := iI 693) hx hb hK.1 hP 1 0 rfl rfl (show Int32.ofNat 693 = iI 693 from by decide) d_Disk_appendByte_8 ?_
  refine bk_icmp_ge (tgt := 29) hx hb d_Disk_appendByte_9 (by decide) (by omega) (by omega) (fun c9 => ?_) (fun c9 => ?_)
  · skip
    exact absurd c9 (by omega)
  · skip
    refine lv_aload_n hx hb d_Disk_appendByte_12 rfl (lv_at hl 0 rfl) ?_
    refine va_get (ci := 0) (C := R_Disk) (T := F_Disk) (N := 5) hx hb hT in_Disk hown hK.1 hP 0 rfl rfl 0 (by decide) (hT _ tw_97) (fun _ h => h) rfl d_Disk_appendByte_13 ?_
    refine lv_aload_n hx hb d_Disk_appendByte_16 rfl (lv_at hl 0 rfl) ?_
    refine lv_dup hx hb d_Disk_appendByte_17 rfl ?_
    refine va_get (ci := 0) (C := R_Disk) (T := F_Disk) (N := 5) hx hb hT in_Disk hown hK.1 hP 0 rfl rfl 2 (by decide) (hT _ tw_99) (fun _ h => h) rfl d_Disk_appendByte_18 ?_
    refine lv_dup_x1 hx hb d_Disk_appendByte_21 rfl rfl ?_
    refine lv_iconst (v := iI 1) hx hb d_Disk_appendByte_22 rfl ?_
    refine bk_add hx hb d_Disk_appendByte_23 ?_
    refine bk_top (y := iI ((sz + 1 : Nat) : Int)) (congrArg iI (by omega)) ?_
    refine va_put (ci := 0) (v := .int (iI ((sz + 1 : Nat) : Int))) (ty := .int) (C := R_Disk) (T := F_Disk) (N := 5) hx hb hT in_Disk t_Disk to_Disk n_Disk hown hK.1 hP hD hS 0 rfl rfl 2 (by decide) (hT _ tw_99) (fun _ h => h) rfl (by decide +kernel) rfl rfl (ble_lt rfl) d_Disk_appendByte_24 (fun H locs hP hD hS => ?_)
    have hP : va_P D classes ([(hk, .inr (0, [.ref qd, .ref qk, .int (iI ((sz + 1 : Nat) : Int)), .int (iI (bc : Int)), .int (iI tn)])), (qd, ar cI 693 DB), (qk, ar cI 15 KS)]) H := hP
    have hD : va_D A ([(hk, .inr (0, [.ref qd, .ref qk, .int (iI ((sz + 1 : Nat) : Int)), .int (iI (bc : Int)), .int (iI tn)])), (qd, ar cI 693 DB), (qk, ar cI 15 KS)]) := hD
    refine lv_iload_n hx hb d_Disk_appendByte_27 rfl (lv_at hl 1 rfl) ?_
    refine bk_iast hx hb hK.1 hP hD hS 1 0 rfl rfl sz (by omega) (by decide) d_Disk_appendByte_28 (fun H locs hP hD hS => ?_)
    have hP : va_P D classes ([(hk, .inr (0, [.ref qd, .ref qk, .int (iI ((sz + 1 : Nat) : Int)), .int (iI (bc : Int)), .int (iI tn)])), (qd, ar cI 693 (bU DB sz v)), (qk, ar cI 15 KS)]) H := hP
    have hD : va_D A ([(hk, .inr (0, [.ref qd, .ref qk, .int (iI ((sz + 1 : Nat) : Int)), .int (iI (bc : Int)), .int (iI tn)])), (qd, ar cI 693 (bU DB sz v)), (qk, ar cI 15 KS)]) := hD
    exact bk_retv hx hb hr hlk hAe hQ hS () trivial hP hD d_Disk_appendByte_29
abbrev rm_Disk_appendNumber : Room := { frames := 1, cells := 0, slots := 0, locals := 21 }
set_option maxRecDepth 100000 in
set_option maxHeartbeats 4000000 in
theorem c_Disk_appendNumber (l : Launch) (D : va_G) (cI cO : ClassId) (hk qd qk : Nat) (DB KS : Nat → Int) (sz bc : Nat) (tn : Int) (w k : Nat) (hsz : sz + k ≤ 693) (hw : w < 4294967296) (hk1 : k ≤ 4) : Mv l y_Disk_appendNumber b_Disk_appendNumber 4 rm_Disk_appendNumber D cI cO [.ref hk, .int (iI (w : Int)), .int (iI (k : Int))] ([(hk, .inr (0, [.ref qd, .ref qk, .int (iI (sz : Int)), .int (iI (bc : Int)), .int (iI tn)])), (qd, ar cI 693 DB), (qk, ar cI 15 KS)]) (fun (_ : Unit) => True) (fun (_ : Unit) => [(hk, .inr (0, [.ref qd, .ref qk, .int (iI ((sz + k : Nat) : Int)), .int (iI (bc : Int)), .int (iI tn)])), (qd, ar cI 693 (apN DB sz w k)), (qk, ar cI 15 KS)]) 0 0 := by
  refine bk_start (by decide) (ble_le rfl) ?_
  intro p e s m args below meth c A ls Q hx hb hr hml hlk hown hnm hT hK hA hAe hQ hP hD hS hl
  have hown : s.vm.findClass "BinnedReads$Disk" = some m.cls := hown
  have hl : lv_has ls 4 [(0, .ref hk), (1, .int (iI (w : Int))), (2, .int (iI (k : Int)))] := hl
  have hcell : (ar cI 693 (apN DB sz w 0) : va_E) = ar cI 693 DB := by rw [apN_0]
  have hP : va_P D classes ([(hk, .inr (0, [.ref qd, .ref qk, .int (iI (sz : Int)), .int (iI (bc : Int)), .int (iI tn)])), (qd, ar cI 693 (apN DB sz w 0)), (qk, ar cI 15 KS)]) s.heap := by
    rw [hcell]
    exact hP
  have hD : va_D A ([(hk, .inr (0, [.ref qd, .ref qk, .int (iI (sz : Int)), .int (iI (bc : Int)), .int (iI tn)])), (qd, ar cI 693 (apN DB sz w 0)), (qk, ar cI 15 KS)]) := by
    rw [hcell]
    exact hD
  refine lv_iconst (v := iI 0) hx hb d_Disk_appendNumber_0 rfl ?_
  refine lv_istore_n hx hb d_Disk_appendNumber_1 rfl hl (by decide) rfl (fun ls hl => ?_)
  have hl : lv_has ls 4 [(3, .int (iI 0)), (0, .ref hk), (1, .int (iI (w : Int))), (2, .int (iI (k : Int)))] := hl
  have cut2 : ∀ (N0 : Nat) (i : Nat) (H : Heap) (locs : List Loc) (ls : Array Slot), k - i = N0 → (i ≤ k) → lv_has ls 4 [(0, .ref hk), (1, .int (iI (w : Int))), (2, .int (iI (k : Int))), (3, .int (iI (i : Int)))] → va_P D classes ([(hk, .inr (0, [.ref qd, .ref qk, .int (iI ((sz + i : Nat) : Int)), .int (iI (bc : Int)), .int (iI tn)])), (qd, ar cI 693 (apN DB sz w i)), (qk, ar cI 15 KS)]) H → va_D A ([(hk, .inr (0, [.ref qd, .ref qk, .int (iI ((sz + i : Nat) : Int)), .int (iI (bc : Int)), .int (iI tn)])), (qd, ar cI 693 (apN DB sz w i)), (qk, ar cI 15 KS)]) → va_S A s.heap H locs → W p l e rm_Disk_appendNumber s m args below meth c H locs 0 0 Q (F0 m 2 ls []) := by
    intro N0
    induction N0 using Nat.strongRecOn with
    | _ N0 ih2 =>
      intro i H locs ls hN2 hi hl hP hD hS
      refine lv_iload_n hx hb d_Disk_appendNumber_2 rfl (lv_at hl 3 rfl) ?_
      refine lv_iload_n hx hb d_Disk_appendNumber_3 rfl (lv_at hl 2 rfl) ?_
      refine bk_icmp_ge (tgt := 27) hx hb d_Disk_appendNumber_4 (by decide) (by omega) (by omega) (fun c4 => ?_) (fun c4 => ?_)
      · skip
        have e1 : i = k := by omega
        subst e1
        exact bk_retv hx hb hr hlk hAe hQ hS () trivial hP hD d_Disk_appendNumber_27
      · skip
        refine lv_aload_n hx hb d_Disk_appendNumber_7 rfl (lv_at hl 0 rfl) ?_
        refine lv_iload_n hx hb d_Disk_appendNumber_8 rfl (lv_at hl 1 rfl) ?_
        refine lv_bipush (v := iI 8) hx hb d_Disk_appendNumber_9 (by decide) ?_
        refine lv_iload_n hx hb d_Disk_appendNumber_11 rfl (lv_at hl 3 rfl) ?_
        refine bk_mul hx hb d_Disk_appendNumber_12 ?_
        refine bk_top (y := iI ((8 * i : Nat) : Int)) (congrArg iI (by omega)) ?_
        refine lv_iushr hx hb d_Disk_appendNumber_13 rfl ?_
        refine bk_top (y := iI ((w / 256 ^ i : Nat) : Int)) (iI_ushrB hw (by omega)) ?_
        refine lv_sipush (v := iI 255) hx hb d_Disk_appendNumber_14 (by decide) ?_
        refine lv_iand hx hb d_Disk_appendNumber_17 ?_
        refine bk_top (y := iI ((w / 256 ^ i % 256 : Nat) : Int)) (iI_andB (Nat.lt_of_le_of_lt (Nat.div_le_self _ _) hw)) ?_
        refine bk_fv (X := [(hk, .inr (0, [.ref qd, .ref qk, .int (iI ((sz + i : Nat) : Int)), .int (iI (bc : Int)), .int (iI tn)])), (qd, ar cI 693 (apN DB sz w i)), (qk, ar cI 15 KS)]) (pl := []) (Wc := [(hk, .inr (0, [.ref qd, .ref qk, .int (iI (((sz + i) : Nat) : Int)), .int (iI (bc : Int)), .int (iI tn)])), (qd, ar cI 693 (apN DB sz w i)), (qk, ar cI 15 KS)]) (wr := []) [0, 1, 2] [] rfl rfl (by decide) (by decide) hP hD hS hA (bk_rV (rest := []) hx hb hml hown hT hK (c_Disk_appendByte l D cI cO hk qd qk (apN DB sz w i) KS (sz + i) bc tn ((w / 256 ^ i % 256 : Nat) : Int) (by omega)) (bk_subP (X := [(hk, .inr (0, [.ref qd, .ref qk, .int (iI ((sz + i : Nat) : Int)), .int (iI (bc : Int)), .int (iI tn)])), (qd, ar cI 693 (apN DB sz w i)), (qk, ar cI 15 KS)]) (pl := []) (Wc := [(hk, .inr (0, [.ref qd, .ref qk, .int (iI (((sz + i) : Nat) : Int)), .int (iI (bc : Int)), .int (iI tn)])), (qd, ar cI 693 (apN DB sz w i)), (qk, ar cI 15 KS)]) hP [0, 1, 2] rfl) (bk_subD (X := [(hk, .inr (0, [.ref qd, .ref qk, .int (iI ((sz + i : Nat) : Int)), .int (iI (bc : Int)), .int (iI tn)])), (qd, ar cI 693 (apN DB sz w i)), (qk, ar cI 15 KS)]) (pl := []) (Wc := [(hk, .inr (0, [.ref qd, .ref qk, .int (iI (((sz + i) : Nat) : Int)), .int (iI (bc : Int)), .int (iI tn)])), (qd, ar cI 693 (apN DB sz w i)), (qk, ar cI 15 KS)]) hD [0, 1, 2] (by decide) rfl) 0 0 rfl rfl rfl tw_258 tw_260 ts_2 tw_5 tw_261 hd_Disk_appendByte ⟨rfl, rfl⟩ (by decide) hl.1 rfl (ble_le rfl) d_Disk_appendNumber_18 (by decide)) (fun u H locs hq hP hD hS => ?_)
        have hq : True := hq
        have hP : va_P D classes ([(hk, .inr (0, [.ref qd, .ref qk, .int (iI (((sz + i) + 1 : Nat) : Int)), .int (iI (bc : Int)), .int (iI tn)])), (qd, ar cI 693 (bU (apN DB sz w i) (sz + i) ((w / 256 ^ i % 256 : Nat) : Int))), (qk, ar cI 15 KS)]) H := hP
        have hD : va_D A ([(hk, .inr (0, [.ref qd, .ref qk, .int (iI (((sz + i) + 1 : Nat) : Int)), .int (iI (bc : Int)), .int (iI tn)])), (qd, ar cI 693 (bU (apN DB sz w i) (sz + i) ((w / 256 ^ i % 256 : Nat) : Int))), (qk, ar cI 15 KS)]) := hD
        have hcell : (ar cI 693 (apN DB sz w (i + 1)) : va_E) = ar cI 693 (bU (apN DB sz w i) (sz + i) ((w / 256 ^ i % 256 : Nat) : Int)) := by rw [apN_s]
        have hP : va_P D classes ([(hk, .inr (0, [.ref qd, .ref qk, .int (iI (((sz + i) + 1 : Nat) : Int)), .int (iI (bc : Int)), .int (iI tn)])), (qd, ar cI 693 (apN DB sz w (i + 1))), (qk, ar cI 15 KS)]) H := by
          rw [hcell]
          exact hP
        have hD : va_D A ([(hk, .inr (0, [.ref qd, .ref qk, .int (iI (((sz + i) + 1 : Nat) : Int)), .int (iI (bc : Int)), .int (iI tn)])), (qd, ar cI 693 (apN DB sz w (i + 1))), (qk, ar cI 15 KS)]) := by
          rw [hcell]
          exact hD
        refine lv_iinc (k := 3) (v := iI ((i + 1 : Nat) : Int)) hx hb d_Disk_appendNumber_21 hl rfl ((iI_add _ _).trans (congrArg iI (by omega))) (by decide) rfl (fun ls hl => ?_)
        have hl : lv_has ls 4 [(3, .int (iI ((i + 1 : Nat) : Int))), (0, .ref hk), (1, .int (iI (w : Int))), (2, .int (iI (k : Int)))] := hl
        refine lv_goto (tgt := 2) hx hb d_Disk_appendNumber_24 (by decide) ?_
        exact ih2 (k - (i + 1)) (by omega) (i + 1) _ _ _ rfl (by omega) (lv_sub hl [1, 2, 3, 0] rfl) hP hD hS
  exact cut2 _ 0 _ _ _ rfl (by omega) (lv_sub hl [1, 2, 3, 0] rfl) hP hD hS
abbrev rm_Disk_sumOf : Room := { frames := 1, cells := 0, slots := 0, locals := 21 }
set_option maxRecDepth 100000 in
set_option maxHeartbeats 4000000 in
theorem c_Disk_sumOf (l : Launch) (D : va_G) (cI cO : ClassId) (hk qd qk : Nat) (DB KS : Nat → Int) (sz bc : Nat) (tn : Int) (f k : Nat) (hsz : sz ≤ 693) (hDB : ∀ j, j < sz → 0 ≤ DB j ∧ DB j ≤ 255) (hfk : f + k ≤ sz) : Mi l y_Disk_sumOf b_Disk_sumOf 6 .int rm_Disk_sumOf D cI cO [.ref hk, .int (iI (f : Int)), .int (iI (k : Int))] ([(hk, .inr (0, [.ref qd, .ref qk, .int (iI (sz : Int)), .int (iI (bc : Int)), .int (iI tn)])), (qd, ar cI 693 DB), (qk, ar cI 15 KS)]) (fun (r : Int) (_ : Unit) => r = ((crcN DB f k ^^^ 4294967295 : Nat) : Int)) (fun (_ : Unit) => [(hk, .inr (0, [.ref qd, .ref qk, .int (iI (sz : Int)), .int (iI (bc : Int)), .int (iI tn)])), (qd, ar cI 693 DB), (qk, ar cI 15 KS)]) 0 0 := by
  refine bk_start (by decide) (ble_le rfl) ?_
  intro p e s m args below meth c A ls Q hx hb hr hml hlk hown hnm hT hK hA hAe hQ hP hD hS hl
  have hown : s.vm.findClass "BinnedReads$Disk" = some m.cls := hown
  have hl : lv_has ls 6 [(0, .ref hk), (1, .int (iI (f : Int))), (2, .int (iI (k : Int)))] := hl
  refine lv_iconst (v := iI (-1)) hx hb d_Disk_sumOf_0 rfl ?_
  refine bk_top (y := iI 4294967295) (by decide) ?_
  refine lv_istore_n hx hb d_Disk_sumOf_1 rfl hl (by decide) rfl (fun ls hl => ?_)
  have hl : lv_has ls 6 [(3, .int (iI 4294967295)), (0, .ref hk), (1, .int (iI (f : Int))), (2, .int (iI (k : Int)))] := hl
  refine lv_iload_n hx hb d_Disk_sumOf_2 rfl (lv_at hl 2 rfl) ?_
  refine lv_istore hx hb d_Disk_sumOf_3 hl (by decide) rfl (fun ls hl => ?_)
  have hl : lv_has ls 6 [(4, .int (iI (f : Int))), (3, .int (iI 4294967295)), (0, .ref hk), (1, .int (iI (f : Int))), (2, .int (iI (k : Int)))] := hl
  have cut5 : ∀ (N0 : Nat) (j : Nat) (H : Heap) (locs : List Loc) (ls : Array Slot), k - j = N0 → (j ≤ k) → lv_has ls 6 [(0, .ref hk), (1, .int (iI (f : Int))), (2, .int (iI (k : Int))), (3, .int (iI ((crcN DB f j : Nat) : Int))), (4, .int (iI ((f + j : Nat) : Int)))] → va_P D classes ([(hk, .inr (0, [.ref qd, .ref qk, .int (iI (sz : Int)), .int (iI (bc : Int)), .int (iI tn)])), (qd, ar cI 693 DB), (qk, ar cI 15 KS)]) H → va_D A ([(hk, .inr (0, [.ref qd, .ref qk, .int (iI (sz : Int)), .int (iI (bc : Int)), .int (iI tn)])), (qd, ar cI 693 DB), (qk, ar cI 15 KS)]) → va_S A s.heap H locs → W p l e rm_Disk_sumOf s m args below meth c H locs 0 0 Q (F0 m 5 ls []) := by
    intro N0
    induction N0 using Nat.strongRecOn with
    | _ N0 ih5 =>
      intro j H locs ls hN5 hj hl hP hD hS
      have hcl := crcN_lt (F := DB) (f := f) (n := j) (fun z hz => hDB (f + z) (by omega))
      refine lv_iload hx hb d_Disk_sumOf_5 (lv_at hl 4 rfl) ?_
      refine lv_iload_n hx hb d_Disk_sumOf_7 rfl (lv_at hl 1 rfl) ?_
      refine lv_iload_n hx hb d_Disk_sumOf_8 rfl (lv_at hl 2 rfl) ?_
      refine bk_add hx hb d_Disk_sumOf_9 ?_
      refine bk_top (y := iI ((f + k : Nat) : Int)) (congrArg iI (by omega)) ?_
      refine bk_icmp_ge (tgt := 68) hx hb d_Disk_sumOf_10 (by decide) (by omega) (by omega) (fun c10 => ?_) (fun c10 => ?_)
      · skip
        refine lv_iload_n hx hb d_Disk_sumOf_68 rfl (lv_at hl 3 rfl) ?_
        refine lv_iconst (v := iI (-1)) hx hb d_Disk_sumOf_69 rfl ?_
        refine lv_ixor hx hb d_Disk_sumOf_70 ?_
        refine bk_top (y := iI ((crcN DB f k ^^^ 4294967295 : Nat) : Int)) (by rw [iI_not, show k = j by omega]) ?_
        exact bk_reti (r := ((crcN DB f k ^^^ 4294967295 : Nat) : Int)) hx hb hr rfl hlk hAe hQ hS () rfl hP hD d_Disk_sumOf_71
      · skip
        have hd0 := hDB (f + j) (by omega)
        refine lv_iload_n hx hb d_Disk_sumOf_13 rfl (lv_at hl 3 rfl) ?_
        refine lv_aload_n hx hb d_Disk_sumOf_14 rfl (lv_at hl 0 rfl) ?_
        refine lv_iload hx hb d_Disk_sumOf_15 (lv_at hl 4 rfl) ?_
        refine bk_fR (ws := [(hk, .inr (0, [.ref qd, .ref qk, .int (iI (sz : Int)), .int (iI (bc : Int)), .int (iI tn)])), (qd, ar cI 693 DB), (qk, ar cI 15 KS)]) (Wc := [(hk, .inr (0, [.ref qd, .ref qk, .int (iI (sz : Int)), .int (iI (bc : Int)), .int (iI tn)])), (qd, ar cI 693 DB), (qk, ar cI 15 KS)]) (fun _ => rfl) (bk_hs (X := [(hk, .inr (0, [.ref qd, .ref qk, .int (iI (sz : Int)), .int (iI (bc : Int)), .int (iI tn)])), (qd, ar cI 693 DB), (qk, ar cI 15 KS)]) (pl := []) (Wc := [(hk, .inr (0, [.ref qd, .ref qk, .int (iI (sz : Int)), .int (iI (bc : Int)), .int (iI tn)])), (qd, ar cI 693 DB), (qk, ar cI 15 KS)]) [0, 1, 2] rfl) hP hD hS hA (bk_rV (rest := [.int (iI ((crcN DB f j : Nat) : Int))]) hx hb hml hown hT hK (c_Disk_at_in l D cI cO hk qd qk DB KS sz bc tn (f + j) hsz (by omega)) (bk_subP (X := [(hk, .inr (0, [.ref qd, .ref qk, .int (iI (sz : Int)), .int (iI (bc : Int)), .int (iI tn)])), (qd, ar cI 693 DB), (qk, ar cI 15 KS)]) (pl := []) (Wc := [(hk, .inr (0, [.ref qd, .ref qk, .int (iI (sz : Int)), .int (iI (bc : Int)), .int (iI tn)])), (qd, ar cI 693 DB), (qk, ar cI 15 KS)]) hP [0, 1, 2] rfl) (bk_subD (X := [(hk, .inr (0, [.ref qd, .ref qk, .int (iI (sz : Int)), .int (iI (bc : Int)), .int (iI tn)])), (qd, ar cI 693 DB), (qk, ar cI 15 KS)]) (pl := []) (Wc := [(hk, .inr (0, [.ref qd, .ref qk, .int (iI (sz : Int)), .int (iI (bc : Int)), .int (iI tn)])), (qd, ar cI 693 DB), (qk, ar cI 15 KS)]) hD [0, 1, 2] (by decide) rfl) 0 0 rfl rfl rfl tw_270 tw_271 tw_272 tw_5 tw_273 hd_Disk_at ⟨rfl, rfl⟩ (by decide) hl.1 rfl (ble_le rfl) d_Disk_sumOf_17 (by decide)) (fun r17 u H locs hq hP hS => ?_)
        have hq : r17 = DB (f + j) := hq
        obtain rfl := hq
        refine lv_sipush (v := iI 255) hx hb d_Disk_sumOf_20 (by decide) ?_
        refine lv_iand hx hb d_Disk_sumOf_23 ?_
        refine bk_top (y := iI (DB (f + j))) (by rw [iI_and255 (by omega)]; exact congrArg iI (by omega)) ?_
        refine lv_ixor hx hb d_Disk_sumOf_24 ?_
        refine bk_top (y := iI (((crcN DB f j ^^^ (DB (f + j)).toNat) : Nat) : Int)) (iI_xorV _ hd0.1) ?_
        refine lv_istore_n hx hb d_Disk_sumOf_25 rfl hl (by decide) rfl (fun ls hl => ?_)
        have hl : lv_has ls 6 [(3, .int (iI (((crcN DB f j ^^^ (DB (f + j)).toNat) : Nat) : Int))), (0, .ref hk), (1, .int (iI (f : Int))), (2, .int (iI (k : Int))), (4, .int (iI ((f + j : Nat) : Int)))] := hl
        refine lv_iconst (v := iI 0) hx hb d_Disk_sumOf_26 rfl ?_
        refine lv_istore hx hb d_Disk_sumOf_27 hl (by decide) rfl (fun ls hl => ?_)
        have hl : lv_has ls 6 [(5, .int (iI 0)), (3, .int (iI (((crcN DB f j ^^^ (DB (f + j)).toNat) : Nat) : Int))), (0, .ref hk), (1, .int (iI (f : Int))), (2, .int (iI (k : Int))), (4, .int (iI ((f + j : Nat) : Int)))] := hl
        have cut29 : ∀ (N0 : Nat) (t : Nat) (H : Heap) (locs : List Loc) (ls : Array Slot), 8 - t = N0 → (t ≤ 8) → lv_has ls 6 [(0, .ref hk), (1, .int (iI (f : Int))), (2, .int (iI (k : Int))), (3, .int (iI ((crcK (crcN DB f j ^^^ (DB (f + j)).toNat) t : Nat) : Int))), (4, .int (iI ((f + j : Nat) : Int))), (5, .int (iI (t : Int)))] → va_P D classes ([(hk, .inr (0, [.ref qd, .ref qk, .int (iI (sz : Int)), .int (iI (bc : Int)), .int (iI tn)])), (qd, ar cI 693 DB), (qk, ar cI 15 KS)]) H → va_D A ([(hk, .inr (0, [.ref qd, .ref qk, .int (iI (sz : Int)), .int (iI (bc : Int)), .int (iI tn)])), (qd, ar cI 693 DB), (qk, ar cI 15 KS)]) → va_S A s.heap H locs → W p l e rm_Disk_sumOf s m args below meth c H locs 0 0 Q (F0 m 29 ls []) := by
          intro N0
          induction N0 using Nat.strongRecOn with
          | _ N0 ih29 =>
            intro t H locs ls hN29 ht hl hP hD hS
            have hkl : crcK (crcN DB f j ^^^ (DB (f + j)).toNat) t < 4294967296 := crcK_lt (xor32 hcl (by omega))
            refine lv_iload hx hb d_Disk_sumOf_29 (lv_at hl 5 rfl) ?_
            refine lv_bipush (v := iI 8) hx hb d_Disk_sumOf_31 (by decide) ?_
            refine bk_icmp_ge (tgt := 62) hx hb d_Disk_sumOf_33 (by decide) (by omega) (by omega) (fun c33 => ?_) (fun c33 => ?_)
            · skip
              have hl : lv_has ls 6 [(0, .ref hk), (1, .int (iI (f : Int))), (2, .int (iI (k : Int))), (3, .int (iI ((crcN DB f (j + 1) : Nat) : Int))), (4, .int (iI ((f + j : Nat) : Int))), (5, .int (iI (t : Int)))] := by
                rw [show ((crcN DB f (j + 1) : Nat) : Int) = ((crcK (crcN DB f j ^^^ (DB (f + j)).toNat) t : Nat) : Int) from by rw [show t = 8 by omega]; rfl]
                exact hl
              refine lv_iinc (k := 4) (v := iI ((f + j + 1 : Nat) : Int)) hx hb d_Disk_sumOf_62 hl rfl ((iI_add _ _).trans (congrArg iI (by omega))) (by decide) rfl (fun ls hl => ?_)
              have hl : lv_has ls 6 [(4, .int (iI ((f + j + 1 : Nat) : Int))), (0, .ref hk), (1, .int (iI (f : Int))), (2, .int (iI (k : Int))), (3, .int (iI ((crcN DB f (j + 1) : Nat) : Int))), (5, .int (iI (t : Int)))] := hl
              refine lv_goto (tgt := 5) hx hb d_Disk_sumOf_65 (by decide) ?_
              exact ih5 (k - (j + 1)) (by omega) (j + 1) _ _ _ rfl (by omega) (lv_sub hl [1, 2, 3, 4, 0] rfl) hP hD hS
            · skip
              refine lv_iload_n hx hb d_Disk_sumOf_36 rfl (lv_at hl 3 rfl) ?_
              refine lv_iconst (v := iI 1) hx hb d_Disk_sumOf_37 rfl ?_
              refine lv_iand hx hb d_Disk_sumOf_38 ?_
              refine bk_top (y := iI ((crcK (crcN DB f j ^^^ (DB (f + j)).toNat) t % 2 : Nat) : Int)) (iI_and1 hkl) ?_
              refine lv_iconst (v := iI 1) hx hb d_Disk_sumOf_39 rfl ?_
              refine bk_icmp_ne (tgt := 52) hx hb d_Disk_sumOf_40 (by decide) (by omega) (by omega) (fun c40 => ?_) (fun c40 => ?_)
              · skip
                refine lv_iload_n hx hb d_Disk_sumOf_52 rfl (lv_at hl 3 rfl) ?_
                refine lv_iconst (v := iI 1) hx hb d_Disk_sumOf_53 rfl ?_
                refine lv_iushr hx hb d_Disk_sumOf_54 rfl ?_
                refine bk_top (y := iI ((crcK (crcN DB f j ^^^ (DB (f + j)).toNat) (t + 1) : Nat) : Int)) (by rw [iI_ushr1 hkl, crcK_even (by omega)]) ?_
                refine lv_istore_n hx hb d_Disk_sumOf_55 rfl hl (by decide) rfl (fun ls hl => ?_)
                have hl : lv_has ls 6 [(3, .int (iI ((crcK (crcN DB f j ^^^ (DB (f + j)).toNat) (t + 1) : Nat) : Int))), (0, .ref hk), (1, .int (iI (f : Int))), (2, .int (iI (k : Int))), (4, .int (iI ((f + j : Nat) : Int))), (5, .int (iI (t : Int)))] := hl
                refine lv_iinc (k := 5) (v := iI ((t + 1 : Nat) : Int)) hx hb d_Disk_sumOf_56 hl rfl ((iI_add _ _).trans (congrArg iI (by omega))) (by decide) rfl (fun ls hl => ?_)
                have hl : lv_has ls 6 [(5, .int (iI ((t + 1 : Nat) : Int))), (3, .int (iI ((crcK (crcN DB f j ^^^ (DB (f + j)).toNat) (t + 1) : Nat) : Int))), (0, .ref hk), (1, .int (iI (f : Int))), (2, .int (iI (k : Int))), (4, .int (iI ((f + j : Nat) : Int)))] := hl
                refine lv_goto (tgt := 29) hx hb d_Disk_sumOf_59 (by decide) ?_
                exact ih29 (8 - (t + 1)) (by omega) (t + 1) _ _ _ rfl (by omega) (lv_sub hl [2, 3, 4, 1, 5, 0] rfl) hP hD hS
              · skip
                refine lv_iload_n hx hb d_Disk_sumOf_43 rfl (lv_at hl 3 rfl) ?_
                refine lv_iconst (v := iI 1) hx hb d_Disk_sumOf_44 rfl ?_
                refine lv_iushr hx hb d_Disk_sumOf_45 rfl ?_
                refine bk_top (y := iI ((crcK (crcN DB f j ^^^ (DB (f + j)).toNat) t / 2 : Nat) : Int)) (iI_ushr1 hkl) ?_
                refine lv_ldc (v := (-306674912 : Int32)) hx hb hown (hT _ tw_274) d_Disk_sumOf_46 ?_
                refine bk_top (y := iI (-306674912)) (by decide) ?_
                refine lv_ixor hx hb d_Disk_sumOf_48 ?_
                refine bk_top (y := iI ((crcK (crcN DB f j ^^^ (DB (f + j)).toNat) (t + 1) : Nat) : Int)) (by rw [iI_xorM, crcK_odd (by omega)]) ?_
                refine lv_goto (tgt := 55) hx hb d_Disk_sumOf_49 (by decide) ?_
                refine lv_istore_n hx hb d_Disk_sumOf_55 rfl hl (by decide) rfl (fun ls hl => ?_)
                have hl : lv_has ls 6 [(3, .int (iI ((crcK (crcN DB f j ^^^ (DB (f + j)).toNat) (t + 1) : Nat) : Int))), (0, .ref hk), (1, .int (iI (f : Int))), (2, .int (iI (k : Int))), (4, .int (iI ((f + j : Nat) : Int))), (5, .int (iI (t : Int)))] := hl
                refine lv_iinc (k := 5) (v := iI ((t + 1 : Nat) : Int)) hx hb d_Disk_sumOf_56 hl rfl ((iI_add _ _).trans (congrArg iI (by omega))) (by decide) rfl (fun ls hl => ?_)
                have hl : lv_has ls 6 [(5, .int (iI ((t + 1 : Nat) : Int))), (3, .int (iI ((crcK (crcN DB f j ^^^ (DB (f + j)).toNat) (t + 1) : Nat) : Int))), (0, .ref hk), (1, .int (iI (f : Int))), (2, .int (iI (k : Int))), (4, .int (iI ((f + j : Nat) : Int)))] := hl
                refine lv_goto (tgt := 29) hx hb d_Disk_sumOf_59 (by decide) ?_
                exact ih29 (8 - (t + 1)) (by omega) (t + 1) _ _ _ rfl (by omega) (lv_sub hl [2, 3, 4, 1, 5, 0] rfl) hP hD hS
        exact cut29 _ 0 _ _ _ rfl (by omega) (lv_sub hl [2, 3, 4, 1, 5, 0] rfl) hP hD hS
  exact cut5 _ 0 _ _ _ rfl (by omega) (lv_sub hl [2, 3, 4, 1, 0] rfl) hP hD hS
abbrev rm_Disk_numberAt : Room := { frames := 1, cells := 0, slots := 0, locals := 21 }
set_option maxRecDepth 100000 in
set_option maxHeartbeats 4000000 in
theorem c_Disk_numberAt (l : Launch) (D : va_G) (cI cO : ClassId) (hk qd qk : Nat) (DB KS : Nat → Int) (sz bc : Nat) (tn : Int) (f k : Nat) (hsz : sz ≤ 693) (hDB : ∀ j, j < sz → 0 ≤ DB j ∧ DB j ≤ 255) (hfk : f + k ≤ sz) (hk1 : k ≤ 4) : Mi l y_Disk_numberAt b_Disk_numberAt 5 .int rm_Disk_numberAt D cI cO [.ref hk, .int (iI (f : Int)), .int (iI (k : Int))] ([(hk, .inr (0, [.ref qd, .ref qk, .int (iI (sz : Int)), .int (iI (bc : Int)), .int (iI tn)])), (qd, ar cI 693 DB), (qk, ar cI 15 KS)]) (fun (r : Int) (_ : Unit) => r = ((numN DB f k : Nat) : Int)) (fun (_ : Unit) => [(hk, .inr (0, [.ref qd, .ref qk, .int (iI (sz : Int)), .int (iI (bc : Int)), .int (iI tn)])), (qd, ar cI 693 DB), (qk, ar cI 15 KS)]) 0 0 := by
  refine bk_start (by decide) (ble_le rfl) ?_
  intro p e s m args below meth c A ls Q hx hb hr hml hlk hown hnm hT hK hA hAe hQ hP hD hS hl
  have hown : s.vm.findClass "BinnedReads$Disk" = some m.cls := hown
  have hl : lv_has ls 5 [(0, .ref hk), (1, .int (iI (f : Int))), (2, .int (iI (k : Int)))] := hl
  refine lv_iconst (v := iI 0) hx hb d_Disk_numberAt_0 rfl ?_
  refine lv_istore_n hx hb d_Disk_numberAt_1 rfl hl (by decide) rfl (fun ls hl => ?_)
  have hl : lv_has ls 5 [(3, .int (iI 0)), (0, .ref hk), (1, .int (iI (f : Int))), (2, .int (iI (k : Int)))] := hl
  refine lv_iconst (v := iI 0) hx hb d_Disk_numberAt_2 rfl ?_
  refine lv_istore hx hb d_Disk_numberAt_3 hl (by decide) rfl (fun ls hl => ?_)
  have hl : lv_has ls 5 [(4, .int (iI 0)), (3, .int (iI 0)), (0, .ref hk), (1, .int (iI (f : Int))), (2, .int (iI (k : Int)))] := hl
  have cut5 : ∀ (N0 : Nat) (i : Nat) (H : Heap) (locs : List Loc) (ls : Array Slot), k - i = N0 → (i ≤ k) → lv_has ls 5 [(0, .ref hk), (1, .int (iI (f : Int))), (2, .int (iI (k : Int))), (3, .int (iI ((numN DB f i : Nat) : Int))), (4, .int (iI (i : Int)))] → va_P D classes ([(hk, .inr (0, [.ref qd, .ref qk, .int (iI (sz : Int)), .int (iI (bc : Int)), .int (iI tn)])), (qd, ar cI 693 DB), (qk, ar cI 15 KS)]) H → va_D A ([(hk, .inr (0, [.ref qd, .ref qk, .int (iI (sz : Int)), .int (iI (bc : Int)), .int (iI tn)])), (qd, ar cI 693 DB), (qk, ar cI 15 KS)]) → va_S A s.heap H locs → W p l e rm_Disk_numberAt s m args below meth c H locs 0 0 Q (F0 m 5 ls []) := by
    intro N0
    induction N0 using Nat.strongRecOn with
    | _ N0 ih5 =>
      intro i H locs ls hN5 hi hl hP hD hS
      have hnl := numN_lt (F := DB) (f := f) (n := i) (fun z hz => hDB (f + z) (by omega))
      refine lv_iload hx hb d_Disk_numberAt_5 (lv_at hl 4 rfl) ?_
      refine lv_iload_n hx hb d_Disk_numberAt_7 rfl (lv_at hl 2 rfl) ?_
      refine bk_icmp_ge (tgt := 38) hx hb d_Disk_numberAt_8 (by decide) (by omega) (by omega) (fun c8 => ?_) (fun c8 => ?_)
      · skip
        refine lv_iload_n hx hb d_Disk_numberAt_38 rfl (lv_at hl 3 rfl) ?_
        exact bk_reti (r := ((numN DB f i : Nat) : Int)) hx hb hr rfl hlk hAe hQ hS () (by rw [show k = i by omega]) hP hD d_Disk_numberAt_39
      · skip
        have hd0 := hDB (f + i) (by omega)
        refine lv_iload_n hx hb d_Disk_numberAt_11 rfl (lv_at hl 3 rfl) ?_
        refine lv_aload_n hx hb d_Disk_numberAt_12 rfl (lv_at hl 0 rfl) ?_
        refine lv_iload_n hx hb d_Disk_numberAt_13 rfl (lv_at hl 1 rfl) ?_
        refine lv_iload hx hb d_Disk_numberAt_14 (lv_at hl 4 rfl) ?_
        refine bk_add hx hb d_Disk_numberAt_16 ?_
        refine bk_top (y := iI ((f + i : Nat) : Int)) (congrArg iI (by omega)) ?_
        refine bk_fR (ws := [(hk, .inr (0, [.ref qd, .ref qk, .int (iI (sz : Int)), .int (iI (bc : Int)), .int (iI tn)])), (qd, ar cI 693 DB), (qk, ar cI 15 KS)]) (Wc := [(hk, .inr (0, [.ref qd, .ref qk, .int (iI (sz : Int)), .int (iI (bc : Int)), .int (iI tn)])), (qd, ar cI 693 DB), (qk, ar cI 15 KS)]) (fun _ => rfl) (bk_hs (X := [(hk, .inr (0, [.ref qd, .ref qk, .int (iI (sz : Int)), .int (iI (bc : Int)), .int (iI tn)])), (qd, ar cI 693 DB), (qk, ar cI 15 KS)]) (pl := []) (Wc := [(hk, .inr (0, [.ref qd, .ref qk, .int (iI (sz : Int)), .int (iI (bc : Int)), .int (iI tn)])), (qd, ar cI 693 DB), (qk, ar cI 15 KS)]) [0, 1, 2] rfl) hP hD hS hA (bk_rV (rest := [.int (iI ((numN DB f i : Nat) : Int))]) hx hb hml hown hT hK (c_Disk_at_in l D cI cO hk qd qk DB KS sz bc tn (f + i) hsz (by omega)) (bk_subP (X := [(hk, .inr (0, [.ref qd, .ref qk, .int (iI (sz : Int)), .int (iI (bc : Int)), .int (iI tn)])), (qd, ar cI 693 DB), (qk, ar cI 15 KS)]) (pl := []) (Wc := [(hk, .inr (0, [.ref qd, .ref qk, .int (iI (sz : Int)), .int (iI (bc : Int)), .int (iI tn)])), (qd, ar cI 693 DB), (qk, ar cI 15 KS)]) hP [0, 1, 2] rfl) (bk_subD (X := [(hk, .inr (0, [.ref qd, .ref qk, .int (iI (sz : Int)), .int (iI (bc : Int)), .int (iI tn)])), (qd, ar cI 693 DB), (qk, ar cI 15 KS)]) (pl := []) (Wc := [(hk, .inr (0, [.ref qd, .ref qk, .int (iI (sz : Int)), .int (iI (bc : Int)), .int (iI tn)])), (qd, ar cI 693 DB), (qk, ar cI 15 KS)]) hD [0, 1, 2] (by decide) rfl) 0 0 rfl rfl rfl tw_270 tw_271 tw_272 tw_5 tw_273 hd_Disk_at ⟨rfl, rfl⟩ (by decide) hl.1 rfl (ble_le rfl) d_Disk_numberAt_17 (by decide)) (fun r17 u H locs hq hP hS => ?_)
        have hq : r17 = DB (f + i) := hq
        obtain rfl := hq
        refine lv_sipush (v := iI 255) hx hb d_Disk_numberAt_20 (by decide) ?_
        refine lv_iand hx hb d_Disk_numberAt_23 ?_
        refine bk_top (y := iI (((DB (f + i)).toNat : Nat) : Int)) (by rw [iI_and255 (by omega)]; exact congrArg iI (by omega)) ?_
        refine lv_bipush (v := iI 8) hx hb d_Disk_numberAt_24 (by decide) ?_
        refine lv_iload hx hb d_Disk_numberAt_26 (lv_at hl 4 rfl) ?_
        refine bk_mul hx hb d_Disk_numberAt_28 ?_
        refine bk_top (y := iI ((8 * i : Nat) : Int)) (congrArg iI (by omega)) ?_
        refine lv_ishl hx hb d_Disk_numberAt_29 ?_
        refine bk_top (y := iI (((DB (f + i)).toNat * 256 ^ i : Nat) : Int)) (iI_shlB (by omega) (by omega)) ?_
        refine lv_ior hx hb d_Disk_numberAt_30 ?_
        refine bk_top (y := iI ((numN DB f (i + 1) : Nat) : Int)) (iI_orB hnl) ?_
        refine lv_istore_n hx hb d_Disk_numberAt_31 rfl hl (by decide) rfl (fun ls hl => ?_)
        have hl : lv_has ls 5 [(3, .int (iI ((numN DB f (i + 1) : Nat) : Int))), (0, .ref hk), (1, .int (iI (f : Int))), (2, .int (iI (k : Int))), (4, .int (iI (i : Int)))] := hl
        refine lv_iinc (k := 4) (v := iI ((i + 1 : Nat) : Int)) hx hb d_Disk_numberAt_32 hl rfl ((iI_add _ _).trans (congrArg iI (by omega))) (by decide) rfl (fun ls hl => ?_)
        have hl : lv_has ls 5 [(4, .int (iI ((i + 1 : Nat) : Int))), (3, .int (iI ((numN DB f (i + 1) : Nat) : Int))), (0, .ref hk), (1, .int (iI (f : Int))), (2, .int (iI (k : Int)))] := hl
        refine lv_goto (tgt := 5) hx hb d_Disk_numberAt_35 (by decide) ?_
        exact ih5 (k - (i + 1)) (by omega) (i + 1) _ _ _ rfl (by omega) (lv_sub hl [2, 3, 4, 1, 0] rfl) hP hD hS
  exact cut5 _ 0 _ _ _ rfl (by omega) (lv_sub hl [2, 3, 4, 1, 0] rfl) hP hD hS
abbrev rm_Disk_turnBit : Room := { frames := 0, cells := 0, slots := 0, locals := 0 }
set_option maxRecDepth 100000 in
set_option maxHeartbeats 4000000 in
theorem c_Disk_turnBit (l : Launch) (D : va_G) (cI cO : ClassId) (hk qd qk : Nat) (DB KS : Nat → Int) (sz bc : Nat) (tn : Int) (k b : Int) (hsz : sz ≤ 693) (hDB : ∀ j, j < sz → 0 ≤ DB j ∧ DB j ≤ 255) (hk1 : -2147483648 ≤ k ∧ k < 2147483648) (hb1 : -2147483648 ≤ b ∧ b < 2147483648) (htn : -1 ≤ tn ∧ tn < 8 * 693) : Mi l y_Disk_turnBit b_Disk_turnBit 4 .boolean rm_Disk_turnBit D cI cO [.ref hk, .int (iI k), .int (iI b)] ([(hk, .inr (0, [.ref qd, .ref qk, .int (iI (sz : Int)), .int (iI (bc : Int)), .int (iI tn)])), (qd, ar cI 693 DB), (qk, ar cI 15 KS)]) (fun (r : Int) (u : (Nat → Int) × Int) => ((0 ≤ k ∧ k < (sz : Int) ∧ 0 ≤ b ∧ b ≤ 7 ∧ (tn = -1 ∨ tn = 8 * k + b)) ∧ r = 1 ∧ u.1 = bU DB k.toNat (((DB k.toNat).toNat ^^^ 2 ^ b.toNat : Nat) : Int) ∧ u.2 = (if tn = -1 then 8 * k + b else -1)) ∨ (¬ (0 ≤ k ∧ k < (sz : Int) ∧ 0 ≤ b ∧ b ≤ 7 ∧ (tn = -1 ∨ tn = 8 * k + b)) ∧ r = 0 ∧ u.1 = DB ∧ u.2 = tn)) (fun (u : (Nat → Int) × Int) => [(hk, .inr (0, [.ref qd, .ref qk, .int (iI (sz : Int)), .int (iI (bc : Int)), .int (iI u.2)])), (qd, ar cI 693 u.1), (qk, ar cI 15 KS)]) 0 0 := by
  refine bk_start (by decide) (ble_le rfl) ?_
  intro p e s m args below meth c A ls Q hx hb hr hml hlk hown hnm hT hK hA hAe hQ hP hD hS hl
  have hown : s.vm.findClass "BinnedReads$Disk" = some m.cls := hown
  have hl : lv_has ls 4 [(0, .ref hk), (1, .int (iI k)), (2, .int (iI b))] := hl
  refine lv_iload_n hx hb d_Disk_turnBit_0 rfl (lv_at hl 1 rfl) ?_
  refine bk_if_lt (tgt := 22) hx hb d_Disk_turnBit_1 (by decide) (by omega) (fun c1 => ?_) (fun c1 => ?_)
  · skip
    refine lv_iconst (v := iI 0) hx hb d_Disk_turnBit_22 rfl ?_
    exact bk_reti (r := 0) hx hb hr iI_nar0 hlk hAe hQ hS (DB, tn) (Or.inr ⟨by omega, rfl, rfl, rfl⟩) hP hD d_Disk_turnBit_23
  · skip
    refine lv_iload_n hx hb d_Disk_turnBit_4 rfl (lv_at hl 1 rfl) ?_
    refine lv_aload_n hx hb d_Disk_turnBit_5 rfl (lv_at hl 0 rfl) ?_
    refine va_get (ci := 0) (C := R_Disk) (T := F_Disk) (N := 5) hx hb hT in_Disk hown hK.1 hP 0 rfl rfl 2 (by decide) (hT _ tw_99) (fun _ h => h) rfl d_Disk_turnBit_6 ?_
    refine bk_icmp_ge (tgt := 22) hx hb d_Disk_turnBit_9 (by decide) (by omega) (by omega) (fun c9 => ?_) (fun c9 => ?_)
    · skip
      refine lv_iconst (v := iI 0) hx hb d_Disk_turnBit_22 rfl ?_
      exact bk_reti (r := 0) hx hb hr iI_nar0 hlk hAe hQ hS (DB, tn) (Or.inr ⟨by omega, rfl, rfl, rfl⟩) hP hD d_Disk_turnBit_23
    · skip
      refine lv_iload_n hx hb d_Disk_turnBit_12 rfl (lv_at hl 2 rfl) ?_
      refine bk_if_lt (tgt := 22) hx hb d_Disk_turnBit_13 (by decide) (by omega) (fun c13 => ?_) (fun c13 => ?_)
      · skip
        refine lv_iconst (v := iI 0) hx hb d_Disk_turnBit_22 rfl ?_
        exact bk_reti (r := 0) hx hb hr iI_nar0 hlk hAe hQ hS (DB, tn) (Or.inr ⟨by omega, rfl, rfl, rfl⟩) hP hD d_Disk_turnBit_23
      · skip
        refine lv_iload_n hx hb d_Disk_turnBit_16 rfl (lv_at hl 2 rfl) ?_
        refine lv_bipush (v := iI 7) hx hb d_Disk_turnBit_17 (by decide) ?_
        refine bk_icmp_le (tgt := 24) hx hb d_Disk_turnBit_19 (by decide) (by omega) (by omega) (fun c19 => ?_) (fun c19 => ?_)
        · skip
          have hd0 := hDB k.toNat (by omega)
          refine lv_bipush (v := iI 8) hx hb d_Disk_turnBit_24 (by decide) ?_
          refine lv_iload_n hx hb d_Disk_turnBit_26 rfl (lv_at hl 1 rfl) ?_
          refine bk_mul hx hb d_Disk_turnBit_27 ?_
          refine lv_iload_n hx hb d_Disk_turnBit_28 rfl (lv_at hl 2 rfl) ?_
          refine bk_add hx hb d_Disk_turnBit_29 ?_
          refine lv_istore_n hx hb d_Disk_turnBit_30 rfl hl (by decide) rfl (fun ls hl => ?_)
          have hl : lv_has ls 4 [(3, .int (iI (8 * k + b))), (0, .ref hk), (1, .int (iI k)), (2, .int (iI b))] := hl
          refine lv_aload_n hx hb d_Disk_turnBit_31 rfl (lv_at hl 1 rfl) ?_
          refine va_get (ci := 0) (C := R_Disk) (T := F_Disk) (N := 5) hx hb hT in_Disk hown hK.1 hP 0 rfl rfl 4 (by decide) (hT _ tw_103) (fun _ h => h) rfl d_Disk_turnBit_32 ?_
          refine lv_iconst (v := iI (-1)) hx hb d_Disk_turnBit_35 rfl ?_
          refine bk_icmp_eq (tgt := 49) hx hb d_Disk_turnBit_36 (by decide) (by omega) (by omega) (fun c36 => ?_) (fun c36 => ?_)
          · skip
            refine lv_aload_n hx hb d_Disk_turnBit_49 rfl (lv_at hl 1 rfl) ?_
            refine va_get (ci := 0) (C := R_Disk) (T := F_Disk) (N := 5) hx hb hT in_Disk hown hK.1 hP 0 rfl rfl 0 (by decide) (hT _ tw_97) (fun _ h => h) rfl d_Disk_turnBit_50 ?_
            refine lv_iload_n hx hb d_Disk_turnBit_53 rfl (lv_at hl 2 rfl) ?_
            refine lv_dup2_11 hx hb d_Disk_turnBit_54 rfl rfl ?_
            refine bk_iald hx hb hK.1 hP 1 0 rfl rfl k.toNat (by omega) (by decide) d_Disk_turnBit_55 ?_
            refine lv_iconst (v := iI 1) hx hb d_Disk_turnBit_56 rfl ?_
            refine lv_iload_n hx hb d_Disk_turnBit_57 rfl (lv_at hl 3 rfl) ?_
            refine lv_ishl hx hb d_Disk_turnBit_58 ?_
            refine bk_top (y := iI ((2 ^ b.toNat : Nat) : Int)) (iI_shl1 (by omega)) ?_
            refine lv_ixor hx hb d_Disk_turnBit_59 ?_
            refine bk_top (y := iI (((DB k.toNat).toNat ^^^ 2 ^ b.toNat : Nat) : Int)) (iI_xorVV hd0.1 (Int.natCast_nonneg _)) ?_
            refine bk_iast hx hb hK.1 hP hD hS 1 0 rfl rfl k.toNat (by omega) (by decide) d_Disk_turnBit_60 (fun H locs hP hD hS => ?_)
            have hP : va_P D classes ([(hk, .inr (0, [.ref qd, .ref qk, .int (iI (sz : Int)), .int (iI (bc : Int)), .int (iI tn)])), (qd, ar cI 693 (bU DB k.toNat (((DB k.toNat).toNat ^^^ 2 ^ b.toNat : Nat) : Int))), (qk, ar cI 15 KS)]) H := hP
            have hD : va_D A ([(hk, .inr (0, [.ref qd, .ref qk, .int (iI (sz : Int)), .int (iI (bc : Int)), .int (iI tn)])), (qd, ar cI 693 (bU DB k.toNat (((DB k.toNat).toNat ^^^ 2 ^ b.toNat : Nat) : Int))), (qk, ar cI 15 KS)]) := hD
            refine lv_aload_n hx hb d_Disk_turnBit_61 rfl (lv_at hl 1 rfl) ?_
            refine lv_aload_n hx hb d_Disk_turnBit_62 rfl (lv_at hl 1 rfl) ?_
            refine va_get (ci := 0) (C := R_Disk) (T := F_Disk) (N := 5) hx hb hT in_Disk hown hK.1 hP 0 rfl rfl 4 (by decide) (hT _ tw_103) (fun _ h => h) rfl d_Disk_turnBit_63 ?_
            refine lv_iconst (v := iI (-1)) hx hb d_Disk_turnBit_66 rfl ?_
            refine bk_icmp_ne (tgt := 74) hx hb d_Disk_turnBit_67 (by decide) (by omega) (by omega) (fun c67 => ?_) (fun c67 => ?_)
            · skip
              refine lv_iconst (v := iI (-1)) hx hb d_Disk_turnBit_74 rfl ?_
              refine va_put (ci := 0) (v := .int (iI (-1))) (ty := .int) (C := R_Disk) (T := F_Disk) (N := 5) hx hb hT in_Disk t_Disk to_Disk n_Disk hown hK.1 hP hD hS 0 rfl rfl 4 (by decide) (hT _ tw_103) (fun _ h => h) rfl (by decide +kernel) rfl rfl (ble_lt rfl) d_Disk_turnBit_75 (fun H locs hP hD hS => ?_)
              have hP : va_P D classes ([(hk, .inr (0, [.ref qd, .ref qk, .int (iI (sz : Int)), .int (iI (bc : Int)), .int (iI (-1))])), (qd, ar cI 693 (bU DB k.toNat (((DB k.toNat).toNat ^^^ 2 ^ b.toNat : Nat) : Int))), (qk, ar cI 15 KS)]) H := hP
              have hD : va_D A ([(hk, .inr (0, [.ref qd, .ref qk, .int (iI (sz : Int)), .int (iI (bc : Int)), .int (iI (-1))])), (qd, ar cI 693 (bU DB k.toNat (((DB k.toNat).toNat ^^^ 2 ^ b.toNat : Nat) : Int))), (qk, ar cI 15 KS)]) := hD
              refine lv_iconst (v := iI 1) hx hb d_Disk_turnBit_78 rfl ?_
              exact bk_reti (r := 1) hx hb hr iI_nar1 hlk hAe hQ hS (bU DB k.toNat (((DB k.toNat).toNat ^^^ 2 ^ b.toNat : Nat) : Int), (-1)) (Or.inl ⟨by omega, rfl, rfl, by dsimp only; split <;> omega⟩) hP hD d_Disk_turnBit_79
            · skip
              refine lv_iload_n hx hb d_Disk_turnBit_70 rfl (lv_at hl 0 rfl) ?_
              refine lv_goto (tgt := 75) hx hb d_Disk_turnBit_71 (by decide) ?_
              refine va_put (ci := 0) (v := .int (iI (8 * k + b))) (ty := .int) (C := R_Disk) (T := F_Disk) (N := 5) hx hb hT in_Disk t_Disk to_Disk n_Disk hown hK.1 hP hD hS 0 rfl rfl 4 (by decide) (hT _ tw_103) (fun _ h => h) rfl (by decide +kernel) rfl rfl (ble_lt rfl) d_Disk_turnBit_75 (fun H locs hP hD hS => ?_)
              have hP : va_P D classes ([(hk, .inr (0, [.ref qd, .ref qk, .int (iI (sz : Int)), .int (iI (bc : Int)), .int (iI (8 * k + b))])), (qd, ar cI 693 (bU DB k.toNat (((DB k.toNat).toNat ^^^ 2 ^ b.toNat : Nat) : Int))), (qk, ar cI 15 KS)]) H := hP
              have hD : va_D A ([(hk, .inr (0, [.ref qd, .ref qk, .int (iI (sz : Int)), .int (iI (bc : Int)), .int (iI (8 * k + b))])), (qd, ar cI 693 (bU DB k.toNat (((DB k.toNat).toNat ^^^ 2 ^ b.toNat : Nat) : Int))), (qk, ar cI 15 KS)]) := hD
              refine lv_iconst (v := iI 1) hx hb d_Disk_turnBit_78 rfl ?_
              exact bk_reti (r := 1) hx hb hr iI_nar1 hlk hAe hQ hS (bU DB k.toNat (((DB k.toNat).toNat ^^^ 2 ^ b.toNat : Nat) : Int), 8 * k + b) (Or.inl ⟨by omega, rfl, rfl, by dsimp only; split <;> omega⟩) hP hD d_Disk_turnBit_79
          · skip
            refine lv_aload_n hx hb d_Disk_turnBit_39 rfl (lv_at hl 1 rfl) ?_
            refine va_get (ci := 0) (C := R_Disk) (T := F_Disk) (N := 5) hx hb hT in_Disk hown hK.1 hP 0 rfl rfl 4 (by decide) (hT _ tw_103) (fun _ h => h) rfl d_Disk_turnBit_40 ?_
            refine lv_iload_n hx hb d_Disk_turnBit_43 rfl (lv_at hl 0 rfl) ?_
            refine bk_icmp_eq (tgt := 49) hx hb d_Disk_turnBit_44 (by decide) (by omega) (by omega) (fun c44 => ?_) (fun c44 => ?_)
            · skip
              refine lv_aload_n hx hb d_Disk_turnBit_49 rfl (lv_at hl 1 rfl) ?_
              refine va_get (ci := 0) (C := R_Disk) (T := F_Disk) (N := 5) hx hb hT in_Disk hown hK.1 hP 0 rfl rfl 0 (by decide) (hT _ tw_97) (fun _ h => h) rfl d_Disk_turnBit_50 ?_
              refine lv_iload_n hx hb d_Disk_turnBit_53 rfl (lv_at hl 2 rfl) ?_
              refine lv_dup2_11 hx hb d_Disk_turnBit_54 rfl rfl ?_
              refine bk_iald hx hb hK.1 hP 1 0 rfl rfl k.toNat (by omega) (by decide) d_Disk_turnBit_55 ?_
              refine lv_iconst (v := iI 1) hx hb d_Disk_turnBit_56 rfl ?_
              refine lv_iload_n hx hb d_Disk_turnBit_57 rfl (lv_at hl 3 rfl) ?_
              refine lv_ishl hx hb d_Disk_turnBit_58 ?_
              refine bk_top (y := iI ((2 ^ b.toNat : Nat) : Int)) (iI_shl1 (by omega)) ?_
              refine lv_ixor hx hb d_Disk_turnBit_59 ?_
              refine bk_top (y := iI (((DB k.toNat).toNat ^^^ 2 ^ b.toNat : Nat) : Int)) (iI_xorVV hd0.1 (Int.natCast_nonneg _)) ?_
              refine bk_iast hx hb hK.1 hP hD hS 1 0 rfl rfl k.toNat (by omega) (by decide) d_Disk_turnBit_60 (fun H locs hP hD hS => ?_)
              have hP : va_P D classes ([(hk, .inr (0, [.ref qd, .ref qk, .int (iI (sz : Int)), .int (iI (bc : Int)), .int (iI tn)])), (qd, ar cI 693 (bU DB k.toNat (((DB k.toNat).toNat ^^^ 2 ^ b.toNat : Nat) : Int))), (qk, ar cI 15 KS)]) H := hP
              have hD : va_D A ([(hk, .inr (0, [.ref qd, .ref qk, .int (iI (sz : Int)), .int (iI (bc : Int)), .int (iI tn)])), (qd, ar cI 693 (bU DB k.toNat (((DB k.toNat).toNat ^^^ 2 ^ b.toNat : Nat) : Int))), (qk, ar cI 15 KS)]) := hD
              refine lv_aload_n hx hb d_Disk_turnBit_61 rfl (lv_at hl 1 rfl) ?_
              refine lv_aload_n hx hb d_Disk_turnBit_62 rfl (lv_at hl 1 rfl) ?_
              refine va_get (ci := 0) (C := R_Disk) (T := F_Disk) (N := 5) hx hb hT in_Disk hown hK.1 hP 0 rfl rfl 4 (by decide) (hT _ tw_103) (fun _ h => h) rfl d_Disk_turnBit_63 ?_
              refine lv_iconst (v := iI (-1)) hx hb d_Disk_turnBit_66 rfl ?_
              refine bk_icmp_ne (tgt := 74) hx hb d_Disk_turnBit_67 (by decide) (by omega) (by omega) (fun c67 => ?_) (fun c67 => ?_)
              · skip
                refine lv_iconst (v := iI (-1)) hx hb d_Disk_turnBit_74 rfl ?_
                refine va_put (ci := 0) (v := .int (iI (-1))) (ty := .int) (C := R_Disk) (T := F_Disk) (N := 5) hx hb hT in_Disk t_Disk to_Disk n_Disk hown hK.1 hP hD hS 0 rfl rfl 4 (by decide) (hT _ tw_103) (fun _ h => h) rfl (by decide +kernel) rfl rfl (ble_lt rfl) d_Disk_turnBit_75 (fun H locs hP hD hS => ?_)
                have hP : va_P D classes ([(hk, .inr (0, [.ref qd, .ref qk, .int (iI (sz : Int)), .int (iI (bc : Int)), .int (iI (-1))])), (qd, ar cI 693 (bU DB k.toNat (((DB k.toNat).toNat ^^^ 2 ^ b.toNat : Nat) : Int))), (qk, ar cI 15 KS)]) H := hP
                have hD : va_D A ([(hk, .inr (0, [.ref qd, .ref qk, .int (iI (sz : Int)), .int (iI (bc : Int)), .int (iI (-1))])), (qd, ar cI 693 (bU DB k.toNat (((DB k.toNat).toNat ^^^ 2 ^ b.toNat : Nat) : Int))), (qk, ar cI 15 KS)]) := hD
                refine lv_iconst (v := iI 1) hx hb d_Disk_turnBit_78 rfl ?_
                exact bk_reti (r := 1) hx hb hr iI_nar1 hlk hAe hQ hS (bU DB k.toNat (((DB k.toNat).toNat ^^^ 2 ^ b.toNat : Nat) : Int), (-1)) (Or.inl ⟨by omega, rfl, rfl, by dsimp only; split <;> omega⟩) hP hD d_Disk_turnBit_79
              · skip
                refine lv_iload_n hx hb d_Disk_turnBit_70 rfl (lv_at hl 0 rfl) ?_
                refine lv_goto (tgt := 75) hx hb d_Disk_turnBit_71 (by decide) ?_
                refine va_put (ci := 0) (v := .int (iI (8 * k + b))) (ty := .int) (C := R_Disk) (T := F_Disk) (N := 5) hx hb hT in_Disk t_Disk to_Disk n_Disk hown hK.1 hP hD hS 0 rfl rfl 4 (by decide) (hT _ tw_103) (fun _ h => h) rfl (by decide +kernel) rfl rfl (ble_lt rfl) d_Disk_turnBit_75 (fun H locs hP hD hS => ?_)
                have hP : va_P D classes ([(hk, .inr (0, [.ref qd, .ref qk, .int (iI (sz : Int)), .int (iI (bc : Int)), .int (iI (8 * k + b))])), (qd, ar cI 693 (bU DB k.toNat (((DB k.toNat).toNat ^^^ 2 ^ b.toNat : Nat) : Int))), (qk, ar cI 15 KS)]) H := hP
                have hD : va_D A ([(hk, .inr (0, [.ref qd, .ref qk, .int (iI (sz : Int)), .int (iI (bc : Int)), .int (iI (8 * k + b))])), (qd, ar cI 693 (bU DB k.toNat (((DB k.toNat).toNat ^^^ 2 ^ b.toNat : Nat) : Int))), (qk, ar cI 15 KS)]) := hD
                refine lv_iconst (v := iI 1) hx hb d_Disk_turnBit_78 rfl ?_
                exact bk_reti (r := 1) hx hb hr iI_nar1 hlk hAe hQ hS (bU DB k.toNat (((DB k.toNat).toNat ^^^ 2 ^ b.toNat : Nat) : Int), 8 * k + b) (Or.inl ⟨by omega, rfl, rfl, by dsimp only; split <;> omega⟩) hP hD d_Disk_turnBit_79
            · skip
              refine lv_iconst (v := iI 0) hx hb d_Disk_turnBit_47 rfl ?_
              exact bk_reti (r := 0) hx hb hr iI_nar0 hlk hAe hQ hS (DB, tn) (Or.inr ⟨by omega, rfl, rfl, rfl⟩) hP hD d_Disk_turnBit_48
        · skip
          refine lv_iconst (v := iI 0) hx hb d_Disk_turnBit_22 rfl ?_
          exact bk_reti (r := 0) hx hb hr iI_nar0 hlk hAe hQ hS (DB, tn) (Or.inr ⟨by omega, rfl, rfl, rfl⟩) hP hD d_Disk_turnBit_23
abbrev rm_Disk_isSound : Room := { frames := 2, cells := 0, slots := 0, locals := 46 }
set_option maxRecDepth 100000 in
set_option maxHeartbeats 4000000 in
theorem c_Disk_isSound (l : Launch) (D : va_G) (cI cO : ClassId) (hk qd qk : Nat) (DB KS : Nat → Int) (sz bc : Nat) (tn : Int) (b st : Nat) (hsz : sz ≤ 693) (hDB : ∀ j, j < sz → 0 ≤ DB j ∧ DB j ≤ 255) (hb1 : b < bc ∧ bc ≤ 15) (hst : KS b = (st : Int) ∧ st + 11 ≤ sz) : Mi l y_Disk_isSound b_Disk_isSound 5 .boolean rm_Disk_isSound D cI cO [.ref hk, .int (iI (b : Int))] ([(hk, .inr (0, [.ref qd, .ref qk, .int (iI (sz : Int)), .int (iI (bc : Int)), .int (iI tn)])), (qd, ar cI 693 DB), (qk, ar cI 15 KS)]) (fun (r : Int) (_ : Unit) => (sndN DB sz st ∧ r = 1) ∨ (¬ sndN DB sz st ∧ r = 0)) (fun (_ : Unit) => [(hk, .inr (0, [.ref qd, .ref qk, .int (iI (sz : Int)), .int (iI (bc : Int)), .int (iI tn)])), (qd, ar cI 693 DB), (qk, ar cI 15 KS)]) 0 0 := by
  refine bk_start (by decide) (ble_le rfl) ?_
  intro p e s m args below meth c A ls Q hx hb hr hml hlk hown hnm hT hK hA hAe hQ hP hD hS hl
  have hown : s.vm.findClass "BinnedReads$Disk" = some m.cls := hown
  have hl : lv_has ls 5 [(0, .ref hk), (1, .int (iI (b : Int)))] := hl
  have h0 := hDB st (by omega)
  have h1 := hDB (st + 1) (by omega)
  have h2 := hDB (st + 2) (by omega)
  have hn3 : numN DB (st + 3) 2 < 65536 := numN_lt (n := 2) (fun j hj => hDB (st + 3 + j) (by omega))
  have hn5 : numN DB (st + 5) 2 < 65536 := numN_lt (n := 2) (fun j hj => hDB (st + 5 + j) (by omega))
  refine lv_iload_n hx hb d_Disk_isSound_0 rfl (lv_at hl 1 rfl) ?_
  refine bk_if_lt (tgt := 12) hx hb d_Disk_isSound_1 (by decide) (by omega) (fun c1 => ?_) (fun c1 => ?_)
  · skip
    exact absurd c1 (by omega)
  · skip
    refine lv_iload_n hx hb d_Disk_isSound_4 rfl (lv_at hl 1 rfl) ?_
    refine lv_aload_n hx hb d_Disk_isSound_5 rfl (lv_at hl 0 rfl) ?_
    refine va_get (ci := 0) (C := R_Disk) (T := F_Disk) (N := 5) hx hb hT in_Disk hown hK.1 hP 0 rfl rfl 3 (by decide) (hT _ tw_101) (fun _ h => h) rfl d_Disk_isSound_6 ?_
    refine bk_icmp_lt (tgt := 14) hx hb d_Disk_isSound_9 (by decide) (by omega) (by omega) (fun c9 => ?_) (fun c9 => ?_)
    · skip
      refine lv_aload_n hx hb d_Disk_isSound_14 rfl (lv_at hl 0 rfl) ?_
      refine va_get (ci := 0) (C := R_Disk) (T := F_Disk) (N := 5) hx hb hT in_Disk hown hK.1 hP 0 rfl rfl 1 (by decide) (hT _ tw_98) (fun _ h => h) rfl d_Disk_isSound_15 ?_
      refine lv_iload_n hx hb d_Disk_isSound_18 rfl (lv_at hl 1 rfl) ?_
      refine bk_iald hx hb hK.1 hP 2 0 rfl rfl b (by omega) (by decide) d_Disk_isSound_19 ?_
      refine bk_top (y := iI (st : Int)) (by rw [hst.1]) ?_
      refine lv_istore_n hx hb d_Disk_isSound_20 rfl hl (by decide) rfl (fun ls hl => ?_)
      have hl : lv_has ls 5 [(2, .int (iI (st : Int))), (0, .ref hk), (1, .int (iI (b : Int)))] := hl
      refine lv_aload_n hx hb d_Disk_isSound_21 rfl (lv_at hl 1 rfl) ?_
      refine lv_iload_n hx hb d_Disk_isSound_22 rfl (lv_at hl 0 rfl) ?_
      refine bk_fR (ws := [(hk, .inr (0, [.ref qd, .ref qk, .int (iI (sz : Int)), .int (iI (bc : Int)), .int (iI tn)])), (qd, ar cI 693 DB), (qk, ar cI 15 KS)]) (Wc := [(hk, .inr (0, [.ref qd, .ref qk, .int (iI (sz : Int)), .int (iI (bc : Int)), .int (iI tn)])), (qd, ar cI 693 DB), (qk, ar cI 15 KS)]) (fun _ => rfl) (bk_hs (X := [(hk, .inr (0, [.ref qd, .ref qk, .int (iI (sz : Int)), .int (iI (bc : Int)), .int (iI tn)])), (qd, ar cI 693 DB), (qk, ar cI 15 KS)]) (pl := []) (Wc := [(hk, .inr (0, [.ref qd, .ref qk, .int (iI (sz : Int)), .int (iI (bc : Int)), .int (iI tn)])), (qd, ar cI 693 DB), (qk, ar cI 15 KS)]) [0, 1, 2] rfl) hP hD hS hA (bk_rV (rest := []) hx hb hml hown hT hK (c_Disk_at_in l D cI cO hk qd qk DB KS sz bc tn st hsz (by omega)) (bk_subP (X := [(hk, .inr (0, [.ref qd, .ref qk, .int (iI (sz : Int)), .int (iI (bc : Int)), .int (iI tn)])), (qd, ar cI 693 DB), (qk, ar cI 15 KS)]) (pl := []) (Wc := [(hk, .inr (0, [.ref qd, .ref qk, .int (iI (sz : Int)), .int (iI (bc : Int)), .int (iI tn)])), (qd, ar cI 693 DB), (qk, ar cI 15 KS)]) hP [0, 1, 2] rfl) (bk_subD (X := [(hk, .inr (0, [.ref qd, .ref qk, .int (iI (sz : Int)), .int (iI (bc : Int)), .int (iI tn)])), (qd, ar cI 693 DB), (qk, ar cI 15 KS)]) (pl := []) (Wc := [(hk, .inr (0, [.ref qd, .ref qk, .int (iI (sz : Int)), .int (iI (bc : Int)), .int (iI tn)])), (qd, ar cI 693 DB), (qk, ar cI 15 KS)]) hD [0, 1, 2] (by decide) rfl) 0 0 rfl rfl rfl tw_270 tw_271 tw_272 tw_5 tw_273 hd_Disk_at ⟨rfl, rfl⟩ (by decide) hl.1 rfl (ble_le rfl) d_Disk_isSound_23 (by decide)) (fun r23 u H locs hq hP hS => ?_)
      have hq : r23 = DB st := hq
      obtain rfl := hq
      refine lv_bipush (v := iI 31) hx hb d_Disk_isSound_26 (by decide) ?_
      refine bk_icmp_ne (tgt := 55) hx hb d_Disk_isSound_28 (by decide) (by omega) (by omega) (fun c28 => ?_) (fun c28 => ?_)
      · skip
        refine lv_iconst (v := iI 0) hx hb d_Disk_isSound_55 rfl ?_
        exact bk_reti (r := 0) hx hb hr iI_nar0 hlk hAe hQ hS () (Or.inr ⟨fun q => by obtain ⟨q1, q2, q3, q4, q5, q6⟩ := q; omega, rfl⟩) hP hD d_Disk_isSound_56
      · skip
        refine lv_aload_n hx hb d_Disk_isSound_31 rfl (lv_at hl 1 rfl) ?_
        refine lv_iload_n hx hb d_Disk_isSound_32 rfl (lv_at hl 0 rfl) ?_
        refine lv_iconst (v := iI 1) hx hb d_Disk_isSound_33 rfl ?_
        refine bk_add hx hb d_Disk_isSound_34 ?_
        refine bk_top (y := iI ((st + 1 : Nat) : Int)) (congrArg iI (by omega)) ?_
        refine bk_fR (ws := [(hk, .inr (0, [.ref qd, .ref qk, .int (iI (sz : Int)), .int (iI (bc : Int)), .int (iI tn)])), (qd, ar cI 693 DB), (qk, ar cI 15 KS)]) (Wc := [(hk, .inr (0, [.ref qd, .ref qk, .int (iI (sz : Int)), .int (iI (bc : Int)), .int (iI tn)])), (qd, ar cI 693 DB), (qk, ar cI 15 KS)]) (fun _ => rfl) (bk_hs (X := [(hk, .inr (0, [.ref qd, .ref qk, .int (iI (sz : Int)), .int (iI (bc : Int)), .int (iI tn)])), (qd, ar cI 693 DB), (qk, ar cI 15 KS)]) (pl := []) (Wc := [(hk, .inr (0, [.ref qd, .ref qk, .int (iI (sz : Int)), .int (iI (bc : Int)), .int (iI tn)])), (qd, ar cI 693 DB), (qk, ar cI 15 KS)]) [0, 1, 2] rfl) hP hD hS hA (bk_rV (rest := []) hx hb hml hown hT hK (c_Disk_at_in l D cI cO hk qd qk DB KS sz bc tn (st + 1) hsz (by omega)) (bk_subP (X := [(hk, .inr (0, [.ref qd, .ref qk, .int (iI (sz : Int)), .int (iI (bc : Int)), .int (iI tn)])), (qd, ar cI 693 DB), (qk, ar cI 15 KS)]) (pl := []) (Wc := [(hk, .inr (0, [.ref qd, .ref qk, .int (iI (sz : Int)), .int (iI (bc : Int)), .int (iI tn)])), (qd, ar cI 693 DB), (qk, ar cI 15 KS)]) hP [0, 1, 2] rfl) (bk_subD (X := [(hk, .inr (0, [.ref qd, .ref qk, .int (iI (sz : Int)), .int (iI (bc : Int)), .int (iI tn)])), (qd, ar cI 693 DB), (qk, ar cI 15 KS)]) (pl := []) (Wc := [(hk, .inr (0, [.ref qd, .ref qk, .int (iI (sz : Int)), .int (iI (bc : Int)), .int (iI tn)])), (qd, ar cI 693 DB), (qk, ar cI 15 KS)]) hD [0, 1, 2] (by decide) rfl) 0 0 rfl rfl rfl tw_270 tw_271 tw_272 tw_5 tw_273 hd_Disk_at ⟨rfl, rfl⟩ (by decide) hl.1 rfl (ble_le rfl) d_Disk_isSound_35 (by decide)) (fun r35 u H locs hq hP hS => ?_)
        have hq : r35 = DB (st + 1) := hq
        obtain rfl := hq
        refine lv_sipush (v := iI 139) hx hb d_Disk_isSound_38 (by decide) ?_
        refine bk_icmp_ne (tgt := 55) hx hb d_Disk_isSound_41 (by decide) (by omega) (by omega) (fun c41 => ?_) (fun c41 => ?_)
        · skip
          refine lv_iconst (v := iI 0) hx hb d_Disk_isSound_55 rfl ?_
          exact bk_reti (r := 0) hx hb hr iI_nar0 hlk hAe hQ hS () (Or.inr ⟨fun q => by obtain ⟨q1, q2, q3, q4, q5, q6⟩ := q; omega, rfl⟩) hP hD d_Disk_isSound_56
        · skip
          refine lv_aload_n hx hb d_Disk_isSound_44 rfl (lv_at hl 1 rfl) ?_
          refine lv_iload_n hx hb d_Disk_isSound_45 rfl (lv_at hl 0 rfl) ?_
          refine lv_iconst (v := iI 2) hx hb d_Disk_isSound_46 rfl ?_
          refine bk_add hx hb d_Disk_isSound_47 ?_
          refine bk_top (y := iI ((st + 2 : Nat) : Int)) (congrArg iI (by omega)) ?_
          refine bk_fR (ws := [(hk, .inr (0, [.ref qd, .ref qk, .int (iI (sz : Int)), .int (iI (bc : Int)), .int (iI tn)])), (qd, ar cI 693 DB), (qk, ar cI 15 KS)]) (Wc := [(hk, .inr (0, [.ref qd, .ref qk, .int (iI (sz : Int)), .int (iI (bc : Int)), .int (iI tn)])), (qd, ar cI 693 DB), (qk, ar cI 15 KS)]) (fun _ => rfl) (bk_hs (X := [(hk, .inr (0, [.ref qd, .ref qk, .int (iI (sz : Int)), .int (iI (bc : Int)), .int (iI tn)])), (qd, ar cI 693 DB), (qk, ar cI 15 KS)]) (pl := []) (Wc := [(hk, .inr (0, [.ref qd, .ref qk, .int (iI (sz : Int)), .int (iI (bc : Int)), .int (iI tn)])), (qd, ar cI 693 DB), (qk, ar cI 15 KS)]) [0, 1, 2] rfl) hP hD hS hA (bk_rV (rest := []) hx hb hml hown hT hK (c_Disk_at_in l D cI cO hk qd qk DB KS sz bc tn (st + 2) hsz (by omega)) (bk_subP (X := [(hk, .inr (0, [.ref qd, .ref qk, .int (iI (sz : Int)), .int (iI (bc : Int)), .int (iI tn)])), (qd, ar cI 693 DB), (qk, ar cI 15 KS)]) (pl := []) (Wc := [(hk, .inr (0, [.ref qd, .ref qk, .int (iI (sz : Int)), .int (iI (bc : Int)), .int (iI tn)])), (qd, ar cI 693 DB), (qk, ar cI 15 KS)]) hP [0, 1, 2] rfl) (bk_subD (X := [(hk, .inr (0, [.ref qd, .ref qk, .int (iI (sz : Int)), .int (iI (bc : Int)), .int (iI tn)])), (qd, ar cI 693 DB), (qk, ar cI 15 KS)]) (pl := []) (Wc := [(hk, .inr (0, [.ref qd, .ref qk, .int (iI (sz : Int)), .int (iI (bc : Int)), .int (iI tn)])), (qd, ar cI 693 DB), (qk, ar cI 15 KS)]) hD [0, 1, 2] (by decide) rfl) 0 0 rfl rfl rfl tw_270 tw_271 tw_272 tw_5 tw_273 hd_Disk_at ⟨rfl, rfl⟩ (by decide) hl.1 rfl (ble_le rfl) d_Disk_isSound_48 (by decide)) (fun r48 u H locs hq hP hS => ?_)
          have hq : r48 = DB (st + 2) := hq
          obtain rfl := hq
          refine lv_iconst (v := iI 1) hx hb d_Disk_isSound_51 rfl ?_
          refine bk_icmp_eq (tgt := 57) hx hb d_Disk_isSound_52 (by decide) (by omega) (by omega) (fun c52 => ?_) (fun c52 => ?_)
          · skip
            refine lv_aload_n hx hb d_Disk_isSound_57 rfl (lv_at hl 1 rfl) ?_
            refine lv_iload_n hx hb d_Disk_isSound_58 rfl (lv_at hl 0 rfl) ?_
            refine lv_iconst (v := iI 3) hx hb d_Disk_isSound_59 rfl ?_
            refine bk_add hx hb d_Disk_isSound_60 ?_
            refine bk_top (y := iI ((st + 3 : Nat) : Int)) (congrArg iI (by omega)) ?_
            refine lv_iconst (v := iI 2) hx hb d_Disk_isSound_61 rfl ?_
            refine bk_fR (ws := [(hk, .inr (0, [.ref qd, .ref qk, .int (iI (sz : Int)), .int (iI (bc : Int)), .int (iI tn)])), (qd, ar cI 693 DB), (qk, ar cI 15 KS)]) (Wc := [(hk, .inr (0, [.ref qd, .ref qk, .int (iI (sz : Int)), .int (iI (bc : Int)), .int (iI tn)])), (qd, ar cI 693 DB), (qk, ar cI 15 KS)]) (fun _ => rfl) (bk_hs (X := [(hk, .inr (0, [.ref qd, .ref qk, .int (iI (sz : Int)), .int (iI (bc : Int)), .int (iI tn)])), (qd, ar cI 693 DB), (qk, ar cI 15 KS)]) (pl := []) (Wc := [(hk, .inr (0, [.ref qd, .ref qk, .int (iI (sz : Int)), .int (iI (bc : Int)), .int (iI tn)])), (qd, ar cI 693 DB), (qk, ar cI 15 KS)]) [0, 1, 2] rfl) hP hD hS hA (bk_rV (rest := []) hx hb hml hown hT hK (c_Disk_numberAt l D cI cO hk qd qk DB KS sz bc tn (st + 3) 2 hsz hDB (by omega) (by decide)) (bk_subP (X := [(hk, .inr (0, [.ref qd, .ref qk, .int (iI (sz : Int)), .int (iI (bc : Int)), .int (iI tn)])), (qd, ar cI 693 DB), (qk, ar cI 15 KS)]) (pl := []) (Wc := [(hk, .inr (0, [.ref qd, .ref qk, .int (iI (sz : Int)), .int (iI (bc : Int)), .int (iI tn)])), (qd, ar cI 693 DB), (qk, ar cI 15 KS)]) hP [0, 1, 2] rfl) (bk_subD (X := [(hk, .inr (0, [.ref qd, .ref qk, .int (iI (sz : Int)), .int (iI (bc : Int)), .int (iI tn)])), (qd, ar cI 693 DB), (qk, ar cI 15 KS)]) (pl := []) (Wc := [(hk, .inr (0, [.ref qd, .ref qk, .int (iI (sz : Int)), .int (iI (bc : Int)), .int (iI tn)])), (qd, ar cI 693 DB), (qk, ar cI 15 KS)]) hD [0, 1, 2] (by decide) rfl) 0 0 rfl rfl rfl tw_320 tw_322 ts_6 tw_5 tw_323 hd_Disk_numberAt ⟨rfl, rfl⟩ (by decide) hl.1 rfl (ble_le rfl) d_Disk_isSound_62 (by decide)) (fun r62 u H locs hq hP hS => ?_)
            have hq : r62 = ((numN DB (st + 3) 2 : Nat) : Int) := hq
            obtain rfl := hq
            refine lv_istore_n hx hb d_Disk_isSound_65 rfl hl (by decide) rfl (fun ls hl => ?_)
            have hl : lv_has ls 5 [(3, .int (iI ((numN DB (st + 3) 2 : Nat) : Int))), (2, .int (iI (st : Int))), (0, .ref hk), (1, .int (iI (b : Int)))] := hl
            refine lv_aload_n hx hb d_Disk_isSound_66 rfl (lv_at hl 2 rfl) ?_
            refine lv_iload_n hx hb d_Disk_isSound_67 rfl (lv_at hl 1 rfl) ?_
            refine lv_iconst (v := iI 5) hx hb d_Disk_isSound_68 rfl ?_
            refine bk_add hx hb d_Disk_isSound_69 ?_
            refine bk_top (y := iI ((st + 5 : Nat) : Int)) (congrArg iI (by omega)) ?_
            refine lv_iconst (v := iI 2) hx hb d_Disk_isSound_70 rfl ?_
            refine bk_fR (ws := [(hk, .inr (0, [.ref qd, .ref qk, .int (iI (sz : Int)), .int (iI (bc : Int)), .int (iI tn)])), (qd, ar cI 693 DB), (qk, ar cI 15 KS)]) (Wc := [(hk, .inr (0, [.ref qd, .ref qk, .int (iI (sz : Int)), .int (iI (bc : Int)), .int (iI tn)])), (qd, ar cI 693 DB), (qk, ar cI 15 KS)]) (fun _ => rfl) (bk_hs (X := [(hk, .inr (0, [.ref qd, .ref qk, .int (iI (sz : Int)), .int (iI (bc : Int)), .int (iI tn)])), (qd, ar cI 693 DB), (qk, ar cI 15 KS)]) (pl := []) (Wc := [(hk, .inr (0, [.ref qd, .ref qk, .int (iI (sz : Int)), .int (iI (bc : Int)), .int (iI tn)])), (qd, ar cI 693 DB), (qk, ar cI 15 KS)]) [0, 1, 2] rfl) hP hD hS hA (bk_rV (rest := []) hx hb hml hown hT hK (c_Disk_numberAt l D cI cO hk qd qk DB KS sz bc tn (st + 5) 2 hsz hDB (by omega) (by decide)) (bk_subP (X := [(hk, .inr (0, [.ref qd, .ref qk, .int (iI (sz : Int)), .int (iI (bc : Int)), .int (iI tn)])), (qd, ar cI 693 DB), (qk, ar cI 15 KS)]) (pl := []) (Wc := [(hk, .inr (0, [.ref qd, .ref qk, .int (iI (sz : Int)), .int (iI (bc : Int)), .int (iI tn)])), (qd, ar cI 693 DB), (qk, ar cI 15 KS)]) hP [0, 1, 2] rfl) (bk_subD (X := [(hk, .inr (0, [.ref qd, .ref qk, .int (iI (sz : Int)), .int (iI (bc : Int)), .int (iI tn)])), (qd, ar cI 693 DB), (qk, ar cI 15 KS)]) (pl := []) (Wc := [(hk, .inr (0, [.ref qd, .ref qk, .int (iI (sz : Int)), .int (iI (bc : Int)), .int (iI tn)])), (qd, ar cI 693 DB), (qk, ar cI 15 KS)]) hD [0, 1, 2] (by decide) rfl) 0 0 rfl rfl rfl tw_320 tw_322 ts_6 tw_5 tw_323 hd_Disk_numberAt ⟨rfl, rfl⟩ (by decide) hl.1 rfl (ble_le rfl) d_Disk_isSound_71 (by decide)) (fun r71 u H locs hq hP hS => ?_)
            have hq : r71 = ((numN DB (st + 5) 2 : Nat) : Int) := hq
            obtain rfl := hq
            refine lv_iload_n hx hb d_Disk_isSound_74 rfl (lv_at hl 0 rfl) ?_
            refine lv_iconst (v := iI (-1)) hx hb d_Disk_isSound_75 rfl ?_
            refine lv_ixor hx hb d_Disk_isSound_76 ?_
            refine bk_top (y := iI ((numN DB (st + 3) 2 ^^^ 4294967295 : Nat) : Int)) (iI_not _) ?_
            refine lv_ldc (v := (65535 : Int32)) hx hb hown (hT _ tw_324) d_Disk_isSound_77 ?_
            refine bk_top (y := iI 65535) (by decide) ?_
            refine lv_iand hx hb d_Disk_isSound_79 ?_
            refine bk_top (y := iI (((numN DB (st + 3) 2 ^^^ 4294967295) % 65536 : Nat) : Int)) (iI_andW (xor32 (by omega) (by decide))) ?_
            refine bk_icmp_eq (tgt := 85) hx hb d_Disk_isSound_80 (by decide) (by omega) (by omega) (fun c80 => ?_) (fun c80 => ?_)
            · skip
              refine lv_iload_n hx hb d_Disk_isSound_85 rfl (lv_at hl 1 rfl) ?_
              refine lv_bipush (v := iI 7) hx hb d_Disk_isSound_86 (by decide) ?_
              refine bk_add hx hb d_Disk_isSound_88 ?_
              refine bk_top (y := iI ((st + 7 : Nat) : Int)) (congrArg iI (by omega)) ?_
              refine lv_istore hx hb d_Disk_isSound_89 hl (by decide) rfl (fun ls hl => ?_)
              have hl : lv_has ls 5 [(4, .int (iI ((st + 7 : Nat) : Int))), (3, .int (iI ((numN DB (st + 3) 2 : Nat) : Int))), (2, .int (iI (st : Int))), (0, .ref hk), (1, .int (iI (b : Int)))] := hl
              refine lv_iload hx hb d_Disk_isSound_91 (lv_at hl 0 rfl) ?_
              refine lv_iload_n hx hb d_Disk_isSound_93 rfl (lv_at hl 1 rfl) ?_
              refine bk_add hx hb d_Disk_isSound_94 ?_
              refine bk_top (y := iI ((st + 7 + (numN DB (st + 3) 2) : Nat) : Int)) (congrArg iI (by omega)) ?_
              refine lv_iconst (v := iI 4) hx hb d_Disk_isSound_95 rfl ?_
              refine bk_add hx hb d_Disk_isSound_96 ?_
              refine bk_top (y := iI ((st + 7 + (numN DB (st + 3) 2) + 4 : Nat) : Int)) (congrArg iI (by omega)) ?_
              refine lv_aload_n hx hb d_Disk_isSound_97 rfl (lv_at hl 3 rfl) ?_
              refine va_get (ci := 0) (C := R_Disk) (T := F_Disk) (N := 5) hx hb hT in_Disk hown hK.1 hP 0 rfl rfl 2 (by decide) (hT _ tw_99) (fun _ h => h) rfl d_Disk_isSound_98 ?_
              refine bk_icmp_gt (tgt := 127) hx hb d_Disk_isSound_101 (by decide) (by omega) (by omega) (fun c101 => ?_) (fun c101 => ?_)
              · skip
                refine lv_iconst (v := iI 0) hx hb d_Disk_isSound_127 rfl ?_
                exact bk_reti (r := 0) hx hb hr iI_nar0 hlk hAe hQ hS () (by first | exact Or.inl ⟨⟨by omega, by omega, by omega, by omega, by omega, by omega⟩, rfl⟩ | exact Or.inr ⟨fun q => (by obtain ⟨q1, q2, q3, q4, q5, q6⟩ := q; omega), rfl⟩) hP hD d_Disk_isSound_128
              · skip
                have hn4 : numN DB (st + 7 + numN DB (st + 3) 2) 4 < 4294967296 := numN_lt (n := 4) (fun j hj => hDB (st + 7 + numN DB (st + 3) 2 + j) (by omega))
                have hs4 : crcN DB (st + 7) (numN DB (st + 3) 2) ^^^ 4294967295 < 4294967296 := xor32 (crcN_lt (fun j hj => hDB (st + 7 + j) (by omega))) (by decide)
                refine lv_aload_n hx hb d_Disk_isSound_104 rfl (lv_at hl 3 rfl) ?_
                refine lv_iload hx hb d_Disk_isSound_105 (lv_at hl 0 rfl) ?_
                refine lv_iload_n hx hb d_Disk_isSound_107 rfl (lv_at hl 1 rfl) ?_
                refine bk_add hx hb d_Disk_isSound_108 ?_
                refine bk_top (y := iI ((st + 7 + (numN DB (st + 3) 2) : Nat) : Int)) (congrArg iI (by omega)) ?_
                refine lv_iconst (v := iI 4) hx hb d_Disk_isSound_109 rfl ?_
                refine bk_fR (ws := [(hk, .inr (0, [.ref qd, .ref qk, .int (iI (sz : Int)), .int (iI (bc : Int)), .int (iI tn)])), (qd, ar cI 693 DB), (qk, ar cI 15 KS)]) (Wc := [(hk, .inr (0, [.ref qd, .ref qk, .int (iI (sz : Int)), .int (iI (bc : Int)), .int (iI tn)])), (qd, ar cI 693 DB), (qk, ar cI 15 KS)]) (fun _ => rfl) (bk_hs (X := [(hk, .inr (0, [.ref qd, .ref qk, .int (iI (sz : Int)), .int (iI (bc : Int)), .int (iI tn)])), (qd, ar cI 693 DB), (qk, ar cI 15 KS)]) (pl := []) (Wc := [(hk, .inr (0, [.ref qd, .ref qk, .int (iI (sz : Int)), .int (iI (bc : Int)), .int (iI tn)])), (qd, ar cI 693 DB), (qk, ar cI 15 KS)]) [0, 1, 2] rfl) hP hD hS hA (bk_rV (rest := []) hx hb hml hown hT hK (c_Disk_numberAt l D cI cO hk qd qk DB KS sz bc tn (st + 7 + numN DB (st + 3) 2) 4 hsz hDB (by omega) (by decide)) (bk_subP (X := [(hk, .inr (0, [.ref qd, .ref qk, .int (iI (sz : Int)), .int (iI (bc : Int)), .int (iI tn)])), (qd, ar cI 693 DB), (qk, ar cI 15 KS)]) (pl := []) (Wc := [(hk, .inr (0, [.ref qd, .ref qk, .int (iI (sz : Int)), .int (iI (bc : Int)), .int (iI tn)])), (qd, ar cI 693 DB), (qk, ar cI 15 KS)]) hP [0, 1, 2] rfl) (bk_subD (X := [(hk, .inr (0, [.ref qd, .ref qk, .int (iI (sz : Int)), .int (iI (bc : Int)), .int (iI tn)])), (qd, ar cI 693 DB), (qk, ar cI 15 KS)]) (pl := []) (Wc := [(hk, .inr (0, [.ref qd, .ref qk, .int (iI (sz : Int)), .int (iI (bc : Int)), .int (iI tn)])), (qd, ar cI 693 DB), (qk, ar cI 15 KS)]) hD [0, 1, 2] (by decide) rfl) 0 0 rfl rfl rfl tw_320 tw_322 ts_6 tw_5 tw_323 hd_Disk_numberAt ⟨rfl, rfl⟩ (by decide) hl.1 rfl (ble_le rfl) d_Disk_isSound_110 (by decide)) (fun r110 u H locs hq hP hS => ?_)
                have hq : r110 = ((numN DB (st + 7 + numN DB (st + 3) 2) 4 : Nat) : Int) := hq
                obtain rfl := hq
                refine lv_aload_n hx hb d_Disk_isSound_113 rfl (lv_at hl 3 rfl) ?_
                refine lv_iload hx hb d_Disk_isSound_114 (lv_at hl 0 rfl) ?_
                refine lv_iload_n hx hb d_Disk_isSound_116 rfl (lv_at hl 1 rfl) ?_
                refine bk_fR (ws := [(hk, .inr (0, [.ref qd, .ref qk, .int (iI (sz : Int)), .int (iI (bc : Int)), .int (iI tn)])), (qd, ar cI 693 DB), (qk, ar cI 15 KS)]) (Wc := [(hk, .inr (0, [.ref qd, .ref qk, .int (iI (sz : Int)), .int (iI (bc : Int)), .int (iI tn)])), (qd, ar cI 693 DB), (qk, ar cI 15 KS)]) (fun _ => rfl) (bk_hs (X := [(hk, .inr (0, [.ref qd, .ref qk, .int (iI (sz : Int)), .int (iI (bc : Int)), .int (iI tn)])), (qd, ar cI 693 DB), (qk, ar cI 15 KS)]) (pl := []) (Wc := [(hk, .inr (0, [.ref qd, .ref qk, .int (iI (sz : Int)), .int (iI (bc : Int)), .int (iI tn)])), (qd, ar cI 693 DB), (qk, ar cI 15 KS)]) [0, 1, 2] rfl) hP hD hS hA (bk_rV (rest := [.int (iI ((numN DB (st + 7 + numN DB (st + 3) 2) 4 : Nat) : Int))]) hx hb hml hown hT hK (c_Disk_sumOf l D cI cO hk qd qk DB KS sz bc tn (st + 7) (numN DB (st + 3) 2) hsz hDB (by omega)) (bk_subP (X := [(hk, .inr (0, [.ref qd, .ref qk, .int (iI (sz : Int)), .int (iI (bc : Int)), .int (iI tn)])), (qd, ar cI 693 DB), (qk, ar cI 15 KS)]) (pl := []) (Wc := [(hk, .inr (0, [.ref qd, .ref qk, .int (iI (sz : Int)), .int (iI (bc : Int)), .int (iI tn)])), (qd, ar cI 693 DB), (qk, ar cI 15 KS)]) hP [0, 1, 2] rfl) (bk_subD (X := [(hk, .inr (0, [.ref qd, .ref qk, .int (iI (sz : Int)), .int (iI (bc : Int)), .int (iI tn)])), (qd, ar cI 693 DB), (qk, ar cI 15 KS)]) (pl := []) (Wc := [(hk, .inr (0, [.ref qd, .ref qk, .int (iI (sz : Int)), .int (iI (bc : Int)), .int (iI tn)])), (qd, ar cI 693 DB), (qk, ar cI 15 KS)]) hD [0, 1, 2] (by decide) rfl) 0 0 rfl rfl rfl tw_266 tw_268 ts_4 tw_5 tw_269 hd_Disk_sumOf ⟨rfl, rfl⟩ (by decide) hl.1 rfl (ble_le rfl) d_Disk_isSound_117 (by decide)) (fun r117 u H locs hq hP hS => ?_)
                have hq : r117 = ((crcN DB (st + 7) (numN DB (st + 3) 2) ^^^ 4294967295 : Nat) : Int) := hq
                obtain rfl := hq
                refine bk_icmpU_ne (tgt := 127) hx hb d_Disk_isSound_120 (by decide) (by omega) (by omega) (fun c120 => ?_) (fun c120 => ?_)
                · skip
                  refine lv_iconst (v := iI 0) hx hb d_Disk_isSound_127 rfl ?_
                  exact bk_reti (r := 0) hx hb hr iI_nar0 hlk hAe hQ hS () (by first | exact Or.inl ⟨⟨by omega, by omega, by omega, by omega, by omega, by omega⟩, rfl⟩ | exact Or.inr ⟨fun q => (by obtain ⟨q1, q2, q3, q4, q5, q6⟩ := q; omega), rfl⟩) hP hD d_Disk_isSound_128
                · skip
                  refine lv_iconst (v := iI 1) hx hb d_Disk_isSound_123 rfl ?_
                  refine lv_goto (tgt := 128) hx hb d_Disk_isSound_124 (by decide) ?_
                  exact bk_reti (r := 1) hx hb hr iI_nar1 hlk hAe hQ hS () (by first | exact Or.inl ⟨⟨by omega, by omega, by omega, by omega, by omega, by omega⟩, rfl⟩ | exact Or.inr ⟨fun q => (by obtain ⟨q1, q2, q3, q4, q5, q6⟩ := q; omega), rfl⟩) hP hD d_Disk_isSound_128
            · skip
              refine lv_iconst (v := iI 0) hx hb d_Disk_isSound_83 rfl ?_
              exact bk_reti (r := 0) hx hb hr iI_nar0 hlk hAe hQ hS () (Or.inr ⟨fun q => by obtain ⟨q1, q2, q3, q4, q5, q6⟩ := q; omega, rfl⟩) hP hD d_Disk_isSound_84
          · skip
            refine lv_iconst (v := iI 0) hx hb d_Disk_isSound_55 rfl ?_
            exact bk_reti (r := 0) hx hb hr iI_nar0 hlk hAe hQ hS () (Or.inr ⟨fun q => by obtain ⟨q1, q2, q3, q4, q5, q6⟩ := q; omega, rfl⟩) hP hD d_Disk_isSound_56
    · skip
      exact absurd c9 (by omega)
abbrev rm_Disk_areSound : Room := { frames := 3, cells := 0, slots := 0, locals := 70 }
set_option maxRecDepth 100000 in
set_option maxHeartbeats 4000000 in
theorem c_Disk_areSound (l : Launch) (D : va_G) (cI cO : ClassId) (hk qd qk : Nat) (DB KS : Nat → Int) (sz bc : Nat) (tn : Int) (f : Nat) (x : Int) (hsz : sz ≤ 693) (hDB : ∀ j, j < sz → 0 ≤ DB j ∧ DB j ≤ 255) (hbc : bc ≤ 15) (hKS : ∀ z, z < bc → 0 ≤ KS z ∧ KS z + 11 ≤ (sz : Int)) (hx1 : -1 ≤ x ∧ x < (bc : Int)) (hf1 : f ≤ 1000) : Mi l y_Disk_areSound b_Disk_areSound 4 .boolean rm_Disk_areSound D cI cO [.ref hk, .int (iI (f : Int)), .int (iI x)] ([(hk, .inr (0, [.ref qd, .ref qk, .int (iI (sz : Int)), .int (iI (bc : Int)), .int (iI tn)])), (qd, ar cI 693 DB), (qk, ar cI 15 KS)]) (fun (r : Int) (_ : Unit) => ((∀ z : Nat, f ≤ z → (z : Int) ≤ x → sndN DB sz (KS z).toNat) ∧ r = 1) ∨ (¬ (∀ z : Nat, f ≤ z → (z : Int) ≤ x → sndN DB sz (KS z).toNat) ∧ r = 0)) (fun (_ : Unit) => [(hk, .inr (0, [.ref qd, .ref qk, .int (iI (sz : Int)), .int (iI (bc : Int)), .int (iI tn)])), (qd, ar cI 693 DB), (qk, ar cI 15 KS)]) 0 0 := by
  refine bk_start (by decide) (ble_le rfl) ?_
  intro p e s m args below meth c A ls Q hx hb hr hml hlk hown hnm hT hK hA hAe hQ hP hD hS hl
  have hown : s.vm.findClass "BinnedReads$Disk" = some m.cls := hown
  have hl : lv_has ls 4 [(0, .ref hk), (1, .int (iI (f : Int))), (2, .int (iI x))] := hl
  refine lv_iload_n hx hb d_Disk_areSound_0 rfl (lv_at hl 1 rfl) ?_
  refine lv_istore_n hx hb d_Disk_areSound_1 rfl hl (by decide) rfl (fun ls hl => ?_)
  have hl : lv_has ls 4 [(3, .int (iI (f : Int))), (0, .ref hk), (1, .int (iI (f : Int))), (2, .int (iI x))] := hl
  have cut2 : ∀ (N0 : Nat) (i : Nat) (H : Heap) (locs : List Loc) (ls : Array Slot), (x + 1).toNat - i = N0 → (f ≤ i ∧ i ≤ 2000) → (∀ z : Nat, f ≤ z → z < i → sndN DB sz (KS z).toNat) → lv_has ls 4 [(0, .ref hk), (1, .int (iI (f : Int))), (2, .int (iI x)), (3, .int (iI (i : Int)))] → va_P D classes ([(hk, .inr (0, [.ref qd, .ref qk, .int (iI (sz : Int)), .int (iI (bc : Int)), .int (iI tn)])), (qd, ar cI 693 DB), (qk, ar cI 15 KS)]) H → va_D A ([(hk, .inr (0, [.ref qd, .ref qk, .int (iI (sz : Int)), .int (iI (bc : Int)), .int (iI tn)])), (qd, ar cI 693 DB), (qk, ar cI 15 KS)]) → va_S A s.heap H locs → W p l e rm_Disk_areSound s m args below meth c H locs 0 0 Q (F0 m 2 ls []) := by
    intro N0
    induction N0 using Nat.strongRecOn with
    | _ N0 ih2 =>
      intro i H locs ls hN2 hi hal hl hP hD hS
      refine lv_iload_n hx hb d_Disk_areSound_2 rfl (lv_at hl 3 rfl) ?_
      refine lv_iload_n hx hb d_Disk_areSound_3 rfl (lv_at hl 2 rfl) ?_
      refine bk_icmp_gt (tgt := 23) hx hb d_Disk_areSound_4 (by decide) (by omega) (by omega) (fun c4 => ?_) (fun c4 => ?_)
      · skip
        refine lv_iconst (v := iI 1) hx hb d_Disk_areSound_23 rfl ?_
        exact bk_reti (r := 1) hx hb hr iI_nar1 hlk hAe hQ hS () (Or.inl ⟨fun z h1 h2 => hal z h1 (by omega), rfl⟩) hP hD d_Disk_areSound_24
      · skip
        have hki := hKS i (by omega)
        refine lv_aload_n hx hb d_Disk_areSound_7 rfl (lv_at hl 0 rfl) ?_
        refine lv_iload_n hx hb d_Disk_areSound_8 rfl (lv_at hl 3 rfl) ?_
        refine bk_fR (ws := [(hk, .inr (0, [.ref qd, .ref qk, .int (iI (sz : Int)), .int (iI (bc : Int)), .int (iI tn)])), (qd, ar cI 693 DB), (qk, ar cI 15 KS)]) (Wc := [(hk, .inr (0, [.ref qd, .ref qk, .int (iI (sz : Int)), .int (iI (bc : Int)), .int (iI tn)])), (qd, ar cI 693 DB), (qk, ar cI 15 KS)]) (fun _ => rfl) (bk_hs (X := [(hk, .inr (0, [.ref qd, .ref qk, .int (iI (sz : Int)), .int (iI (bc : Int)), .int (iI tn)])), (qd, ar cI 693 DB), (qk, ar cI 15 KS)]) (pl := []) (Wc := [(hk, .inr (0, [.ref qd, .ref qk, .int (iI (sz : Int)), .int (iI (bc : Int)), .int (iI tn)])), (qd, ar cI 693 DB), (qk, ar cI 15 KS)]) [0, 1, 2] rfl) hP hD hS hA (bk_rV (rest := []) hx hb hml hown hT hK (c_Disk_isSound l D cI cO hk qd qk DB KS sz bc tn i ((KS i).toNat) hsz hDB (by omega) (⟨by omega, by omega⟩)) (bk_subP (X := [(hk, .inr (0, [.ref qd, .ref qk, .int (iI (sz : Int)), .int (iI (bc : Int)), .int (iI tn)])), (qd, ar cI 693 DB), (qk, ar cI 15 KS)]) (pl := []) (Wc := [(hk, .inr (0, [.ref qd, .ref qk, .int (iI (sz : Int)), .int (iI (bc : Int)), .int (iI tn)])), (qd, ar cI 693 DB), (qk, ar cI 15 KS)]) hP [0, 1, 2] rfl) (bk_subD (X := [(hk, .inr (0, [.ref qd, .ref qk, .int (iI (sz : Int)), .int (iI (bc : Int)), .int (iI tn)])), (qd, ar cI 693 DB), (qk, ar cI 15 KS)]) (pl := []) (Wc := [(hk, .inr (0, [.ref qd, .ref qk, .int (iI (sz : Int)), .int (iI (bc : Int)), .int (iI tn)])), (qd, ar cI 693 DB), (qk, ar cI 15 KS)]) hD [0, 1, 2] (by decide) rfl) 0 0 rfl rfl rfl tw_316 tw_318 ts_5 tw_5 tw_319 hd_Disk_isSound ⟨rfl, rfl⟩ (by decide) hl.1 rfl (ble_le rfl) d_Disk_areSound_9 (by decide)) (fun r9 u H locs hq hP hS => ?_)
        have hq : (sndN DB sz ((KS i).toNat) ∧ r9 = 1) ∨ (¬ sndN DB sz ((KS i).toNat) ∧ r9 = 0) := hq
        refine bk_if_ne (tgt := 17) hx hb d_Disk_areSound_12 (by decide) (by rcases hq with q | q <;> omega) (fun c12 => ?_) (fun c12 => ?_)
        · skip
          have hsnd : sndN DB sz (KS i).toNat := by rcases hq with q | q; exact q.1; omega
          refine lv_iinc (k := 3) (v := iI ((i + 1 : Nat) : Int)) hx hb d_Disk_areSound_17 hl rfl ((iI_add _ _).trans (congrArg iI (by omega))) (by decide) rfl (fun ls hl => ?_)
          have hl : lv_has ls 4 [(3, .int (iI ((i + 1 : Nat) : Int))), (0, .ref hk), (1, .int (iI (f : Int))), (2, .int (iI x))] := hl
          refine lv_goto (tgt := 2) hx hb d_Disk_areSound_20 (by decide) ?_
          exact ih2 ((x + 1).toNat - (i + 1)) (by omega) (i + 1) _ _ _ rfl (by omega) (fun z h1 h2 => by by_cases e1 : z = i; (subst e1; exact hsnd); exact hal z h1 (by omega)) (lv_sub hl [1, 2, 3, 0] rfl) hP hD hS
        · skip
          have hns : ¬ sndN DB sz (KS i).toNat := by rcases hq with q | q; omega; exact q.1
          refine lv_iconst (v := iI 0) hx hb d_Disk_areSound_15 rfl ?_
          exact bk_reti (r := 0) hx hb hr iI_nar0 hlk hAe hQ hS () (Or.inr ⟨fun q => hns (q i hi.1 (by omega)), rfl⟩) hP hD d_Disk_areSound_16
  exact cut2 _ f _ _ _ rfl (⟨Nat.le_refl _, by omega⟩) (fun z h1 h2 => absurd h2 (by omega)) (lv_sub hl [1, 2, 3, 0] rfl) hP hD hS
abbrev rm_Disk_streamByte : Room := { frames := 1, cells := 0, slots := 0, locals := 21 }
set_option maxRecDepth 100000 in
set_option maxHeartbeats 4000000 in
theorem c_Disk_streamByte (l : Launch) (D : va_G) (cI cO : ClassId) (hk qd qk : Nat) (DB KS : Nat → Int) (sz bc : Nat) (tn : Int) (j st : Nat) (hsz : sz ≤ 693) (hDB : ∀ j, j < sz → 0 ≤ DB j ∧ DB j ≤ 255) (hj : j < 1000 ∧ j / 40 < bc ∧ bc ≤ 15) (hst : KS (j / 40) = (st : Int) ∧ st + 7 + j % 40 < sz) : Mi l y_Disk_streamByte b_Disk_streamByte 3 .int rm_Disk_streamByte D cI cO [.ref hk, .int (iI (j : Int))] ([(hk, .inr (0, [.ref qd, .ref qk, .int (iI (sz : Int)), .int (iI (bc : Int)), .int (iI tn)])), (qd, ar cI 693 DB), (qk, ar cI 15 KS)]) (fun (r : Int) (_ : Unit) => r = DB (st + 7 + j % 40)) (fun (_ : Unit) => [(hk, .inr (0, [.ref qd, .ref qk, .int (iI (sz : Int)), .int (iI (bc : Int)), .int (iI tn)])), (qd, ar cI 693 DB), (qk, ar cI 15 KS)]) 0 0 := by
  refine bk_start (by decide) (ble_le rfl) ?_
  intro p e s m args below meth c A ls Q hx hb hr hml hlk hown hnm hT hK hA hAe hQ hP hD hS hl
  have hown : s.vm.findClass "BinnedReads$Disk" = some m.cls := hown
  have hl : lv_has ls 3 [(0, .ref hk), (1, .int (iI (j : Int)))] := hl
  have hd0 := hDB (st + 7 + j % 40) (by omega)
  refine lv_iload_n hx hb d_Disk_streamByte_0 rfl (lv_at hl 1 rfl) ?_
  refine lv_bipush (v := iI 40) hx hb d_Disk_streamByte_1 (by decide) ?_
  refine bk_div hx hb d_Disk_streamByte_3 (by omega) (by omega) ?_
  refine bk_top (y := iI ((j / 40 : Nat) : Int)) (congrArg iI (by omega)) ?_
  refine lv_istore_n hx hb d_Disk_streamByte_4 rfl hl (by decide) rfl (fun ls hl => ?_)
  have hl : lv_has ls 3 [(2, .int (iI ((j / 40 : Nat) : Int))), (0, .ref hk), (1, .int (iI (j : Int)))] := hl
  refine lv_iload_n hx hb d_Disk_streamByte_5 rfl (lv_at hl 2 rfl) ?_
  refine bk_if_lt (tgt := 17) hx hb d_Disk_streamByte_6 (by decide) (by omega) (fun c6 => ?_) (fun c6 => ?_)
  · skip
    exact absurd c6 (by omega)
  · skip
    refine lv_iload_n hx hb d_Disk_streamByte_9 rfl (lv_at hl 0 rfl) ?_
    refine lv_aload_n hx hb d_Disk_streamByte_10 rfl (lv_at hl 1 rfl) ?_
    refine va_get (ci := 0) (C := R_Disk) (T := F_Disk) (N := 5) hx hb hT in_Disk hown hK.1 hP 0 rfl rfl 3 (by decide) (hT _ tw_101) (fun _ h => h) rfl d_Disk_streamByte_11 ?_
    refine bk_icmp_lt (tgt := 19) hx hb d_Disk_streamByte_14 (by decide) (by omega) (by omega) (fun c14 => ?_) (fun c14 => ?_)
    · skip
      refine lv_iconst (v := iI 0) hx hb d_Disk_streamByte_19 rfl ?_
      refine lv_aload_n hx hb d_Disk_streamByte_20 rfl (lv_at hl 1 rfl) ?_
      refine lv_aload_n hx hb d_Disk_streamByte_21 rfl (lv_at hl 1 rfl) ?_
      refine va_get (ci := 0) (C := R_Disk) (T := F_Disk) (N := 5) hx hb hT in_Disk hown hK.1 hP 0 rfl rfl 1 (by decide) (hT _ tw_98) (fun _ h => h) rfl d_Disk_streamByte_22 ?_
      refine lv_iload_n hx hb d_Disk_streamByte_25 rfl (lv_at hl 0 rfl) ?_
      refine bk_iald hx hb hK.1 hP 2 0 rfl rfl (j / 40) (by omega) (by decide) d_Disk_streamByte_26 ?_
      refine bk_top (y := iI (st : Int)) (by rw [hst.1]) ?_
      refine lv_bipush (v := iI 7) hx hb d_Disk_streamByte_27 (by decide) ?_
      refine bk_add hx hb d_Disk_streamByte_29 ?_
      refine bk_top (y := iI ((st + 7 : Nat) : Int)) (congrArg iI (by omega)) ?_
      refine lv_iload_n hx hb d_Disk_streamByte_30 rfl (lv_at hl 2 rfl) ?_
      refine lv_bipush (v := iI 40) hx hb d_Disk_streamByte_31 (by decide) ?_
      refine bk_rem hx hb d_Disk_streamByte_33 (by omega) (by omega) ?_
      refine bk_top (y := iI ((j % 40 : Nat) : Int)) (congrArg iI (by omega)) ?_
      refine bk_add hx hb d_Disk_streamByte_34 ?_
      refine bk_top (y := iI ((st + 7 + (j % 40) : Nat) : Int)) (congrArg iI (by omega)) ?_
      refine bk_fR (ws := [(hk, .inr (0, [.ref qd, .ref qk, .int (iI (sz : Int)), .int (iI (bc : Int)), .int (iI tn)])), (qd, ar cI 693 DB), (qk, ar cI 15 KS)]) (Wc := [(hk, .inr (0, [.ref qd, .ref qk, .int (iI (sz : Int)), .int (iI (bc : Int)), .int (iI tn)])), (qd, ar cI 693 DB), (qk, ar cI 15 KS)]) (fun _ => rfl) (bk_hs (X := [(hk, .inr (0, [.ref qd, .ref qk, .int (iI (sz : Int)), .int (iI (bc : Int)), .int (iI tn)])), (qd, ar cI 693 DB), (qk, ar cI 15 KS)]) (pl := []) (Wc := [(hk, .inr (0, [.ref qd, .ref qk, .int (iI (sz : Int)), .int (iI (bc : Int)), .int (iI tn)])), (qd, ar cI 693 DB), (qk, ar cI 15 KS)]) [0, 1, 2] rfl) hP hD hS hA (bk_rV (rest := [.int (iI 0)]) hx hb hml hown hT hK (c_Disk_at_in l D cI cO hk qd qk DB KS sz bc tn (st + 7 + j % 40) hsz (by omega)) (bk_subP (X := [(hk, .inr (0, [.ref qd, .ref qk, .int (iI (sz : Int)), .int (iI (bc : Int)), .int (iI tn)])), (qd, ar cI 693 DB), (qk, ar cI 15 KS)]) (pl := []) (Wc := [(hk, .inr (0, [.ref qd, .ref qk, .int (iI (sz : Int)), .int (iI (bc : Int)), .int (iI tn)])), (qd, ar cI 693 DB), (qk, ar cI 15 KS)]) hP [0, 1, 2] rfl) (bk_subD (X := [(hk, .inr (0, [.ref qd, .ref qk, .int (iI (sz : Int)), .int (iI (bc : Int)), .int (iI tn)])), (qd, ar cI 693 DB), (qk, ar cI 15 KS)]) (pl := []) (Wc := [(hk, .inr (0, [.ref qd, .ref qk, .int (iI (sz : Int)), .int (iI (bc : Int)), .int (iI tn)])), (qd, ar cI 693 DB), (qk, ar cI 15 KS)]) hD [0, 1, 2] (by decide) rfl) 0 0 rfl rfl rfl tw_270 tw_271 tw_272 tw_5 tw_273 hd_Disk_at ⟨rfl, rfl⟩ (by decide) hl.1 rfl (ble_le rfl) d_Disk_streamByte_35 (by decide)) (fun r35 u H locs hq hP hS => ?_)
      have hq : r35 = DB (st + 7 + j % 40) := hq
      obtain rfl := hq
      refine va_mmax hx hb (by rw [hml]; exact hl.1.symm) hown (hT _ tw_366) (hT _ tw_352) (hT _ tw_8) (hT _ tw_353) (by decide) (by decide) (by decide) (by decide) d_Disk_streamByte_38 ?_
      refine bk_top (y := iI (max 0 (DB (st + 7 + j % 40)))) (bk_max (by omega) (by omega)) ?_
      exact bk_reti (r := max 0 (DB (st + 7 + j % 40))) hx hb hr rfl hlk hAe hQ hS () (by omega) hP hD d_Disk_streamByte_41
    · skip
      exact absurd c14 (by omega)
abbrev rm_Disk_offsetOf : Room := { frames := 0, cells := 0, slots := 0, locals := 0 }
set_option maxRecDepth 100000 in
set_option maxHeartbeats 4000000 in
theorem c_Disk_offsetOf (l : Launch) (D : va_G) (cI cO : ClassId) (hk qd qk : Nat) (DB KS : Nat → Int) (sz bc : Nat) (tn : Int) (j st : Nat) (hj : j < 1000 ∧ j / 40 < bc ∧ bc ≤ 15) (hst : KS (j / 40) = (st : Int)) : Mi l y_Disk_offsetOf b_Disk_offsetOf 3 .int rm_Disk_offsetOf D cI cO [.ref hk, .int (iI (j : Int))] ([(hk, .inr (0, [.ref qd, .ref qk, .int (iI (sz : Int)), .int (iI (bc : Int)), .int (iI tn)])), (qd, ar cI 693 DB), (qk, ar cI 15 KS)]) (fun (r : Int) (_ : Unit) => r = ((64 * st + j % 40 : Nat) : Int)) (fun (_ : Unit) => [(hk, .inr (0, [.ref qd, .ref qk, .int (iI (sz : Int)), .int (iI (bc : Int)), .int (iI tn)])), (qd, ar cI 693 DB), (qk, ar cI 15 KS)]) 0 0 := by
  refine bk_start (by decide) (ble_le rfl) ?_
  intro p e s m args below meth c A ls Q hx hb hr hml hlk hown hnm hT hK hA hAe hQ hP hD hS hl
  have hown : s.vm.findClass "BinnedReads$Disk" = some m.cls := hown
  have hl : lv_has ls 3 [(0, .ref hk), (1, .int (iI (j : Int)))] := hl
  refine lv_iload_n hx hb d_Disk_offsetOf_0 rfl (lv_at hl 1 rfl) ?_
  refine lv_bipush (v := iI 40) hx hb d_Disk_offsetOf_1 (by decide) ?_
  refine bk_div hx hb d_Disk_offsetOf_3 (by omega) (by omega) ?_
  refine bk_top (y := iI ((j / 40 : Nat) : Int)) (congrArg iI (by omega)) ?_
  refine lv_istore_n hx hb d_Disk_offsetOf_4 rfl hl (by decide) rfl (fun ls hl => ?_)
  have hl : lv_has ls 3 [(2, .int (iI ((j / 40 : Nat) : Int))), (0, .ref hk), (1, .int (iI (j : Int)))] := hl
  refine lv_iload_n hx hb d_Disk_offsetOf_5 rfl (lv_at hl 2 rfl) ?_
  refine bk_if_lt (tgt := 17) hx hb d_Disk_offsetOf_6 (by decide) (by omega) (fun c6 => ?_) (fun c6 => ?_)
  · skip
    exact absurd c6 (by omega)
  · skip
    refine lv_iload_n hx hb d_Disk_offsetOf_9 rfl (lv_at hl 0 rfl) ?_
    refine lv_aload_n hx hb d_Disk_offsetOf_10 rfl (lv_at hl 1 rfl) ?_
    refine va_get (ci := 0) (C := R_Disk) (T := F_Disk) (N := 5) hx hb hT in_Disk hown hK.1 hP 0 rfl rfl 3 (by decide) (hT _ tw_101) (fun _ h => h) rfl d_Disk_offsetOf_11 ?_
    refine bk_icmp_lt (tgt := 19) hx hb d_Disk_offsetOf_14 (by decide) (by omega) (by omega) (fun c14 => ?_) (fun c14 => ?_)
    · skip
      refine lv_bipush (v := iI 64) hx hb d_Disk_offsetOf_19 (by decide) ?_
      refine lv_aload_n hx hb d_Disk_offsetOf_21 rfl (lv_at hl 1 rfl) ?_
      refine va_get (ci := 0) (C := R_Disk) (T := F_Disk) (N := 5) hx hb hT in_Disk hown hK.1 hP 0 rfl rfl 1 (by decide) (hT _ tw_98) (fun _ h => h) rfl d_Disk_offsetOf_22 ?_
      refine lv_iload_n hx hb d_Disk_offsetOf_25 rfl (lv_at hl 0 rfl) ?_
      refine bk_iald hx hb hK.1 hP 2 0 rfl rfl (j / 40) (by omega) (by decide) d_Disk_offsetOf_26 ?_
      refine bk_top (y := iI (st : Int)) (by rw [hst]) ?_
      refine bk_mul hx hb d_Disk_offsetOf_27 ?_
      refine bk_top (y := iI ((64 * st : Nat) : Int)) (congrArg iI (by omega)) ?_
      refine lv_iload_n hx hb d_Disk_offsetOf_28 rfl (lv_at hl 2 rfl) ?_
      refine lv_bipush (v := iI 40) hx hb d_Disk_offsetOf_29 (by decide) ?_
      refine bk_rem hx hb d_Disk_offsetOf_31 (by omega) (by omega) ?_
      refine bk_top (y := iI ((j % 40 : Nat) : Int)) (congrArg iI (by omega)) ?_
      refine bk_add hx hb d_Disk_offsetOf_32 ?_
      refine bk_top (y := iI ((64 * st + (j % 40) : Nat) : Int)) (congrArg iI (by omega)) ?_
      exact bk_reti (r := ((64 * st + (j % 40) : Nat) : Int)) hx hb hr rfl hlk hAe hQ hS () rfl hP hD d_Disk_offsetOf_33
    · skip
      exact absurd c14 (by omega)
abbrev rm_Disk_appendBlock : Room := { frames := 2, cells := 0, slots := 0, locals := 46 }
set_option maxRecDepth 100000 in
set_option maxHeartbeats 4000000 in
theorem c_Disk_appendBlock (l : Launch) (D : va_G) (cI cO : ClassId) (hk qd qk : Nat) (DB KS : Nat → Int) (sz bc : Nat) (tn : Int) (hs qy : Nat) (SB : Nat → Int) (sl : Nat) (f k : Nat) (hsz : sz + k + 11 ≤ 693) (hDB : ∀ j, j < sz → 0 ≤ DB j ∧ DB j ≤ 255) (hbc : bc < 15) (hsl : sl ≤ 528) (hSB : ∀ j, j < sl → 0 ≤ SB j ∧ SB j ≤ 255) (hfk : f + k ≤ sl) (hk1 : k ≤ 40) : Mv l y_Disk_appendBlock b_Disk_appendBlock 6 rm_Disk_appendBlock D cI cO [.ref hk, .ref hs, .int (iI (f : Int)), .int (iI (k : Int))] ([(hk, .inr (0, [.ref qd, .ref qk, .int (iI (sz : Int)), .int (iI (bc : Int)), .int (iI tn)])), (qd, ar cI 693 DB), (qk, ar cI 15 KS), (hs, .inr (4, [.ref qy, .int (iI (sl : Int))])), (qy, ar cI 528 SB)]) (fun (_ : Unit) => True) (fun (_ : Unit) => [(hk, .inr (0, [.ref qd, .ref qk, .int (iI ((sz + 7 + k + 4 : Nat) : Int)), .int (iI ((bc + 1 : Nat) : Int)), .int (iI tn)])), (qd, ar cI 693 (bkN DB SB sz f k)), (qk, ar cI 15 (bU KS bc (sz : Int))), (hs, .inr (4, [.ref qy, .int (iI (sl : Int))])), (qy, ar cI 528 SB)]) 0 0 := by
  refine bk_start (by decide) (ble_le rfl) ?_
  intro p e s m args below meth c A ls Q hx hb hr hml hlk hown hnm hT hK hA hAe hQ hP hD hS hl
  have hown : s.vm.findClass "BinnedReads$Disk" = some m.cls := hown
  have hl : lv_has ls 6 [(0, .ref hk), (1, .ref hs), (2, .int (iI (f : Int))), (3, .int (iI (k : Int)))] := hl
  refine lv_aload_n hx hb d_Disk_appendBlock_0 rfl (lv_at hl 0 rfl) ?_
  refine va_get (ci := 0) (C := R_Disk) (T := F_Disk) (N := 5) hx hb hT in_Disk hown hK.1 hP 0 rfl rfl 3 (by decide) (hT _ tw_101) (fun _ h => h) rfl d_Disk_appendBlock_1 ?_
  refine lv_aload_n hx hb d_Disk_appendBlock_4 rfl (lv_at hl 0 rfl) ?_
  refine va_get (ci := 0) (C := R_Disk) (T := F_Disk) (N := 5) hx hb hT in_Disk hown hK.1 hP 0 rfl rfl 1 (by decide) (hT _ tw_98) (fun _ h => h) rfl d_Disk_appendBlock_5 ?_
  refine va_alen (v := iI 15) hx hb hK.1 hP 2 0 rfl rfl (show Int32.ofNat 15 = iI 15 from by decide) d_Disk_appendBlock_8 ?_
  refine bk_icmp_ge (tgt := 32) hx hb d_Disk_appendBlock_9 (by decide) (by omega) (by omega) (fun c9 => ?_) (fun c9 => ?_)
  · skip
    exact absurd c9 (by omega)
  · skip
    refine lv_aload_n hx hb d_Disk_appendBlock_12 rfl (lv_at hl 0 rfl) ?_
    refine va_get (ci := 0) (C := R_Disk) (T := F_Disk) (N := 5) hx hb hT in_Disk hown hK.1 hP 0 rfl rfl 1 (by decide) (hT _ tw_98) (fun _ h => h) rfl d_Disk_appendBlock_13 ?_
    refine lv_aload_n hx hb d_Disk_appendBlock_16 rfl (lv_at hl 0 rfl) ?_
    refine lv_dup hx hb d_Disk_appendBlock_17 rfl ?_
    refine va_get (ci := 0) (C := R_Disk) (T := F_Disk) (N := 5) hx hb hT in_Disk hown hK.1 hP 0 rfl rfl 3 (by decide) (hT _ tw_101) (fun _ h => h) rfl d_Disk_appendBlock_18 ?_
    refine lv_dup_x1 hx hb d_Disk_appendBlock_21 rfl rfl ?_
    refine lv_iconst (v := iI 1) hx hb d_Disk_appendBlock_22 rfl ?_
    refine bk_add hx hb d_Disk_appendBlock_23 ?_
    refine bk_top (y := iI ((bc + 1 : Nat) : Int)) (congrArg iI (by omega)) ?_
    refine va_put (ci := 0) (v := .int (iI ((bc + 1 : Nat) : Int))) (ty := .int) (C := R_Disk) (T := F_Disk) (N := 5) hx hb hT in_Disk t_Disk to_Disk n_Disk hown hK.1 hP hD hS 0 rfl rfl 3 (by decide) (hT _ tw_101) (fun _ h => h) rfl (by decide +kernel) rfl rfl (ble_lt rfl) d_Disk_appendBlock_24 (fun H locs hP hD hS => ?_)
    have hP : va_P D classes ([(hk, .inr (0, [.ref qd, .ref qk, .int (iI (sz : Int)), .int (iI ((bc + 1 : Nat) : Int)), .int (iI tn)])), (qd, ar cI 693 DB), (qk, ar cI 15 KS), (hs, .inr (4, [.ref qy, .int (iI (sl : Int))])), (qy, ar cI 528 SB)]) H := hP
    have hD : va_D A ([(hk, .inr (0, [.ref qd, .ref qk, .int (iI (sz : Int)), .int (iI ((bc + 1 : Nat) : Int)), .int (iI tn)])), (qd, ar cI 693 DB), (qk, ar cI 15 KS), (hs, .inr (4, [.ref qy, .int (iI (sl : Int))])), (qy, ar cI 528 SB)]) := hD
    refine lv_aload_n hx hb d_Disk_appendBlock_27 rfl (lv_at hl 0 rfl) ?_
    refine va_get (ci := 0) (C := R_Disk) (T := F_Disk) (N := 5) hx hb hT in_Disk hown hK.1 hP 0 rfl rfl 2 (by decide) (hT _ tw_99) (fun _ h => h) rfl d_Disk_appendBlock_28 ?_
    refine bk_iast hx hb hK.1 hP hD hS 2 0 rfl rfl bc (by omega) (by decide) d_Disk_appendBlock_31 (fun H locs hP hD hS => ?_)
    have hP : va_P D classes ([(hk, .inr (0, [.ref qd, .ref qk, .int (iI (sz : Int)), .int (iI ((bc + 1 : Nat) : Int)), .int (iI tn)])), (qd, ar cI 693 DB), (qk, ar cI 15 (bU KS bc (sz : Int))), (hs, .inr (4, [.ref qy, .int (iI (sl : Int))])), (qy, ar cI 528 SB)]) H := hP
    have hD : va_D A ([(hk, .inr (0, [.ref qd, .ref qk, .int (iI (sz : Int)), .int (iI ((bc + 1 : Nat) : Int)), .int (iI tn)])), (qd, ar cI 693 DB), (qk, ar cI 15 (bU KS bc (sz : Int))), (hs, .inr (4, [.ref qy, .int (iI (sl : Int))])), (qy, ar cI 528 SB)]) := hD
    refine lv_aload_n hx hb d_Disk_appendBlock_32 rfl (lv_at hl 0 rfl) ?_
    refine lv_bipush (v := iI 31) hx hb d_Disk_appendBlock_33 (by decide) ?_
    refine bk_fv (X := [(hk, .inr (0, [.ref qd, .ref qk, .int (iI (sz : Int)), .int (iI ((bc + 1 : Nat) : Int)), .int (iI tn)])), (qd, ar cI 693 DB), (qk, ar cI 15 (bU KS bc (sz : Int))), (hs, .inr (4, [.ref qy, .int (iI (sl : Int))])), (qy, ar cI 528 SB)]) (pl := []) (Wc := [(hk, .inr (0, [.ref qd, .ref qk, .int (iI (sz : Int)), .int (iI (((bc + 1) : Nat) : Int)), .int (iI tn)])), (qd, ar cI 693 DB), (qk, ar cI 15 (bU KS bc (sz : Int)))]) (wr := [(hs, .inr (4, [.ref qy, .int (iI (sl : Int))])), (qy, ar cI 528 SB)]) [0, 1, 2] [3, 4] rfl rfl (by decide) (by decide) hP hD hS hA (bk_rV (rest := []) hx hb hml hown hT hK (c_Disk_appendByte l D cI cO hk qd qk DB (bU KS bc (sz : Int)) sz (bc + 1) tn 31 (by omega)) (bk_subP (X := [(hk, .inr (0, [.ref qd, .ref qk, .int (iI (sz : Int)), .int (iI ((bc + 1 : Nat) : Int)), .int (iI tn)])), (qd, ar cI 693 DB), (qk, ar cI 15 (bU KS bc (sz : Int))), (hs, .inr (4, [.ref qy, .int (iI (sl : Int))])), (qy, ar cI 528 SB)]) (pl := []) (Wc := [(hk, .inr (0, [.ref qd, .ref qk, .int (iI (sz : Int)), .int (iI (((bc + 1) : Nat) : Int)), .int (iI tn)])), (qd, ar cI 693 DB), (qk, ar cI 15 (bU KS bc (sz : Int)))]) hP [0, 1, 2] rfl) (bk_subD (X := [(hk, .inr (0, [.ref qd, .ref qk, .int (iI (sz : Int)), .int (iI ((bc + 1 : Nat) : Int)), .int (iI tn)])), (qd, ar cI 693 DB), (qk, ar cI 15 (bU KS bc (sz : Int))), (hs, .inr (4, [.ref qy, .int (iI (sl : Int))])), (qy, ar cI 528 SB)]) (pl := []) (Wc := [(hk, .inr (0, [.ref qd, .ref qk, .int (iI (sz : Int)), .int (iI (((bc + 1) : Nat) : Int)), .int (iI tn)])), (qd, ar cI 693 DB), (qk, ar cI 15 (bU KS bc (sz : Int)))]) hD [0, 1, 2] (by decide) rfl) 0 0 rfl rfl rfl tw_258 tw_260 ts_2 tw_5 tw_261 hd_Disk_appendByte ⟨rfl, rfl⟩ (by decide) hl.1 rfl (ble_le rfl) d_Disk_appendBlock_35 (by decide)) (fun u H locs hq hP hD hS => ?_)
    have hq : True := hq
    have hP : va_P D classes ([(hs, .inr (4, [.ref qy, .int (iI (sl : Int))])), (qy, ar cI 528 SB), (hk, .inr (0, [.ref qd, .ref qk, .int (iI ((sz + 1 : Nat) : Int)), .int (iI (((bc + 1) : Nat) : Int)), .int (iI tn)])), (qd, ar cI 693 (bU DB sz 31)), (qk, ar cI 15 (bU KS bc (sz : Int)))]) H := hP
    have hD : va_D A ([(hs, .inr (4, [.ref qy, .int (iI (sl : Int))])), (qy, ar cI 528 SB), (hk, .inr (0, [.ref qd, .ref qk, .int (iI ((sz + 1 : Nat) : Int)), .int (iI (((bc + 1) : Nat) : Int)), .int (iI tn)])), (qd, ar cI 693 (bU DB sz 31)), (qk, ar cI 15 (bU KS bc (sz : Int)))]) := hD
    refine lv_aload_n hx hb d_Disk_appendBlock_38 rfl (lv_at hl 0 rfl) ?_
    refine lv_sipush (v := iI 139) hx hb d_Disk_appendBlock_39 (by decide) ?_
    refine bk_fv (X := [(hs, .inr (4, [.ref qy, .int (iI (sl : Int))])), (qy, ar cI 528 SB), (hk, .inr (0, [.ref qd, .ref qk, .int (iI ((sz + 1 : Nat) : Int)), .int (iI (((bc + 1) : Nat) : Int)), .int (iI tn)])), (qd, ar cI 693 (bU DB sz 31)), (qk, ar cI 15 (bU KS bc (sz : Int)))]) (pl := []) (Wc := [(hk, .inr (0, [.ref qd, .ref qk, .int (iI (((sz + 1) : Nat) : Int)), .int (iI (((bc + 1) : Nat) : Int)), .int (iI tn)])), (qd, ar cI 693 (bU DB sz 31)), (qk, ar cI 15 (bU KS bc (sz : Int)))]) (wr := [(hs, .inr (4, [.ref qy, .int (iI (sl : Int))])), (qy, ar cI 528 SB)]) [2, 3, 4] [0, 1] rfl rfl (by decide) (by decide) hP hD hS hA (bk_rV (rest := []) hx hb hml hown hT hK (c_Disk_appendByte l D cI cO hk qd qk (bU DB sz 31) (bU KS bc (sz : Int)) (sz + 1) (bc + 1) tn 139 (by omega)) (bk_subP (X := [(hs, .inr (4, [.ref qy, .int (iI (sl : Int))])), (qy, ar cI 528 SB), (hk, .inr (0, [.ref qd, .ref qk, .int (iI ((sz + 1 : Nat) : Int)), .int (iI (((bc + 1) : Nat) : Int)), .int (iI tn)])), (qd, ar cI 693 (bU DB sz 31)), (qk, ar cI 15 (bU KS bc (sz : Int)))]) (pl := []) (Wc := [(hk, .inr (0, [.ref qd, .ref qk, .int (iI (((sz + 1) : Nat) : Int)), .int (iI (((bc + 1) : Nat) : Int)), .int (iI tn)])), (qd, ar cI 693 (bU DB sz 31)), (qk, ar cI 15 (bU KS bc (sz : Int)))]) hP [2, 3, 4] rfl) (bk_subD (X := [(hs, .inr (4, [.ref qy, .int (iI (sl : Int))])), (qy, ar cI 528 SB), (hk, .inr (0, [.ref qd, .ref qk, .int (iI ((sz + 1 : Nat) : Int)), .int (iI (((bc + 1) : Nat) : Int)), .int (iI tn)])), (qd, ar cI 693 (bU DB sz 31)), (qk, ar cI 15 (bU KS bc (sz : Int)))]) (pl := []) (Wc := [(hk, .inr (0, [.ref qd, .ref qk, .int (iI (((sz + 1) : Nat) : Int)), .int (iI (((bc + 1) : Nat) : Int)), .int (iI tn)])), (qd, ar cI 693 (bU DB sz 31)), (qk, ar cI 15 (bU KS bc (sz : Int)))]) hD [2, 3, 4] (by decide) rfl) 0 0 rfl rfl rfl tw_258 tw_260 ts_2 tw_5 tw_261 hd_Disk_appendByte ⟨rfl, rfl⟩ (by decide) hl.1 rfl (ble_le rfl) d_Disk_appendBlock_42 (by decide)) (fun u H locs hq hP hD hS => ?_)
    have hq : True := hq
    have hP : va_P D classes ([(hs, .inr (4, [.ref qy, .int (iI (sl : Int))])), (qy, ar cI 528 SB), (hk, .inr (0, [.ref qd, .ref qk, .int (iI (((sz + 1) + 1 : Nat) : Int)), .int (iI (((bc + 1) : Nat) : Int)), .int (iI tn)])), (qd, ar cI 693 (bU (bU DB sz 31) (sz + 1) 139)), (qk, ar cI 15 (bU KS bc (sz : Int)))]) H := hP
    have hD : va_D A ([(hs, .inr (4, [.ref qy, .int (iI (sl : Int))])), (qy, ar cI 528 SB), (hk, .inr (0, [.ref qd, .ref qk, .int (iI (((sz + 1) + 1 : Nat) : Int)), .int (iI (((bc + 1) : Nat) : Int)), .int (iI tn)])), (qd, ar cI 693 (bU (bU DB sz 31) (sz + 1) 139)), (qk, ar cI 15 (bU KS bc (sz : Int)))]) := hD
    refine lv_aload_n hx hb d_Disk_appendBlock_45 rfl (lv_at hl 0 rfl) ?_
    refine lv_iconst (v := iI 1) hx hb d_Disk_appendBlock_46 rfl ?_
    refine bk_fv (X := [(hs, .inr (4, [.ref qy, .int (iI (sl : Int))])), (qy, ar cI 528 SB), (hk, .inr (0, [.ref qd, .ref qk, .int (iI (((sz + 1) + 1 : Nat) : Int)), .int (iI (((bc + 1) : Nat) : Int)), .int (iI tn)])), (qd, ar cI 693 (bU (bU DB sz 31) (sz + 1) 139)), (qk, ar cI 15 (bU KS bc (sz : Int)))]) (pl := []) (Wc := [(hk, .inr (0, [.ref qd, .ref qk, .int (iI (((sz + 1 + 1) : Nat) : Int)), .int (iI (((bc + 1) : Nat) : Int)), .int (iI tn)])), (qd, ar cI 693 (bU (bU DB sz 31) (sz + 1) 139)), (qk, ar cI 15 (bU KS bc (sz : Int)))]) (wr := [(hs, .inr (4, [.ref qy, .int (iI (sl : Int))])), (qy, ar cI 528 SB)]) [2, 3, 4] [0, 1] rfl rfl (by decide) (by decide) hP hD hS hA (bk_rV (rest := []) hx hb hml hown hT hK (c_Disk_appendByte l D cI cO hk qd qk (bU (bU DB sz 31) (sz + 1) 139) (bU KS bc (sz : Int)) (sz + 1 + 1) (bc + 1) tn 1 (by omega)) (bk_subP (X := [(hs, .inr (4, [.ref qy, .int (iI (sl : Int))])), (qy, ar cI 528 SB), (hk, .inr (0, [.ref qd, .ref qk, .int (iI (((sz + 1) + 1 : Nat) : Int)), .int (iI (((bc + 1) : Nat) : Int)), .int (iI tn)])), (qd, ar cI 693 (bU (bU DB sz 31) (sz + 1) 139)), (qk, ar cI 15 (bU KS bc (sz : Int)))]) (pl := []) (Wc := [(hk, .inr (0, [.ref qd, .ref qk, .int (iI (((sz + 1 + 1) : Nat) : Int)), .int (iI (((bc + 1) : Nat) : Int)), .int (iI tn)])), (qd, ar cI 693 (bU (bU DB sz 31) (sz + 1) 139)), (qk, ar cI 15 (bU KS bc (sz : Int)))]) hP [2, 3, 4] rfl) (bk_subD (X := [(hs, .inr (4, [.ref qy, .int (iI (sl : Int))])), (qy, ar cI 528 SB), (hk, .inr (0, [.ref qd, .ref qk, .int (iI (((sz + 1) + 1 : Nat) : Int)), .int (iI (((bc + 1) : Nat) : Int)), .int (iI tn)])), (qd, ar cI 693 (bU (bU DB sz 31) (sz + 1) 139)), (qk, ar cI 15 (bU KS bc (sz : Int)))]) (pl := []) (Wc := [(hk, .inr (0, [.ref qd, .ref qk, .int (iI (((sz + 1 + 1) : Nat) : Int)), .int (iI (((bc + 1) : Nat) : Int)), .int (iI tn)])), (qd, ar cI 693 (bU (bU DB sz 31) (sz + 1) 139)), (qk, ar cI 15 (bU KS bc (sz : Int)))]) hD [2, 3, 4] (by decide) rfl) 0 0 rfl rfl rfl tw_258 tw_260 ts_2 tw_5 tw_261 hd_Disk_appendByte ⟨rfl, rfl⟩ (by decide) hl.1 rfl (ble_le rfl) d_Disk_appendBlock_47 (by decide)) (fun u H locs hq hP hD hS => ?_)
    have hq : True := hq
    have hP : va_P D classes ([(hs, .inr (4, [.ref qy, .int (iI (sl : Int))])), (qy, ar cI 528 SB), (hk, .inr (0, [.ref qd, .ref qk, .int (iI (((sz + 1 + 1) + 1 : Nat) : Int)), .int (iI (((bc + 1) : Nat) : Int)), .int (iI tn)])), (qd, ar cI 693 (bU (bU (bU DB sz 31) (sz + 1) 139) (sz + 1 + 1) 1)), (qk, ar cI 15 (bU KS bc (sz : Int)))]) H := hP
    have hD : va_D A ([(hs, .inr (4, [.ref qy, .int (iI (sl : Int))])), (qy, ar cI 528 SB), (hk, .inr (0, [.ref qd, .ref qk, .int (iI (((sz + 1 + 1) + 1 : Nat) : Int)), .int (iI (((bc + 1) : Nat) : Int)), .int (iI tn)])), (qd, ar cI 693 (bU (bU (bU DB sz 31) (sz + 1) 139) (sz + 1 + 1) 1)), (qk, ar cI 15 (bU KS bc (sz : Int)))]) := hD
    refine lv_aload_n hx hb d_Disk_appendBlock_50 rfl (lv_at hl 0 rfl) ?_
    refine lv_iload_n hx hb d_Disk_appendBlock_51 rfl (lv_at hl 3 rfl) ?_
    refine lv_iconst (v := iI 2) hx hb d_Disk_appendBlock_52 rfl ?_
    refine bk_fv (X := [(hs, .inr (4, [.ref qy, .int (iI (sl : Int))])), (qy, ar cI 528 SB), (hk, .inr (0, [.ref qd, .ref qk, .int (iI (((sz + 1 + 1) + 1 : Nat) : Int)), .int (iI (((bc + 1) : Nat) : Int)), .int (iI tn)])), (qd, ar cI 693 (bU (bU (bU DB sz 31) (sz + 1) 139) (sz + 1 + 1) 1)), (qk, ar cI 15 (bU KS bc (sz : Int)))]) (pl := []) (Wc := [(hk, .inr (0, [.ref qd, .ref qk, .int (iI (((sz + 1 + 1 + 1) : Nat) : Int)), .int (iI (((bc + 1) : Nat) : Int)), .int (iI tn)])), (qd, ar cI 693 (bU (bU (bU DB sz 31) (sz + 1) 139) (sz + 1 + 1) 1)), (qk, ar cI 15 (bU KS bc (sz : Int)))]) (wr := [(hs, .inr (4, [.ref qy, .int (iI (sl : Int))])), (qy, ar cI 528 SB)]) [2, 3, 4] [0, 1] rfl rfl (by decide) (by decide) hP hD hS hA (bk_rV (rest := []) hx hb hml hown hT hK (c_Disk_appendNumber l D cI cO hk qd qk (bU (bU (bU DB sz 31) (sz + 1) 139) (sz + 1 + 1) 1) (bU KS bc (sz : Int)) (sz + 1 + 1 + 1) (bc + 1) tn k 2 (by omega) (by omega) (by decide)) (bk_subP (X := [(hs, .inr (4, [.ref qy, .int (iI (sl : Int))])), (qy, ar cI 528 SB), (hk, .inr (0, [.ref qd, .ref qk, .int (iI (((sz + 1 + 1) + 1 : Nat) : Int)), .int (iI (((bc + 1) : Nat) : Int)), .int (iI tn)])), (qd, ar cI 693 (bU (bU (bU DB sz 31) (sz + 1) 139) (sz + 1 + 1) 1)), (qk, ar cI 15 (bU KS bc (sz : Int)))]) (pl := []) (Wc := [(hk, .inr (0, [.ref qd, .ref qk, .int (iI (((sz + 1 + 1 + 1) : Nat) : Int)), .int (iI (((bc + 1) : Nat) : Int)), .int (iI tn)])), (qd, ar cI 693 (bU (bU (bU DB sz 31) (sz + 1) 139) (sz + 1 + 1) 1)), (qk, ar cI 15 (bU KS bc (sz : Int)))]) hP [2, 3, 4] rfl) (bk_subD (X := [(hs, .inr (4, [.ref qy, .int (iI (sl : Int))])), (qy, ar cI 528 SB), (hk, .inr (0, [.ref qd, .ref qk, .int (iI (((sz + 1 + 1) + 1 : Nat) : Int)), .int (iI (((bc + 1) : Nat) : Int)), .int (iI tn)])), (qd, ar cI 693 (bU (bU (bU DB sz 31) (sz + 1) 139) (sz + 1 + 1) 1)), (qk, ar cI 15 (bU KS bc (sz : Int)))]) (pl := []) (Wc := [(hk, .inr (0, [.ref qd, .ref qk, .int (iI (((sz + 1 + 1 + 1) : Nat) : Int)), .int (iI (((bc + 1) : Nat) : Int)), .int (iI tn)])), (qd, ar cI 693 (bU (bU (bU DB sz 31) (sz + 1) 139) (sz + 1 + 1) 1)), (qk, ar cI 15 (bU KS bc (sz : Int)))]) hD [2, 3, 4] (by decide) rfl) 0 0 rfl rfl rfl tw_262 tw_264 ts_3 tw_5 tw_265 hd_Disk_appendNumber ⟨rfl, rfl⟩ (by decide) hl.1 rfl (ble_le rfl) d_Disk_appendBlock_53 (by decide)) (fun u H locs hq hP hD hS => ?_)
    have hq : True := hq
    have hP : va_P D classes ([(hs, .inr (4, [.ref qy, .int (iI (sl : Int))])), (qy, ar cI 528 SB), (hk, .inr (0, [.ref qd, .ref qk, .int (iI (((sz + 1 + 1 + 1) + 2 : Nat) : Int)), .int (iI (((bc + 1) : Nat) : Int)), .int (iI tn)])), (qd, ar cI 693 (apN (bU (bU (bU DB sz 31) (sz + 1) 139) (sz + 1 + 1) 1) (sz + 1 + 1 + 1) k 2)), (qk, ar cI 15 (bU KS bc (sz : Int)))]) H := hP
    have hD : va_D A ([(hs, .inr (4, [.ref qy, .int (iI (sl : Int))])), (qy, ar cI 528 SB), (hk, .inr (0, [.ref qd, .ref qk, .int (iI (((sz + 1 + 1 + 1) + 2 : Nat) : Int)), .int (iI (((bc + 1) : Nat) : Int)), .int (iI tn)])), (qd, ar cI 693 (apN (bU (bU (bU DB sz 31) (sz + 1) 139) (sz + 1 + 1) 1) (sz + 1 + 1 + 1) k 2)), (qk, ar cI 15 (bU KS bc (sz : Int)))]) := hD
    refine lv_aload_n hx hb d_Disk_appendBlock_56 rfl (lv_at hl 0 rfl) ?_
    refine lv_iload_n hx hb d_Disk_appendBlock_57 rfl (lv_at hl 3 rfl) ?_
    refine lv_iconst (v := iI (-1)) hx hb d_Disk_appendBlock_58 rfl ?_
    refine lv_ixor hx hb d_Disk_appendBlock_59 ?_
    refine bk_top (y := iI ((k ^^^ 4294967295 : Nat) : Int)) (iI_not k) ?_
    refine lv_iconst (v := iI 2) hx hb d_Disk_appendBlock_60 rfl ?_
    refine bk_fv (X := [(hs, .inr (4, [.ref qy, .int (iI (sl : Int))])), (qy, ar cI 528 SB), (hk, .inr (0, [.ref qd, .ref qk, .int (iI (((sz + 1 + 1 + 1) + 2 : Nat) : Int)), .int (iI (((bc + 1) : Nat) : Int)), .int (iI tn)])), (qd, ar cI 693 (apN (bU (bU (bU DB sz 31) (sz + 1) 139) (sz + 1 + 1) 1) (sz + 1 + 1 + 1) k 2)), (qk, ar cI 15 (bU KS bc (sz : Int)))]) (pl := []) (Wc := [(hk, .inr (0, [.ref qd, .ref qk, .int (iI (((sz + 1 + 1 + 1 + 2) : Nat) : Int)), .int (iI (((bc + 1) : Nat) : Int)), .int (iI tn)])), (qd, ar cI 693 (apN (bU (bU (bU DB sz 31) (sz + 1) 139) (sz + 1 + 1) 1) (sz + 1 + 1 + 1) k 2)), (qk, ar cI 15 (bU KS bc (sz : Int)))]) (wr := [(hs, .inr (4, [.ref qy, .int (iI (sl : Int))])), (qy, ar cI 528 SB)]) [2, 3, 4] [0, 1] rfl rfl (by decide) (by decide) hP hD hS hA (bk_rV (rest := []) hx hb hml hown hT hK (c_Disk_appendNumber l D cI cO hk qd qk (apN (bU (bU (bU DB sz 31) (sz + 1) 139) (sz + 1 + 1) 1) (sz + 1 + 1 + 1) k 2) (bU KS bc (sz : Int)) (sz + 1 + 1 + 1 + 2) (bc + 1) tn (k ^^^ 4294967295) 2 (by omega) (xor32 (by omega) (by decide)) (by decide)) (bk_subP (X := [(hs, .inr (4, [.ref qy, .int (iI (sl : Int))])), (qy, ar cI 528 SB), (hk, .inr (0, [.ref qd, .ref qk, .int (iI (((sz + 1 + 1 + 1) + 2 : Nat) : Int)), .int (iI (((bc + 1) : Nat) : Int)), .int (iI tn)])), (qd, ar cI 693 (apN (bU (bU (bU DB sz 31) (sz + 1) 139) (sz + 1 + 1) 1) (sz + 1 + 1 + 1) k 2)), (qk, ar cI 15 (bU KS bc (sz : Int)))]) (pl := []) (Wc := [(hk, .inr (0, [.ref qd, .ref qk, .int (iI (((sz + 1 + 1 + 1 + 2) : Nat) : Int)), .int (iI (((bc + 1) : Nat) : Int)), .int (iI tn)])), (qd, ar cI 693 (apN (bU (bU (bU DB sz 31) (sz + 1) 139) (sz + 1 + 1) 1) (sz + 1 + 1 + 1) k 2)), (qk, ar cI 15 (bU KS bc (sz : Int)))]) hP [2, 3, 4] rfl) (bk_subD (X := [(hs, .inr (4, [.ref qy, .int (iI (sl : Int))])), (qy, ar cI 528 SB), (hk, .inr (0, [.ref qd, .ref qk, .int (iI (((sz + 1 + 1 + 1) + 2 : Nat) : Int)), .int (iI (((bc + 1) : Nat) : Int)), .int (iI tn)])), (qd, ar cI 693 (apN (bU (bU (bU DB sz 31) (sz + 1) 139) (sz + 1 + 1) 1) (sz + 1 + 1 + 1) k 2)), (qk, ar cI 15 (bU KS bc (sz : Int)))]) (pl := []) (Wc := [(hk, .inr (0, [.ref qd, .ref qk, .int (iI (((sz + 1 + 1 + 1 + 2) : Nat) : Int)), .int (iI (((bc + 1) : Nat) : Int)), .int (iI tn)])), (qd, ar cI 693 (apN (bU (bU (bU DB sz 31) (sz + 1) 139) (sz + 1 + 1) 1) (sz + 1 + 1 + 1) k 2)), (qk, ar cI 15 (bU KS bc (sz : Int)))]) hD [2, 3, 4] (by decide) rfl) 0 0 rfl rfl rfl tw_262 tw_264 ts_3 tw_5 tw_265 hd_Disk_appendNumber ⟨rfl, rfl⟩ (by decide) hl.1 rfl (ble_le rfl) d_Disk_appendBlock_61 (by decide)) (fun u H locs hq hP hD hS => ?_)
    have hq : True := hq
    have hP : va_P D classes ([(hs, .inr (4, [.ref qy, .int (iI (sl : Int))])), (qy, ar cI 528 SB), (hk, .inr (0, [.ref qd, .ref qk, .int (iI (((sz + 1 + 1 + 1 + 2) + 2 : Nat) : Int)), .int (iI (((bc + 1) : Nat) : Int)), .int (iI tn)])), (qd, ar cI 693 (apN (apN (bU (bU (bU DB sz 31) (sz + 1) 139) (sz + 1 + 1) 1) (sz + 1 + 1 + 1) k 2) (sz + 1 + 1 + 1 + 2) (k ^^^ 4294967295) 2)), (qk, ar cI 15 (bU KS bc (sz : Int)))]) H := hP
    have hD : va_D A ([(hs, .inr (4, [.ref qy, .int (iI (sl : Int))])), (qy, ar cI 528 SB), (hk, .inr (0, [.ref qd, .ref qk, .int (iI (((sz + 1 + 1 + 1 + 2) + 2 : Nat) : Int)), .int (iI (((bc + 1) : Nat) : Int)), .int (iI tn)])), (qd, ar cI 693 (apN (apN (bU (bU (bU DB sz 31) (sz + 1) 139) (sz + 1 + 1) 1) (sz + 1 + 1 + 1) k 2) (sz + 1 + 1 + 1 + 2) (k ^^^ 4294967295) 2)), (qk, ar cI 15 (bU KS bc (sz : Int)))]) := hD
    have hcell : (ar cI 693 (cpN (hdN DB sz k) (sz + 7) SB f 0) : va_E) = ar cI 693 (apN (apN (bU (bU (bU DB sz 31) (sz + 1) 139) (sz + 1 + 1) 1) (sz + 1 + 1 + 1) k 2) (sz + 1 + 1 + 1 + 2) (k ^^^ 4294967295) 2) := by rw [cpN_0]; rfl
    have hP : va_P D classes ([(hs, .inr (4, [.ref qy, .int (iI (sl : Int))])), (qy, ar cI 528 SB), (hk, .inr (0, [.ref qd, .ref qk, .int (iI (((sz + 1 + 1 + 1 + 2) + 2 : Nat) : Int)), .int (iI (((bc + 1) : Nat) : Int)), .int (iI tn)])), (qd, ar cI 693 (cpN (hdN DB sz k) (sz + 7) SB f 0)), (qk, ar cI 15 (bU KS bc (sz : Int)))]) H := by
      rw [hcell]
      exact hP
    have hD : va_D A ([(hs, .inr (4, [.ref qy, .int (iI (sl : Int))])), (qy, ar cI 528 SB), (hk, .inr (0, [.ref qd, .ref qk, .int (iI (((sz + 1 + 1 + 1 + 2) + 2 : Nat) : Int)), .int (iI (((bc + 1) : Nat) : Int)), .int (iI tn)])), (qd, ar cI 693 (cpN (hdN DB sz k) (sz + 7) SB f 0)), (qk, ar cI 15 (bU KS bc (sz : Int)))]) := by
      rw [hcell]
      exact hD
    refine lv_aload_n hx hb d_Disk_appendBlock_64 rfl (lv_at hl 0 rfl) ?_
    refine va_get (ci := 0) (C := R_Disk) (T := F_Disk) (N := 5) hx hb hT in_Disk hown hK.1 hP 2 rfl rfl 2 (by decide) (hT _ tw_99) (fun _ h => h) rfl d_Disk_appendBlock_65 ?_
    refine lv_istore hx hb d_Disk_appendBlock_68 hl (by decide) rfl (fun ls hl => ?_)
    have hl : lv_has ls 6 [(4, .int (iI (((sz + 1 + 1 + 1 + 2) + 2 : Nat) : Int))), (0, .ref hk), (1, .ref hs), (2, .int (iI (f : Int))), (3, .int (iI (k : Int)))] := hl
    refine lv_iload_n hx hb d_Disk_appendBlock_70 rfl (lv_at hl 3 rfl) ?_
    refine lv_istore hx hb d_Disk_appendBlock_71 hl (by decide) rfl (fun ls hl => ?_)
    have hl : lv_has ls 6 [(5, .int (iI (f : Int))), (4, .int (iI (((sz + 1 + 1 + 1 + 2) + 2 : Nat) : Int))), (0, .ref hk), (1, .ref hs), (2, .int (iI (f : Int))), (3, .int (iI (k : Int)))] := hl
    have cut73 : ∀ (N0 : Nat) (t : Nat) (H : Heap) (locs : List Loc) (ls : Array Slot), k - t = N0 → (t ≤ k) → lv_has ls 6 [(0, .ref hk), (1, .ref hs), (2, .int (iI (f : Int))), (3, .int (iI (k : Int))), (4, .int (iI ((sz + 7 : Nat) : Int))), (5, .int (iI ((f + t : Nat) : Int)))] → va_P D classes ([(hs, .inr (4, [.ref qy, .int (iI (sl : Int))])), (qy, ar cI 528 SB), (hk, .inr (0, [.ref qd, .ref qk, .int (iI ((sz + 7 + t : Nat) : Int)), .int (iI ((bc + 1 : Nat) : Int)), .int (iI tn)])), (qd, ar cI 693 (cpN (hdN DB sz k) (sz + 7) SB f t)), (qk, ar cI 15 (bU KS bc (sz : Int)))]) H → va_D A ([(hs, .inr (4, [.ref qy, .int (iI (sl : Int))])), (qy, ar cI 528 SB), (hk, .inr (0, [.ref qd, .ref qk, .int (iI ((sz + 7 + t : Nat) : Int)), .int (iI ((bc + 1 : Nat) : Int)), .int (iI tn)])), (qd, ar cI 693 (cpN (hdN DB sz k) (sz + 7) SB f t)), (qk, ar cI 15 (bU KS bc (sz : Int)))]) → va_S A s.heap H locs → W p l e rm_Disk_appendBlock s m args below meth c H locs 0 0 Q (F0 m 73 ls []) := by
      intro N0
      induction N0 using Nat.strongRecOn with
      | _ N0 ih73 =>
        intro t H locs ls hN73 ht hl hP hD hS
        refine lv_iload hx hb d_Disk_appendBlock_73 (lv_at hl 5 rfl) ?_
        refine lv_iload_n hx hb d_Disk_appendBlock_75 rfl (lv_at hl 2 rfl) ?_
        refine lv_iload_n hx hb d_Disk_appendBlock_76 rfl (lv_at hl 3 rfl) ?_
        refine bk_add hx hb d_Disk_appendBlock_77 ?_
        refine bk_top (y := iI ((f + k : Nat) : Int)) (congrArg iI (by omega)) ?_
        refine bk_icmp_ge (tgt := 107) hx hb d_Disk_appendBlock_78 (by decide) (by omega) (by omega) (fun c78 => ?_) (fun c78 => ?_)
        · skip
          have e1 : k = t := by omega
          subst e1
          have hcell : (ar cI 693 (cpN (hdN DB sz k) (sz + 7) SB f k) : va_E) = ar cI 693 (cpN (hdN DB sz k) (sz + 7) SB f k) := rfl
          have hP : va_P D classes ([(hs, .inr (4, [.ref qy, .int (iI (sl : Int))])), (qy, ar cI 528 SB), (hk, .inr (0, [.ref qd, .ref qk, .int (iI ((sz + 7 + k : Nat) : Int)), .int (iI ((bc + 1 : Nat) : Int)), .int (iI tn)])), (qd, ar cI 693 (cpN (hdN DB sz k) (sz + 7) SB f k)), (qk, ar cI 15 (bU KS bc (sz : Int)))]) H := by
            rw [hcell]
            exact hP
          have hD : va_D A ([(hs, .inr (4, [.ref qy, .int (iI (sl : Int))])), (qy, ar cI 528 SB), (hk, .inr (0, [.ref qd, .ref qk, .int (iI ((sz + 7 + k : Nat) : Int)), .int (iI ((bc + 1 : Nat) : Int)), .int (iI tn)])), (qd, ar cI 693 (cpN (hdN DB sz k) (sz + 7) SB f k)), (qk, ar cI 15 (bU KS bc (sz : Int)))]) := by
            rw [hcell]
            exact hD
          have hcp : ∀ j, j < sz + 7 + k → 0 ≤ (cpN (hdN DB sz k) (sz + 7) SB f k) j ∧ (cpN (hdN DB sz k) (sz + 7) SB f k) j ≤ 255 := blk_cp hDB hSB hfk (by omega)
          have hcr : crcN (cpN (hdN DB sz k) (sz + 7) SB f k) (sz + 7) k = crcN SB f k := crcN_congr (fun j hj => cpN_in hj)
          refine lv_aload_n hx hb d_Disk_appendBlock_107 rfl (lv_at hl 0 rfl) ?_
          refine lv_aload_n hx hb d_Disk_appendBlock_108 rfl (lv_at hl 0 rfl) ?_
          refine lv_iload hx hb d_Disk_appendBlock_109 (lv_at hl 4 rfl) ?_
          refine lv_iload_n hx hb d_Disk_appendBlock_111 rfl (lv_at hl 3 rfl) ?_
          refine bk_fR (ws := [(hs, .inr (4, [.ref qy, .int (iI (sl : Int))])), (qy, ar cI 528 SB), (hk, .inr (0, [.ref qd, .ref qk, .int (iI ((sz + 7 + k : Nat) : Int)), .int (iI ((bc + 1 : Nat) : Int)), .int (iI tn)])), (qd, ar cI 693 (cpN (hdN DB sz k) (sz + 7) SB f k)), (qk, ar cI 15 (bU KS bc (sz : Int)))]) (Wc := [(hk, .inr (0, [.ref qd, .ref qk, .int (iI (((sz + 7 + k) : Nat) : Int)), .int (iI (((bc + 1) : Nat) : Int)), .int (iI tn)])), (qd, ar cI 693 (cpN (hdN DB sz k) (sz + 7) SB f k)), (qk, ar cI 15 (bU KS bc (sz : Int)))]) (fun _ => rfl) (bk_hs (X := [(hs, .inr (4, [.ref qy, .int (iI (sl : Int))])), (qy, ar cI 528 SB), (hk, .inr (0, [.ref qd, .ref qk, .int (iI ((sz + 7 + k : Nat) : Int)), .int (iI ((bc + 1 : Nat) : Int)), .int (iI tn)])), (qd, ar cI 693 (cpN (hdN DB sz k) (sz + 7) SB f k)), (qk, ar cI 15 (bU KS bc (sz : Int)))]) (pl := []) (Wc := [(hk, .inr (0, [.ref qd, .ref qk, .int (iI (((sz + 7 + k) : Nat) : Int)), .int (iI (((bc + 1) : Nat) : Int)), .int (iI tn)])), (qd, ar cI 693 (cpN (hdN DB sz k) (sz + 7) SB f k)), (qk, ar cI 15 (bU KS bc (sz : Int)))]) [2, 3, 4] rfl) hP hD hS hA (bk_rV (rest := [.ref hk]) hx hb hml hown hT hK (c_Disk_sumOf l D cI cO hk qd qk (cpN (hdN DB sz k) (sz + 7) SB f k) (bU KS bc (sz : Int)) (sz + 7 + k) (bc + 1) tn (sz + 7) k (by omega) hcp (by omega)) (bk_subP (X := [(hs, .inr (4, [.ref qy, .int (iI (sl : Int))])), (qy, ar cI 528 SB), (hk, .inr (0, [.ref qd, .ref qk, .int (iI ((sz + 7 + k : Nat) : Int)), .int (iI ((bc + 1 : Nat) : Int)), .int (iI tn)])), (qd, ar cI 693 (cpN (hdN DB sz k) (sz + 7) SB f k)), (qk, ar cI 15 (bU KS bc (sz : Int)))]) (pl := []) (Wc := [(hk, .inr (0, [.ref qd, .ref qk, .int (iI (((sz + 7 + k) : Nat) : Int)), .int (iI (((bc + 1) : Nat) : Int)), .int (iI tn)])), (qd, ar cI 693 (cpN (hdN DB sz k) (sz + 7) SB f k)), (qk, ar cI 15 (bU KS bc (sz : Int)))]) hP [2, 3, 4] rfl) (bk_subD (X := [(hs, .inr (4, [.ref qy, .int (iI (sl : Int))])), (qy, ar cI 528 SB), (hk, .inr (0, [.ref qd, .ref qk, .int (iI ((sz + 7 + k : Nat) : Int)), .int (iI ((bc + 1 : Nat) : Int)), .int (iI tn)])), (qd, ar cI 693 (cpN (hdN DB sz k) (sz + 7) SB f k)), (qk, ar cI 15 (bU KS bc (sz : Int)))]) (pl := []) (Wc := [(hk, .inr (0, [.ref qd, .ref qk, .int (iI (((sz + 7 + k) : Nat) : Int)), .int (iI (((bc + 1) : Nat) : Int)), .int (iI tn)])), (qd, ar cI 693 (cpN (hdN DB sz k) (sz + 7) SB f k)), (qk, ar cI 15 (bU KS bc (sz : Int)))]) hD [2, 3, 4] (by decide) rfl) 0 0 rfl rfl rfl tw_266 tw_268 ts_4 tw_5 tw_269 hd_Disk_sumOf ⟨rfl, rfl⟩ (by decide) hl.1 rfl (ble_le rfl) d_Disk_appendBlock_112 (by decide)) (fun r112 u H locs hq hP hS => ?_)
          have hq : r112 = ((crcN (cpN (hdN DB sz k) (sz + 7) SB f k) (sz + 7) k ^^^ 4294967295 : Nat) : Int) := hq
          obtain rfl := hq
          rw [hcr]
          refine lv_iconst (v := iI 4) hx hb d_Disk_appendBlock_115 rfl ?_
          refine bk_fv (X := [(hs, .inr (4, [.ref qy, .int (iI (sl : Int))])), (qy, ar cI 528 SB), (hk, .inr (0, [.ref qd, .ref qk, .int (iI ((sz + 7 + k : Nat) : Int)), .int (iI ((bc + 1 : Nat) : Int)), .int (iI tn)])), (qd, ar cI 693 (cpN (hdN DB sz k) (sz + 7) SB f k)), (qk, ar cI 15 (bU KS bc (sz : Int)))]) (pl := []) (Wc := [(hk, .inr (0, [.ref qd, .ref qk, .int (iI (((sz + 7 + k) : Nat) : Int)), .int (iI (((bc + 1) : Nat) : Int)), .int (iI tn)])), (qd, ar cI 693 (cpN (hdN DB sz k) (sz + 7) SB f k)), (qk, ar cI 15 (bU KS bc (sz : Int)))]) (wr := [(hs, .inr (4, [.ref qy, .int (iI (sl : Int))])), (qy, ar cI 528 SB)]) [2, 3, 4] [0, 1] rfl rfl (by decide) (by decide) hP hD hS hA (bk_rV (rest := []) hx hb hml hown hT hK (c_Disk_appendNumber l D cI cO hk qd qk (cpN (hdN DB sz k) (sz + 7) SB f k) (bU KS bc (sz : Int)) (sz + 7 + k) (bc + 1) tn (crcN SB f k ^^^ 4294967295) 4 (by omega) (xor32 (crcN_lt (fun j hj => hSB (f + j) (by omega))) (by decide)) (by decide)) (bk_subP (X := [(hs, .inr (4, [.ref qy, .int (iI (sl : Int))])), (qy, ar cI 528 SB), (hk, .inr (0, [.ref qd, .ref qk, .int (iI ((sz + 7 + k : Nat) : Int)), .int (iI ((bc + 1 : Nat) : Int)), .int (iI tn)])), (qd, ar cI 693 (cpN (hdN DB sz k) (sz + 7) SB f k)), (qk, ar cI 15 (bU KS bc (sz : Int)))]) (pl := []) (Wc := [(hk, .inr (0, [.ref qd, .ref qk, .int (iI (((sz + 7 + k) : Nat) : Int)), .int (iI (((bc + 1) : Nat) : Int)), .int (iI tn)])), (qd, ar cI 693 (cpN (hdN DB sz k) (sz + 7) SB f k)), (qk, ar cI 15 (bU KS bc (sz : Int)))]) hP [2, 3, 4] rfl) (bk_subD (X := [(hs, .inr (4, [.ref qy, .int (iI (sl : Int))])), (qy, ar cI 528 SB), (hk, .inr (0, [.ref qd, .ref qk, .int (iI ((sz + 7 + k : Nat) : Int)), .int (iI ((bc + 1 : Nat) : Int)), .int (iI tn)])), (qd, ar cI 693 (cpN (hdN DB sz k) (sz + 7) SB f k)), (qk, ar cI 15 (bU KS bc (sz : Int)))]) (pl := []) (Wc := [(hk, .inr (0, [.ref qd, .ref qk, .int (iI (((sz + 7 + k) : Nat) : Int)), .int (iI (((bc + 1) : Nat) : Int)), .int (iI tn)])), (qd, ar cI 693 (cpN (hdN DB sz k) (sz + 7) SB f k)), (qk, ar cI 15 (bU KS bc (sz : Int)))]) hD [2, 3, 4] (by decide) rfl) 0 0 rfl rfl rfl tw_262 tw_264 ts_3 tw_5 tw_265 hd_Disk_appendNumber ⟨rfl, rfl⟩ (by decide) hl.1 rfl (ble_le rfl) d_Disk_appendBlock_116 (by decide)) (fun u H locs hq hP hD hS => ?_)
          have hq : True := hq
          have hP : va_P D classes ([(hs, .inr (4, [.ref qy, .int (iI (sl : Int))])), (qy, ar cI 528 SB), (hk, .inr (0, [.ref qd, .ref qk, .int (iI (((sz + 7 + k) + 4 : Nat) : Int)), .int (iI (((bc + 1) : Nat) : Int)), .int (iI tn)])), (qd, ar cI 693 (apN (cpN (hdN DB sz k) (sz + 7) SB f k) (sz + 7 + k) (crcN SB f k ^^^ 4294967295) 4)), (qk, ar cI 15 (bU KS bc (sz : Int)))]) H := hP
          have hD : va_D A ([(hs, .inr (4, [.ref qy, .int (iI (sl : Int))])), (qy, ar cI 528 SB), (hk, .inr (0, [.ref qd, .ref qk, .int (iI (((sz + 7 + k) + 4 : Nat) : Int)), .int (iI (((bc + 1) : Nat) : Int)), .int (iI tn)])), (qd, ar cI 693 (apN (cpN (hdN DB sz k) (sz + 7) SB f k) (sz + 7 + k) (crcN SB f k ^^^ 4294967295) 4)), (qk, ar cI 15 (bU KS bc (sz : Int)))]) := hD
          have hcell : (ar cI 693 (bkN DB SB sz f k) : va_E) = ar cI 693 (apN (cpN (hdN DB sz k) (sz + 7) SB f k) (sz + 7 + k) (crcN SB f k ^^^ 4294967295) 4) := rfl
          have hP : va_P D classes ([(hs, .inr (4, [.ref qy, .int (iI (sl : Int))])), (qy, ar cI 528 SB), (hk, .inr (0, [.ref qd, .ref qk, .int (iI (((sz + 7 + k) + 4 : Nat) : Int)), .int (iI (((bc + 1) : Nat) : Int)), .int (iI tn)])), (qd, ar cI 693 (bkN DB SB sz f k)), (qk, ar cI 15 (bU KS bc (sz : Int)))]) H := by
            rw [hcell]
            exact hP
          have hD : va_D A ([(hs, .inr (4, [.ref qy, .int (iI (sl : Int))])), (qy, ar cI 528 SB), (hk, .inr (0, [.ref qd, .ref qk, .int (iI (((sz + 7 + k) + 4 : Nat) : Int)), .int (iI (((bc + 1) : Nat) : Int)), .int (iI tn)])), (qd, ar cI 693 (bkN DB SB sz f k)), (qk, ar cI 15 (bU KS bc (sz : Int)))]) := by
            rw [hcell]
            exact hD
          have hP := hP.sub (ws' := [(hk, .inr (0, [.ref qd, .ref qk, .int (iI (((sz + 7 + k) + 4 : Nat) : Int)), .int (iI (((bc + 1) : Nat) : Int)), .int (iI tn)])), (qd, ar cI 693 (bkN DB SB sz f k)), (qk, ar cI 15 (bU KS bc (sz : Int))), (hs, .inr (4, [.ref qy, .int (iI (sl : Int))])), (qy, ar cI 528 SB)]) [2, 3, 4, 0, 1] rfl
          have hD := hD.sub (ws' := [(hk, .inr (0, [.ref qd, .ref qk, .int (iI (((sz + 7 + k) + 4 : Nat) : Int)), .int (iI (((bc + 1) : Nat) : Int)), .int (iI tn)])), (qd, ar cI 693 (bkN DB SB sz f k)), (qk, ar cI 15 (bU KS bc (sz : Int))), (hs, .inr (4, [.ref qy, .int (iI (sl : Int))])), (qy, ar cI 528 SB)]) [2, 3, 4, 0, 1] (by decide) rfl
          exact bk_retv hx hb hr hlk hAe hQ hS () trivial hP hD d_Disk_appendBlock_119
        · skip
          refine lv_iload hx hb d_Disk_appendBlock_81 (lv_at hl 5 rfl) ?_
          refine lv_aload_n hx hb d_Disk_appendBlock_83 rfl (lv_at hl 1 rfl) ?_
          refine va_get (ci := 4) (C := R_Strm) (T := F_Strm) (N := 2) hx hb hT in_Strm hown hK.1 hP 0 rfl rfl 1 (by decide) (hT _ tw_49) (fun _ h => h) rfl d_Disk_appendBlock_84 ?_
          refine bk_icmp_ge (tgt := 107) hx hb d_Disk_appendBlock_87 (by decide) (by omega) (by omega) (fun c87 => ?_) (fun c87 => ?_)
          · skip
            exact absurd c87 (by omega)
          · skip
            refine lv_aload_n hx hb d_Disk_appendBlock_90 rfl (lv_at hl 0 rfl) ?_
            refine lv_aload_n hx hb d_Disk_appendBlock_91 rfl (lv_at hl 1 rfl) ?_
            refine va_get (ci := 4) (C := R_Strm) (T := F_Strm) (N := 2) hx hb hT in_Strm hown hK.1 hP 0 rfl rfl 0 (by decide) (hT _ tw_47) (fun _ h => h) rfl d_Disk_appendBlock_92 ?_
            refine lv_iload hx hb d_Disk_appendBlock_95 (lv_at hl 5 rfl) ?_
            refine bk_iald hx hb hK.1 hP 1 0 rfl rfl (f + t) (by omega) (by decide) d_Disk_appendBlock_97 ?_
            refine bk_fv (X := [(hs, .inr (4, [.ref qy, .int (iI (sl : Int))])), (qy, ar cI 528 SB), (hk, .inr (0, [.ref qd, .ref qk, .int (iI ((sz + 7 + t : Nat) : Int)), .int (iI ((bc + 1 : Nat) : Int)), .int (iI tn)])), (qd, ar cI 693 (cpN (hdN DB sz k) (sz + 7) SB f t)), (qk, ar cI 15 (bU KS bc (sz : Int)))]) (pl := []) (Wc := [(hk, .inr (0, [.ref qd, .ref qk, .int (iI (((sz + 7 + t) : Nat) : Int)), .int (iI (((bc + 1) : Nat) : Int)), .int (iI tn)])), (qd, ar cI 693 (cpN (hdN DB sz k) (sz + 7) SB f t)), (qk, ar cI 15 (bU KS bc (sz : Int)))]) (wr := [(hs, .inr (4, [.ref qy, .int (iI (sl : Int))])), (qy, ar cI 528 SB)]) [2, 3, 4] [0, 1] rfl rfl (by decide) (by decide) hP hD hS hA (bk_rV (rest := []) hx hb hml hown hT hK (c_Disk_appendByte l D cI cO hk qd qk (cpN (hdN DB sz k) (sz + 7) SB f t) (bU KS bc (sz : Int)) (sz + 7 + t) (bc + 1) tn (SB (f + t)) (by omega)) (bk_subP (X := [(hs, .inr (4, [.ref qy, .int (iI (sl : Int))])), (qy, ar cI 528 SB), (hk, .inr (0, [.ref qd, .ref qk, .int (iI ((sz + 7 + t : Nat) : Int)), .int (iI ((bc + 1 : Nat) : Int)), .int (iI tn)])), (qd, ar cI 693 (cpN (hdN DB sz k) (sz + 7) SB f t)), (qk, ar cI 15 (bU KS bc (sz : Int)))]) (pl := []) (Wc := [(hk, .inr (0, [.ref qd, .ref qk, .int (iI (((sz + 7 + t) : Nat) : Int)), .int (iI (((bc + 1) : Nat) : Int)), .int (iI tn)])), (qd, ar cI 693 (cpN (hdN DB sz k) (sz + 7) SB f t)), (qk, ar cI 15 (bU KS bc (sz : Int)))]) hP [2, 3, 4] rfl) (bk_subD (X := [(hs, .inr (4, [.ref qy, .int (iI (sl : Int))])), (qy, ar cI 528 SB), (hk, .inr (0, [.ref qd, .ref qk, .int (iI ((sz + 7 + t : Nat) : Int)), .int (iI ((bc + 1 : Nat) : Int)), .int (iI tn)])), (qd, ar cI 693 (cpN (hdN DB sz k) (sz + 7) SB f t)), (qk, ar cI 15 (bU KS bc (sz : Int)))]) (pl := []) (Wc := [(hk, .inr (0, [.ref qd, .ref qk, .int (iI (((sz + 7 + t) : Nat) : Int)), .int (iI (((bc + 1) : Nat) : Int)), .int (iI tn)])), (qd, ar cI 693 (cpN (hdN DB sz k) (sz + 7) SB f t)), (qk, ar cI 15 (bU KS bc (sz : Int)))]) hD [2, 3, 4] (by decide) rfl) 0 0 rfl rfl rfl tw_258 tw_260 ts_2 tw_5 tw_261 hd_Disk_appendByte ⟨rfl, rfl⟩ (by decide) hl.1 rfl (ble_le rfl) d_Disk_appendBlock_98 (by decide)) (fun u H locs hq hP hD hS => ?_)
            have hq : True := hq
            have hP : va_P D classes ([(hs, .inr (4, [.ref qy, .int (iI (sl : Int))])), (qy, ar cI 528 SB), (hk, .inr (0, [.ref qd, .ref qk, .int (iI (((sz + 7 + t) + 1 : Nat) : Int)), .int (iI (((bc + 1) : Nat) : Int)), .int (iI tn)])), (qd, ar cI 693 (bU (cpN (hdN DB sz k) (sz + 7) SB f t) (sz + 7 + t) (SB (f + t)))), (qk, ar cI 15 (bU KS bc (sz : Int)))]) H := hP
            have hD : va_D A ([(hs, .inr (4, [.ref qy, .int (iI (sl : Int))])), (qy, ar cI 528 SB), (hk, .inr (0, [.ref qd, .ref qk, .int (iI (((sz + 7 + t) + 1 : Nat) : Int)), .int (iI (((bc + 1) : Nat) : Int)), .int (iI tn)])), (qd, ar cI 693 (bU (cpN (hdN DB sz k) (sz + 7) SB f t) (sz + 7 + t) (SB (f + t)))), (qk, ar cI 15 (bU KS bc (sz : Int)))]) := hD
            have hcell : (ar cI 693 (cpN (hdN DB sz k) (sz + 7) SB f (t + 1)) : va_E) = ar cI 693 (bU (cpN (hdN DB sz k) (sz + 7) SB f t) (sz + 7 + t) (SB (f + t))) := by rw [cpN_s]
            have hP : va_P D classes ([(hs, .inr (4, [.ref qy, .int (iI (sl : Int))])), (qy, ar cI 528 SB), (hk, .inr (0, [.ref qd, .ref qk, .int (iI (((sz + 7 + t) + 1 : Nat) : Int)), .int (iI (((bc + 1) : Nat) : Int)), .int (iI tn)])), (qd, ar cI 693 (cpN (hdN DB sz k) (sz + 7) SB f (t + 1))), (qk, ar cI 15 (bU KS bc (sz : Int)))]) H := by
              rw [hcell]
              exact hP
            have hD : va_D A ([(hs, .inr (4, [.ref qy, .int (iI (sl : Int))])), (qy, ar cI 528 SB), (hk, .inr (0, [.ref qd, .ref qk, .int (iI (((sz + 7 + t) + 1 : Nat) : Int)), .int (iI (((bc + 1) : Nat) : Int)), .int (iI tn)])), (qd, ar cI 693 (cpN (hdN DB sz k) (sz + 7) SB f (t + 1))), (qk, ar cI 15 (bU KS bc (sz : Int)))]) := by
              rw [hcell]
              exact hD
            refine lv_iinc (k := 5) (v := iI ((f + t + 1 : Nat) : Int)) hx hb d_Disk_appendBlock_101 hl rfl ((iI_add _ _).trans (congrArg iI (by omega))) (by decide) rfl (fun ls hl => ?_)
            have hl : lv_has ls 6 [(5, .int (iI ((f + t + 1 : Nat) : Int))), (0, .ref hk), (1, .ref hs), (2, .int (iI (f : Int))), (3, .int (iI (k : Int))), (4, .int (iI ((sz + 7 : Nat) : Int)))] := hl
            refine lv_goto (tgt := 73) hx hb d_Disk_appendBlock_104 (by decide) ?_
            exact ih73 (k - (t + 1)) (by omega) (t + 1) _ _ _ rfl (by omega) (lv_sub hl [1, 2, 3, 4, 5, 0] rfl) hP hD hS
    exact cut73 _ 0 _ _ _ rfl (by omega) (lv_sub hl [2, 3, 4, 5, 1, 0] rfl) hP hD hS
end
