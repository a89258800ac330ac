section
-- ===== PART A: goes FIRST, ahead of the names: the tables' words, and 'selects' of the private methods out of them =====
/-- a private method of a class that the tables say can be made, by its rows of tables_1 -/
def lw_okq (q : MethodName × Nat) : Prop := (q.1.cls ≠ "java/lang/invoke/MethodHandle" ∧ q.1.cls ≠ "java/lang/invoke/VarHandle") ∧ Cond.instantiable q.1.cls q.2 ∈ tables_1 ∧ Cond.privateMethod q.1 ∈ tables_1 ∧ Cond.instanceMethod q.1 ∈ tables_1
theorem lw_p0 : lw_okq (⟨"BinnedReads$Stream", "appendByte", "(I)V"⟩, 2) := ⟨⟨by decide +kernel, by decide +kernel⟩, List.mem_of_getElem? (i := 41) (by decide +kernel), List.mem_of_getElem? (i := 236) (by decide +kernel), List.mem_of_getElem? (i := 237) (by decide +kernel)⟩
theorem lw_p1 : lw_okq (⟨"BinnedReads$Disk", "appendBlock", "(LBinnedReads$Stream;II)V"⟩, 5) := ⟨⟨by decide +kernel, by decide +kernel⟩, List.mem_of_getElem? (i := 92) (by decide +kernel), List.mem_of_getElem? (i := 255) (by decide +kernel), List.mem_of_getElem? (i := 256) (by decide +kernel)⟩
theorem lw_p2 : lw_okq (⟨"BinnedReads$Disk", "appendByte", "(I)V"⟩, 5) := ⟨⟨by decide +kernel, by decide +kernel⟩, List.mem_of_getElem? (i := 92) (by decide +kernel), List.mem_of_getElem? (i := 259) (by decide +kernel), List.mem_of_getElem? (i := 260) (by decide +kernel)⟩
theorem lw_p3 : lw_okq (⟨"BinnedReads$Disk", "appendNumber", "(II)V"⟩, 5) := ⟨⟨by decide +kernel, by decide +kernel⟩, List.mem_of_getElem? (i := 92) (by decide +kernel), List.mem_of_getElem? (i := 263) (by decide +kernel), List.mem_of_getElem? (i := 264) (by decide +kernel)⟩
theorem lw_p4 : lw_okq (⟨"BinnedReads$Disk", "sumOf", "(II)I"⟩, 5) := ⟨⟨by decide +kernel, by decide +kernel⟩, List.mem_of_getElem? (i := 92) (by decide +kernel), List.mem_of_getElem? (i := 267) (by decide +kernel), List.mem_of_getElem? (i := 268) (by decide +kernel)⟩
theorem lw_p5 : lw_okq (⟨"BinnedReads$Disk", "isSound", "(I)Z"⟩, 5) := ⟨⟨by decide +kernel, by decide +kernel⟩, List.mem_of_getElem? (i := 92) (by decide +kernel), List.mem_of_getElem? (i := 317) (by decide +kernel), List.mem_of_getElem? (i := 318) (by decide +kernel)⟩
theorem lw_p6 : lw_okq (⟨"BinnedReads$Disk", "numberAt", "(II)I"⟩, 5) := ⟨⟨by decide +kernel, by decide +kernel⟩, List.mem_of_getElem? (i := 92) (by decide +kernel), List.mem_of_getElem? (i := 321) (by decide +kernel), List.mem_of_getElem? (i := 322) (by decide +kernel)⟩
theorem lw_p7 : lw_okq (⟨"BinnedReads$Index", "firstEndingAfter", "(II)I"⟩, 8) := ⟨⟨by decide +kernel, by decide +kernel⟩, List.mem_of_getElem? (i := 57) (by decide +kernel), List.mem_of_getElem? (i := 337) (by decide +kernel), List.mem_of_getElem? (i := 338) (by decide +kernel)⟩
theorem lw_p8 : lw_okq (⟨"BinnedReads", "areChosenSound", "()Z"⟩, 5) := ⟨⟨by decide +kernel, by decide +kernel⟩, List.mem_of_getElem? (i := 10) (by decide +kernel), List.mem_of_getElem? (i := 344) (by decide +kernel), List.mem_of_getElem? (i := 345) (by decide +kernel)⟩
theorem lw_p9 : lw_okq (⟨"BinnedReadsModel", "sum", "(III)I"⟩, 23) := ⟨⟨by decide +kernel, by decide +kernel⟩, List.mem_of_getElem? (i := 412) (by decide +kernel), List.mem_of_getElem? (i := 507) (by decide +kernel), List.mem_of_getElem? (i := 508) (by decide +kernel)⟩
theorem lw_p10 : lw_okq (⟨"BinnedReadsModel", "putRead", "(I)V"⟩, 23) := ⟨⟨by decide +kernel, by decide +kernel⟩, List.mem_of_getElem? (i := 412) (by decide +kernel), List.mem_of_getElem? (i := 516) (by decide +kernel), List.mem_of_getElem? (i := 517) (by decide +kernel)⟩
theorem lw_p11 : lw_okq (⟨"BinnedReadsModel", "put", "(I)V"⟩, 23) := ⟨⟨by decide +kernel, by decide +kernel⟩, List.mem_of_getElem? (i := 412) (by decide +kernel), List.mem_of_getElem? (i := 520) (by decide +kernel), List.mem_of_getElem? (i := 521) (by decide +kernel)⟩
theorem lw_p12 : lw_okq (⟨"BinnedReadsModel", "binOf", "(I)I"⟩, 23) := ⟨⟨by decide +kernel, by decide +kernel⟩, List.mem_of_getElem? (i := 412) (by decide +kernel), List.mem_of_getElem? (i := 524) (by decide +kernel), List.mem_of_getElem? (i := 525) (by decide +kernel)⟩
theorem lw_p13 : lw_okq (⟨"BinnedReadsModel", "storeBlock", "(II)V"⟩, 23) := ⟨⟨by decide +kernel, by decide +kernel⟩, List.mem_of_getElem? (i := 412) (by decide +kernel), List.mem_of_getElem? (i := 528) (by decide +kernel), List.mem_of_getElem? (i := 529) (by decide +kernel)⟩
theorem lw_p14 : lw_okq (⟨"BinnedReadsModel", "store", "(I)V"⟩, 23) := ⟨⟨by decide +kernel, by decide +kernel⟩, List.mem_of_getElem? (i := 412) (by decide +kernel), List.mem_of_getElem? (i := 532) (by decide +kernel), List.mem_of_getElem? (i := 533) (by decide +kernel)⟩
theorem lw_p15 : lw_okq (⟨"BinnedReadsModel", "firstBehind", "(II)I"⟩, 23) := ⟨⟨by decide +kernel, by decide +kernel⟩, List.mem_of_getElem? (i := 412) (by decide +kernel), List.mem_of_getElem? (i := 557) (by decide +kernel), List.mem_of_getElem? (i := 558) (by decide +kernel)⟩
def lw_privs_1 : List (MethodName × Nat) := [(⟨"BinnedReads$Stream", "appendByte", "(I)V"⟩, 2), (⟨"BinnedReads$Disk", "appendBlock", "(LBinnedReads$Stream;II)V"⟩, 5), (⟨"BinnedReads$Disk", "appendByte", "(I)V"⟩, 5), (⟨"BinnedReads$Disk", "appendNumber", "(II)V"⟩, 5), (⟨"BinnedReads$Disk", "sumOf", "(II)I"⟩, 5), (⟨"BinnedReads$Disk", "isSound", "(I)Z"⟩, 5), (⟨"BinnedReads$Disk", "numberAt", "(II)I"⟩, 5), (⟨"BinnedReads$Index", "firstEndingAfter", "(II)I"⟩, 8), (⟨"BinnedReads", "areChosenSound", "()Z"⟩, 5), (⟨"BinnedReadsModel", "sum", "(III)I"⟩, 23), (⟨"BinnedReadsModel", "putRead", "(I)V"⟩, 23), (⟨"BinnedReadsModel", "put", "(I)V"⟩, 23), (⟨"BinnedReadsModel", "binOf", "(I)I"⟩, 23), (⟨"BinnedReadsModel", "storeBlock", "(II)V"⟩, 23), (⟨"BinnedReadsModel", "store", "(I)V"⟩, 23), (⟨"BinnedReadsModel", "firstBehind", "(II)I"⟩, 23)]
theorem lw_r1 : ∀ q ∈ lw_privs_1, lw_okq q := List.forall_mem_cons.mpr ⟨lw_p0, List.forall_mem_cons.mpr ⟨lw_p1, List.forall_mem_cons.mpr ⟨lw_p2, List.forall_mem_cons.mpr ⟨lw_p3, List.forall_mem_cons.mpr ⟨lw_p4, List.forall_mem_cons.mpr ⟨lw_p5, List.forall_mem_cons.mpr ⟨lw_p6, List.forall_mem_cons.mpr ⟨lw_p7, List.forall_mem_cons.mpr ⟨lw_p8, List.forall_mem_cons.mpr ⟨lw_p9, List.forall_mem_cons.mpr ⟨lw_p10, List.forall_mem_cons.mpr ⟨lw_p11, List.forall_mem_cons.mpr ⟨lw_p12, List.forall_mem_cons.mpr ⟨lw_p13, List.forall_mem_cons.mpr ⟨lw_p14, List.forall_mem_cons.mpr ⟨lw_p15, fun _ h => absurd h List.not_mem_nil⟩⟩⟩⟩⟩⟩⟩⟩⟩⟩⟩⟩⟩⟩⟩⟩
theorem lw_p16 : lw_okq (⟨"BinnedReadsModel", "hurt", "(I)Z"⟩, 23) := ⟨⟨by decide +kernel, by decide +kernel⟩, List.mem_of_getElem? (i := 412) (by decide +kernel), List.mem_of_getElem? (i := 564) (by decide +kernel), List.mem_of_getElem? (i := 565) (by decide +kernel)⟩
def lw_privs_2 : List (MethodName × Nat) := [(⟨"BinnedReadsModel", "hurt", "(I)Z"⟩, 23)]
theorem lw_r2 : ∀ q ∈ lw_privs_2, lw_okq q := List.forall_mem_cons.mpr ⟨lw_p16, fun _ h => absurd h List.not_mem_nil⟩
def lw_privs : List (MethodName × Nat) := lw_privs_1 ++ (lw_privs_2)
def lw_tbl : List Cond := k2_sels lw_privs ++ tables_1
theorem lw_privs_ok : ∀ q ∈ lw_privs, lw_okq q := by
  show ∀ q ∈ lw_privs_1 ++ (lw_privs_2), lw_okq q
  exact List.forall_mem_append.mpr ⟨lw_r1, lw_r2⟩
end
section
/-! names: classes, fields, methods (by gen/names.py) -/
/-- the words of the tables that a call carries on -/
def tb : List Cond := lw_tbl.filter goodWord
theorem tb_good : ∀ w ∈ tb, goodWord w = true := fun w h => (List.mem_filter.mp h).2
theorem tb_of {w : Cond} (h : w ∈ lw_tbl) (g : goodWord w = true) : w ∈ tb := List.mem_filter.mpr ⟨h, g⟩
theorem tb_in {w : Cond} (h : w ∈ tb) : w ∈ lw_tbl := (List.mem_filter.mp h).1
theorem tw_0 : (Jvm.Cond.initialized "BinnedReadsLaw") ∈ tb := tb_of (List.mem_append_right _ (List.mem_of_getElem? (i := 0) (by decide +kernel))) (by decide +kernel)
theorem tw_1 : (Jvm.Cond.initialized "BinnedReads") ∈ tb := tb_of (List.mem_append_right _ (List.mem_of_getElem? (i := 1) (by decide +kernel))) (by decide +kernel)
theorem tw_2 : (Jvm.Cond.initialized "BinnedReads$Draft") ∈ tb := tb_of (List.mem_append_right _ (List.mem_of_getElem? (i := 2) (by decide +kernel))) (by decide +kernel)
theorem tw_3 : (Jvm.Cond.initialized "BinnedReads$Stream") ∈ tb := tb_of (List.mem_append_right _ (List.mem_of_getElem? (i := 3) (by decide +kernel))) (by decide +kernel)
theorem tw_4 : (Jvm.Cond.initialized "BinnedReads$Index") ∈ tb := tb_of (List.mem_append_right _ (List.mem_of_getElem? (i := 4) (by decide +kernel))) (by decide +kernel)
theorem tw_5 : (Jvm.Cond.initialized "BinnedReads$Disk") ∈ tb := tb_of (List.mem_append_right _ (List.mem_of_getElem? (i := 5) (by decide +kernel))) (by decide +kernel)
theorem tw_6 : (Jvm.Cond.initialized "BinnedReads$Finding") ∈ tb := tb_of (List.mem_append_right _ (List.mem_of_getElem? (i := 6) (by decide +kernel))) (by decide +kernel)
theorem tw_7 : (Jvm.Cond.initialized "BinnedReadsModel") ∈ tb := tb_of (List.mem_append_right _ (List.mem_of_getElem? (i := 7) (by decide +kernel))) (by decide +kernel)
theorem tw_8 : (Jvm.Cond.initialized "java/lang/Math") ∈ tb := tb_of (List.mem_append_right _ (List.mem_of_getElem? (i := 8) (by decide +kernel))) (by decide +kernel)
theorem tw_9 : (Jvm.Cond.classLink "BinnedReadsLaw" (7 : Nat) "BinnedReads") ∈ tb := tb_of (List.mem_append_right _ (List.mem_of_getElem? (i := 9) (by decide +kernel))) (by decide +kernel)
theorem tw_10 : (Jvm.Cond.instantiable "BinnedReads" (5 : Nat)) ∈ tb := tb_of (List.mem_append_right _ (List.mem_of_getElem? (i := 10) (by decide +kernel))) (by decide +kernel)
theorem tw_11 : (Jvm.Cond.methodLink "BinnedReadsLaw" (9 : Nat) ({ cls := "BinnedReads", name := "<init>", desc := "()V" } : Jvm.MethodName)) ∈ tb := tb_of (List.mem_append_right _ (List.mem_of_getElem? (i := 11) (by decide +kernel))) (by decide +kernel)
theorem tw_12 : (Jvm.Cond.instanceMethod ({ cls := "BinnedReads", name := "<init>", desc := "()V" } : Jvm.MethodName)) ∈ tb := tb_of (List.mem_append_right _ (List.mem_of_getElem? (i := 12) (by decide +kernel))) (by decide +kernel)
theorem tw_13 : (Jvm.Cond.code ({ cls := "BinnedReads", name := "<init>", desc := "()V" } : Jvm.MethodName) prog_1_method_1_code (1 : Nat) (Option.none : Option Jvm.ClassFile.FieldType)) ∈ tb := tb_of (List.mem_append_right _ (List.mem_of_getElem? (i := 13) (by decide +kernel))) (by decide +kernel)
theorem tw_14 : (Jvm.Cond.methodLink "BinnedReads" (3 : Nat) ({ cls := "java/lang/Object", name := "<init>", desc := "()V" } : Jvm.MethodName)) ∈ tb := tb_of (List.mem_append_right _ (List.mem_of_getElem? (i := 14) (by decide +kernel))) (by decide +kernel)
theorem tw_15 : (Jvm.Cond.instanceMethod ({ cls := "java/lang/Object", name := "<init>", desc := "()V" } : Jvm.MethodName)) ∈ tb := tb_of (List.mem_append_right _ (List.mem_of_getElem? (i := 15) (by decide +kernel))) (by decide +kernel)
theorem tw_16 : (Jvm.Cond.code ({ cls := "java/lang/Object", name := "<init>", desc := "()V" } : Jvm.MethodName) object_method_1_code (1 : Nat) (Option.none : Option Jvm.ClassFile.FieldType)) ∈ tb := tb_of (List.mem_append_right _ (List.mem_of_getElem? (i := 16) (by decide +kernel))) (by decide +kernel)
theorem tw_17 : (Jvm.Cond.classLink "BinnedReads" (9 : Nat) "BinnedReads$Draft") ∈ tb := tb_of (List.mem_append_right _ (List.mem_of_getElem? (i := 17) (by decide +kernel))) (by decide +kernel)
theorem tw_18 : (Jvm.Cond.instantiable "BinnedReads$Draft" (4 : Nat)) ∈ tb := tb_of (List.mem_append_right _ (List.mem_of_getElem? (i := 18) (by decide +kernel))) (by decide +kernel)
theorem tw_19 : (Jvm.Cond.methodLinkNest "BinnedReads" (11 : Nat) ({ cls := "BinnedReads$Draft", name := "<init>", desc := "()V" } : Jvm.MethodName) "BinnedReads") ∈ lw_tbl := List.mem_append_right _ (List.mem_of_getElem? (i := 19) (by decide +kernel))
theorem tw_20 : (Jvm.Cond.instanceMethod ({ cls := "BinnedReads$Draft", name := "<init>", desc := "()V" } : Jvm.MethodName)) ∈ tb := tb_of (List.mem_append_right _ (List.mem_of_getElem? (i := 20) (by decide +kernel))) (by decide +kernel)
theorem tw_21 : (Jvm.Cond.code ({ cls := "BinnedReads$Draft", name := "<init>", desc := "()V" } : Jvm.MethodName) prog_3_method_1_code (1 : Nat) (Option.none : Option Jvm.ClassFile.FieldType)) ∈ tb := tb_of (List.mem_append_right _ (List.mem_of_getElem? (i := 21) (by decide +kernel))) (by decide +kernel)
theorem tw_22 : (Jvm.Cond.methodLink "BinnedReads$Draft" (3 : Nat) ({ cls := "java/lang/Object", name := "<init>", desc := "()V" } : Jvm.MethodName)) ∈ tb := tb_of (List.mem_append_right _ (List.mem_of_getElem? (i := 22) (by decide +kernel))) (by decide +kernel)
theorem tw_23 : (Jvm.Cond.fieldLink "BinnedReads$Draft" (9 : Nat) "BinnedReads$Draft" "ops" "[I") ∈ tb := tb_of (List.mem_append_right _ (List.mem_of_getElem? (i := 23) (by decide +kernel))) (by decide +kernel)
theorem tw_24 : (Jvm.Cond.fieldLink "BinnedReads$Stream" (31 : Nat) "BinnedReads$Draft" "ops" "[I") ∈ tb := tb_of (List.mem_append_right _ (List.mem_of_getElem? (i := 24) (by decide +kernel))) (by decide +kernel)
theorem tw_25 : (Jvm.Cond.fieldLink "BinnedReads$Draft" (15 : Nat) "BinnedReads$Draft" "bases" "[I") ∈ tb := tb_of (List.mem_append_right _ (List.mem_of_getElem? (i := 25) (by decide +kernel))) (by decide +kernel)
theorem tw_26 : (Jvm.Cond.fieldLink "BinnedReads$Draft" (18 : Nat) "BinnedReads$Draft" "opCount" "I") ∈ tb := tb_of (List.mem_append_right _ (List.mem_of_getElem? (i := 26) (by decide +kernel))) (by decide +kernel)
theorem tw_27 : (Jvm.Cond.fieldLink "BinnedReads$Stream" (23 : Nat) "BinnedReads$Draft" "opCount" "I") ∈ tb := tb_of (List.mem_append_right _ (List.mem_of_getElem? (i := 27) (by decide +kernel))) (by decide +kernel)
theorem tw_28 : (Jvm.Cond.fieldLink "BinnedReads$Draft" (22 : Nat) "BinnedReads$Draft" "baseCount" "I") ∈ tb := tb_of (List.mem_append_right _ (List.mem_of_getElem? (i := 28) (by decide +kernel))) (by decide +kernel)
theorem tw_29 : (Jvm.Cond.fieldLink "BinnedReads$Stream" (28 : Nat) "BinnedReads$Draft" "baseCount" "I") ∈ tb := tb_of (List.mem_append_right _ (List.mem_of_getElem? (i := 29) (by decide +kernel))) (by decide +kernel)
theorem tw_39 : (Jvm.Cond.arrayClass Jvm.ClassFile.FieldType.int) ∈ tb := tb_of (List.mem_append_right _ (List.mem_of_getElem? (i := 39) (by decide +kernel))) (by decide +kernel)
theorem tw_40 : (Jvm.Cond.classLink "BinnedReads" (16 : Nat) "BinnedReads$Stream") ∈ tb := tb_of (List.mem_append_right _ (List.mem_of_getElem? (i := 40) (by decide +kernel))) (by decide +kernel)
theorem tw_41 : (Jvm.Cond.instantiable "BinnedReads$Stream" (2 : Nat)) ∈ tb := tb_of (List.mem_append_right _ (List.mem_of_getElem? (i := 41) (by decide +kernel))) (by decide +kernel)
theorem tw_42 : (Jvm.Cond.methodLinkNest "BinnedReads" (18 : Nat) ({ cls := "BinnedReads$Stream", name := "<init>", desc := "()V" } : Jvm.MethodName) "BinnedReads") ∈ lw_tbl := List.mem_append_right _ (List.mem_of_getElem? (i := 42) (by decide +kernel))
theorem tw_43 : (Jvm.Cond.instanceMethod ({ cls := "BinnedReads$Stream", name := "<init>", desc := "()V" } : Jvm.MethodName)) ∈ tb := tb_of (List.mem_append_right _ (List.mem_of_getElem? (i := 43) (by decide +kernel))) (by decide +kernel)
theorem tw_44 : (Jvm.Cond.code ({ cls := "BinnedReads$Stream", name := "<init>", desc := "()V" } : Jvm.MethodName) prog_6_method_1_code (1 : Nat) (Option.none : Option Jvm.ClassFile.FieldType)) ∈ tb := tb_of (List.mem_append_right _ (List.mem_of_getElem? (i := 44) (by decide +kernel))) (by decide +kernel)
theorem tw_45 : (Jvm.Cond.methodLink "BinnedReads$Stream" (3 : Nat) ({ cls := "java/lang/Object", name := "<init>", desc := "()V" } : Jvm.MethodName)) ∈ tb := tb_of (List.mem_append_right _ (List.mem_of_getElem? (i := 45) (by decide +kernel))) (by decide +kernel)
theorem tw_46 : (Jvm.Cond.fieldLink "BinnedReads$Stream" (9 : Nat) "BinnedReads$Stream" "bytes" "[I") ∈ tb := tb_of (List.mem_append_right _ (List.mem_of_getElem? (i := 46) (by decide +kernel))) (by decide +kernel)
theorem tw_47 : (Jvm.Cond.fieldLink "BinnedReads$Disk" (62 : Nat) "BinnedReads$Stream" "bytes" "[I") ∈ tb := tb_of (List.mem_append_right _ (List.mem_of_getElem? (i := 47) (by decide +kernel))) (by decide +kernel)
theorem tw_48 : (Jvm.Cond.fieldLink "BinnedReads$Stream" (15 : Nat) "BinnedReads$Stream" "length" "I") ∈ tb := tb_of (List.mem_append_right _ (List.mem_of_getElem? (i := 48) (by decide +kernel))) (by decide +kernel)
theorem tw_49 : (Jvm.Cond.fieldLink "BinnedReads$Disk" (28 : Nat) "BinnedReads$Stream" "length" "I") ∈ tb := tb_of (List.mem_append_right _ (List.mem_of_getElem? (i := 49) (by decide +kernel))) (by decide +kernel)
theorem tw_50 : (Jvm.Cond.fieldLink "BinnedReads" (79 : Nat) "BinnedReads$Stream" "length" "I") ∈ tb := tb_of (List.mem_append_right _ (List.mem_of_getElem? (i := 50) (by decide +kernel))) (by decide +kernel)
theorem tw_56 : (Jvm.Cond.classLink "BinnedReads" (23 : Nat) "BinnedReads$Index") ∈ tb := tb_of (List.mem_append_right _ (List.mem_of_getElem? (i := 56) (by decide +kernel))) (by decide +kernel)
theorem tw_57 : (Jvm.Cond.instantiable "BinnedReads$Index" (8 : Nat)) ∈ tb := tb_of (List.mem_append_right _ (List.mem_of_getElem? (i := 57) (by decide +kernel))) (by decide +kernel)
theorem tw_58 : (Jvm.Cond.methodLinkNest "BinnedReads" (25 : Nat) ({ cls := "BinnedReads$Index", name := "<init>", desc := "()V" } : Jvm.MethodName) "BinnedReads") ∈ lw_tbl := List.mem_append_right _ (List.mem_of_getElem? (i := 58) (by decide +kernel))
theorem tw_59 : (Jvm.Cond.instanceMethod ({ cls := "BinnedReads$Index", name := "<init>", desc := "()V" } : Jvm.MethodName)) ∈ tb := tb_of (List.mem_append_right _ (List.mem_of_getElem? (i := 59) (by decide +kernel))) (by decide +kernel)
theorem tw_60 : (Jvm.Cond.code ({ cls := "BinnedReads$Index", name := "<init>", desc := "()V" } : Jvm.MethodName) prog_5_method_1_code (1 : Nat) (Option.none : Option Jvm.ClassFile.FieldType)) ∈ tb := tb_of (List.mem_append_right _ (List.mem_of_getElem? (i := 60) (by decide +kernel))) (by decide +kernel)
theorem tw_61 : (Jvm.Cond.methodLink "BinnedReads$Index" (3 : Nat) ({ cls := "java/lang/Object", name := "<init>", desc := "()V" } : Jvm.MethodName)) ∈ tb := tb_of (List.mem_append_right _ (List.mem_of_getElem? (i := 61) (by decide +kernel))) (by decide +kernel)
theorem tw_62 : (Jvm.Cond.fieldLink "BinnedReads$Index" (9 : Nat) "BinnedReads$Index" "references" "[I") ∈ tb := tb_of (List.mem_append_right _ (List.mem_of_getElem? (i := 62) (by decide +kernel))) (by decide +kernel)
theorem tw_63 : (Jvm.Cond.fieldLink "BinnedReads$Index" (15 : Nat) "BinnedReads$Index" "positions" "[I") ∈ tb := tb_of (List.mem_append_right _ (List.mem_of_getElem? (i := 63) (by decide +kernel))) (by decide +kernel)
theorem tw_64 : (Jvm.Cond.fieldLink "BinnedReads$Index" (18 : Nat) "BinnedReads$Index" "ends" "[I") ∈ tb := tb_of (List.mem_append_right _ (List.mem_of_getElem? (i := 64) (by decide +kernel))) (by decide +kernel)
theorem tw_65 : (Jvm.Cond.fieldLink "BinnedReads$Index" (21 : Nat) "BinnedReads$Index" "bins" "[I") ∈ tb := tb_of (List.mem_append_right _ (List.mem_of_getElem? (i := 65) (by decide +kernel))) (by decide +kernel)
theorem tw_66 : (Jvm.Cond.fieldLink "BinnedReads$Index" (24 : Nat) "BinnedReads$Index" "starts" "[I") ∈ tb := tb_of (List.mem_append_right _ (List.mem_of_getElem? (i := 66) (by decide +kernel))) (by decide +kernel)
theorem tw_67 : (Jvm.Cond.fieldLink "BinnedReads" (142 : Nat) "BinnedReads$Index" "starts" "[I") ∈ tb := tb_of (List.mem_append_right _ (List.mem_of_getElem? (i := 67) (by decide +kernel))) (by decide +kernel)
theorem tw_68 : (Jvm.Cond.fieldLink "BinnedReads$Index" (30 : Nat) "BinnedReads$Index" "count" "I") ∈ tb := tb_of (List.mem_append_right _ (List.mem_of_getElem? (i := 68) (by decide +kernel))) (by decide +kernel)
theorem tw_69 : (Jvm.Cond.fieldLink "BinnedReads" (115 : Nat) "BinnedReads$Index" "count" "I") ∈ tb := tb_of (List.mem_append_right _ (List.mem_of_getElem? (i := 69) (by decide +kernel))) (by decide +kernel)
theorem tw_70 : (Jvm.Cond.fieldLink "BinnedReads$Index" (27 : Nat) "BinnedReads$Index" "chosen" "[I") ∈ tb := tb_of (List.mem_append_right _ (List.mem_of_getElem? (i := 70) (by decide +kernel))) (by decide +kernel)
theorem tw_71 : (Jvm.Cond.fieldLink "BinnedReads" (135 : Nat) "BinnedReads$Index" "chosen" "[I") ∈ tb := tb_of (List.mem_append_right _ (List.mem_of_getElem? (i := 71) (by decide +kernel))) (by decide +kernel)
theorem tw_72 : (Jvm.Cond.fieldLink "BinnedReads$Index" (34 : Nat) "BinnedReads$Index" "chosenCount" "I") ∈ tb := tb_of (List.mem_append_right _ (List.mem_of_getElem? (i := 72) (by decide +kernel))) (by decide +kernel)
theorem tw_73 : (Jvm.Cond.fieldLink "BinnedReads" (129 : Nat) "BinnedReads$Index" "chosenCount" "I") ∈ tb := tb_of (List.mem_append_right _ (List.mem_of_getElem? (i := 73) (by decide +kernel))) (by decide +kernel)
theorem tw_91 : (Jvm.Cond.classLink "BinnedReads" (30 : Nat) "BinnedReads$Disk") ∈ tb := tb_of (List.mem_append_right _ (List.mem_of_getElem? (i := 91) (by decide +kernel))) (by decide +kernel)
theorem tw_92 : (Jvm.Cond.instantiable "BinnedReads$Disk" (5 : Nat)) ∈ tb := tb_of (List.mem_append_right _ (List.mem_of_getElem? (i := 92) (by decide +kernel))) (by decide +kernel)
theorem tw_93 : (Jvm.Cond.methodLinkNest "BinnedReads" (32 : Nat) ({ cls := "BinnedReads$Disk", name := "<init>", desc := "()V" } : Jvm.MethodName) "BinnedReads") ∈ lw_tbl := List.mem_append_right _ (List.mem_of_getElem? (i := 93) (by decide +kernel))
theorem tw_94 : (Jvm.Cond.instanceMethod ({ cls := "BinnedReads$Disk", name := "<init>", desc := "()V" } : Jvm.MethodName)) ∈ tb := tb_of (List.mem_append_right _ (List.mem_of_getElem? (i := 94) (by decide +kernel))) (by decide +kernel)
theorem tw_95 : (Jvm.Cond.code ({ cls := "BinnedReads$Disk", name := "<init>", desc := "()V" } : Jvm.MethodName) prog_2_method_1_code (1 : Nat) (Option.none : Option Jvm.ClassFile.FieldType)) ∈ tb := tb_of (List.mem_append_right _ (List.mem_of_getElem? (i := 95) (by decide +kernel))) (by decide +kernel)
theorem tw_96 : (Jvm.Cond.methodLink "BinnedReads$Disk" (3 : Nat) ({ cls := "java/lang/Object", name := "<init>", desc := "()V" } : Jvm.MethodName)) ∈ tb := tb_of (List.mem_append_right _ (List.mem_of_getElem? (i := 96) (by decide +kernel))) (by decide +kernel)
theorem tw_97 : (Jvm.Cond.fieldLink "BinnedReads$Disk" (9 : Nat) "BinnedReads$Disk" "bytes" "[I") ∈ tb := tb_of (List.mem_append_right _ (List.mem_of_getElem? (i := 97) (by decide +kernel))) (by decide +kernel)
theorem tw_98 : (Jvm.Cond.fieldLink "BinnedReads$Disk" (15 : Nat) "BinnedReads$Disk" "blockStarts" "[I") ∈ tb := tb_of (List.mem_append_right _ (List.mem_of_getElem? (i := 98) (by decide +kernel))) (by decide +kernel)
theorem tw_99 : (Jvm.Cond.fieldLink "BinnedReads$Disk" (22 : Nat) "BinnedReads$Disk" "size" "I") ∈ tb := tb_of (List.mem_append_right _ (List.mem_of_getElem? (i := 99) (by decide +kernel))) (by decide +kernel)
theorem tw_100 : (Jvm.Cond.fieldLink "BinnedReads" (95 : Nat) "BinnedReads$Disk" "size" "I") ∈ tb := tb_of (List.mem_append_right _ (List.mem_of_getElem? (i := 100) (by decide +kernel))) (by decide +kernel)
theorem tw_101 : (Jvm.Cond.fieldLink "BinnedReads$Disk" (25 : Nat) "BinnedReads$Disk" "blockCount" "I") ∈ tb := tb_of (List.mem_append_right _ (List.mem_of_getElem? (i := 101) (by decide +kernel))) (by decide +kernel)
theorem tw_102 : (Jvm.Cond.fieldLink "BinnedReads" (109 : Nat) "BinnedReads$Disk" "blockCount" "I") ∈ tb := tb_of (List.mem_append_right _ (List.mem_of_getElem? (i := 102) (by decide +kernel))) (by decide +kernel)
theorem tw_103 : (Jvm.Cond.fieldLink "BinnedReads$Disk" (18 : Nat) "BinnedReads$Disk" "turned" "I") ∈ tb := tb_of (List.mem_append_right _ (List.mem_of_getElem? (i := 103) (by decide +kernel))) (by decide +kernel)
theorem tw_115 : (Jvm.Cond.classLink "BinnedReads" (37 : Nat) "BinnedReads$Finding") ∈ tb := tb_of (List.mem_append_right _ (List.mem_of_getElem? (i := 115) (by decide +kernel))) (by decide +kernel)
theorem tw_116 : (Jvm.Cond.instantiable "BinnedReads$Finding" (4 : Nat)) ∈ tb := tb_of (List.mem_append_right _ (List.mem_of_getElem? (i := 116) (by decide +kernel))) (by decide +kernel)
theorem tw_117 : (Jvm.Cond.methodLinkNest "BinnedReads" (39 : Nat) ({ cls := "BinnedReads$Finding", name := "<init>", desc := "()V" } : Jvm.MethodName) "BinnedReads") ∈ lw_tbl := List.mem_append_right _ (List.mem_of_getElem? (i := 117) (by decide +kernel))
theorem tw_118 : (Jvm.Cond.instanceMethod ({ cls := "BinnedReads$Finding", name := "<init>", desc := "()V" } : Jvm.MethodName)) ∈ tb := tb_of (List.mem_append_right _ (List.mem_of_getElem? (i := 118) (by decide +kernel))) (by decide +kernel)
theorem tw_119 : (Jvm.Cond.code ({ cls := "BinnedReads$Finding", name := "<init>", desc := "()V" } : Jvm.MethodName) prog_4_method_1_code (1 : Nat) (Option.none : Option Jvm.ClassFile.FieldType)) ∈ tb := tb_of (List.mem_append_right _ (List.mem_of_getElem? (i := 119) (by decide +kernel))) (by decide +kernel)
theorem tw_120 : (Jvm.Cond.methodLink "BinnedReads$Finding" (3 : Nat) ({ cls := "java/lang/Object", name := "<init>", desc := "()V" } : Jvm.MethodName)) ∈ tb := tb_of (List.mem_append_right _ (List.mem_of_getElem? (i := 120) (by decide +kernel))) (by decide +kernel)
theorem tw_121 : (Jvm.Cond.classLink "BinnedReads$Finding" (9 : Nat) "[[I") ∈ tb := tb_of (List.mem_append_right _ (List.mem_of_getElem? (i := 121) (by decide +kernel))) (by decide +kernel)
theorem tw_122 : (Jvm.Cond.arrayOver (Jvm.ClassFile.FieldType.array Jvm.ClassFile.FieldType.int)) ∈ lw_tbl := List.mem_append_right _ (List.mem_of_getElem? (i := 122) (by decide +kernel))
theorem tw_123 : (Jvm.Cond.fieldLink "BinnedReads$Finding" (11 : Nat) "BinnedReads$Finding" "rows" "[[I") ∈ tb := tb_of (List.mem_append_right _ (List.mem_of_getElem? (i := 123) (by decide +kernel))) (by decide +kernel)
theorem tw_124 : (Jvm.Cond.fieldLink "BinnedReads" (158 : Nat) "BinnedReads$Finding" "rows" "[[I") ∈ tb := tb_of (List.mem_append_right _ (List.mem_of_getElem? (i := 124) (by decide +kernel))) (by decide +kernel)
theorem tw_125 : (Jvm.Cond.fieldLink "BinnedReads$Finding" (16 : Nat) "BinnedReads$Finding" "offsets" "[I") ∈ tb := tb_of (List.mem_append_right _ (List.mem_of_getElem? (i := 125) (by decide +kernel))) (by decide +kernel)
theorem tw_126 : (Jvm.Cond.fieldLink "BinnedReads" (152 : Nat) "BinnedReads$Finding" "offsets" "[I") ∈ tb := tb_of (List.mem_append_right _ (List.mem_of_getElem? (i := 126) (by decide +kernel))) (by decide +kernel)
theorem tw_127 : (Jvm.Cond.fieldLink "BinnedReads$Finding" (20 : Nat) "BinnedReads$Finding" "count" "I") ∈ tb := tb_of (List.mem_append_right _ (List.mem_of_getElem? (i := 127) (by decide +kernel))) (by decide +kernel)
theorem tw_128 : (Jvm.Cond.fieldLink "BinnedReads" (148 : Nat) "BinnedReads$Finding" "count" "I") ∈ tb := tb_of (List.mem_append_right _ (List.mem_of_getElem? (i := 128) (by decide +kernel))) (by decide +kernel)
theorem tw_129 : (Jvm.Cond.fieldLink "BinnedReads$Finding" (24 : Nat) "BinnedReads$Finding" "lookedAt" "I") ∈ tb := tb_of (List.mem_append_right _ (List.mem_of_getElem? (i := 129) (by decide +kernel))) (by decide +kernel)
theorem tw_130 : (Jvm.Cond.fieldLink "BinnedReads" (132 : Nat) "BinnedReads$Finding" "lookedAt" "I") ∈ tb := tb_of (List.mem_append_right _ (List.mem_of_getElem? (i := 130) (by decide +kernel))) (by decide +kernel)
theorem tw_140 : (Jvm.Cond.fieldLink "BinnedReads" (12 : Nat) "BinnedReads" "draft" "LBinnedReads$Draft;") ∈ tb := tb_of (List.mem_append_right _ (List.mem_of_getElem? (i := 140) (by decide +kernel))) (by decide +kernel)
theorem tw_141 : (Jvm.Cond.fieldLink "BinnedReads" (19 : Nat) "BinnedReads" "stream" "LBinnedReads$Stream;") ∈ tb := tb_of (List.mem_append_right _ (List.mem_of_getElem? (i := 141) (by decide +kernel))) (by decide +kernel)
theorem tw_142 : (Jvm.Cond.fieldLink "BinnedReads" (26 : Nat) "BinnedReads" "index" "LBinnedReads$Index;") ∈ tb := tb_of (List.mem_append_right _ (List.mem_of_getElem? (i := 142) (by decide +kernel))) (by decide +kernel)
theorem tw_143 : (Jvm.Cond.fieldLink "BinnedReads" (33 : Nat) "BinnedReads" "disk" "LBinnedReads$Disk;") ∈ tb := tb_of (List.mem_append_right _ (List.mem_of_getElem? (i := 143) (by decide +kernel))) (by decide +kernel)
theorem tw_144 : (Jvm.Cond.fieldLink "BinnedReads" (40 : Nat) "BinnedReads" "finding" "LBinnedReads$Finding;") ∈ tb := tb_of (List.mem_append_right _ (List.mem_of_getElem? (i := 144) (by decide +kernel))) (by decide +kernel)
theorem tw_156 : (Jvm.Cond.methodLink "BinnedReadsLaw" (13 : Nat) ({ cls := "BinnedReads", name := "op", desc := "(II)Z" } : Jvm.MethodName)) ∈ tb := tb_of (List.mem_append_right _ (List.mem_of_getElem? (i := 156) (by decide +kernel))) (by decide +kernel)
theorem tw_157 : (Jvm.Cond.instanceMethod ({ cls := "BinnedReads", name := "op", desc := "(II)Z" } : Jvm.MethodName)) ∈ tb := tb_of (List.mem_append_right _ (List.mem_of_getElem? (i := 157) (by decide +kernel))) (by decide +kernel)
theorem tw_158 : (Jvm.Cond.selects "BinnedReads" ({ cls := "BinnedReads", name := "op", desc := "(II)Z" } : Jvm.MethodName) ({ cls := "BinnedReads", name := "op", desc := "(II)Z" } : Jvm.MethodName)) ∈ tb := tb_of (List.mem_append_right _ (List.mem_of_getElem? (i := 158) (by decide +kernel))) (by decide +kernel)
theorem tw_159 : (Jvm.Cond.code ({ cls := "BinnedReads", name := "op", desc := "(II)Z" } : Jvm.MethodName) prog_1_method_2_code (3 : Nat) (Option.some Jvm.ClassFile.FieldType.boolean)) ∈ tb := tb_of (List.mem_append_right _ (List.mem_of_getElem? (i := 159) (by decide +kernel))) (by decide +kernel)
theorem tw_160 : (Jvm.Cond.methodLink "BinnedReads" (44 : Nat) ({ cls := "BinnedReads$Draft", name := "appendOp", desc := "(II)Z" } : Jvm.MethodName)) ∈ tb := tb_of (List.mem_append_right _ (List.mem_of_getElem? (i := 160) (by decide +kernel))) (by decide +kernel)
theorem tw_161 : (Jvm.Cond.instanceMethod ({ cls := "BinnedReads$Draft", name := "appendOp", desc := "(II)Z" } : Jvm.MethodName)) ∈ tb := tb_of (List.mem_append_right _ (List.mem_of_getElem? (i := 161) (by decide +kernel))) (by decide +kernel)
theorem tw_162 : (Jvm.Cond.selects "BinnedReads$Draft" ({ cls := "BinnedReads$Draft", name := "appendOp", desc := "(II)Z" } : Jvm.MethodName) ({ cls := "BinnedReads$Draft", name := "appendOp", desc := "(II)Z" } : Jvm.MethodName)) ∈ tb := tb_of (List.mem_append_right _ (List.mem_of_getElem? (i := 162) (by decide +kernel))) (by decide +kernel)
theorem tw_163 : (Jvm.Cond.code ({ cls := "BinnedReads$Draft", name := "appendOp", desc := "(II)Z" } : Jvm.MethodName) prog_3_method_2_code (3 : Nat) (Option.some Jvm.ClassFile.FieldType.boolean)) ∈ tb := tb_of (List.mem_append_right _ (List.mem_of_getElem? (i := 163) (by decide +kernel))) (by decide +kernel)
theorem tw_164 : (Jvm.Cond.methodLink "BinnedReadsLaw" (18 : Nat) ({ cls := "BinnedReads", name := "base", desc := "(I)Z" } : Jvm.MethodName)) ∈ tb := tb_of (List.mem_append_right _ (List.mem_of_getElem? (i := 164) (by decide +kernel))) (by decide +kernel)
theorem tw_165 : (Jvm.Cond.instanceMethod ({ cls := "BinnedReads", name := "base", desc := "(I)Z" } : Jvm.MethodName)) ∈ tb := tb_of (List.mem_append_right _ (List.mem_of_getElem? (i := 165) (by decide +kernel))) (by decide +kernel)
theorem tw_166 : (Jvm.Cond.selects "BinnedReads" ({ cls := "BinnedReads", name := "base", desc := "(I)Z" } : Jvm.MethodName) ({ cls := "BinnedReads", name := "base", desc := "(I)Z" } : Jvm.MethodName)) ∈ tb := tb_of (List.mem_append_right _ (List.mem_of_getElem? (i := 166) (by decide +kernel))) (by decide +kernel)
theorem tw_167 : (Jvm.Cond.code ({ cls := "BinnedReads", name := "base", desc := "(I)Z" } : Jvm.MethodName) prog_1_method_3_code (2 : Nat) (Option.some Jvm.ClassFile.FieldType.boolean)) ∈ tb := tb_of (List.mem_append_right _ (List.mem_of_getElem? (i := 167) (by decide +kernel))) (by decide +kernel)
theorem tw_168 : (Jvm.Cond.methodLink "BinnedReads" (48 : Nat) ({ cls := "BinnedReads$Draft", name := "appendBase", desc := "(I)Z" } : Jvm.MethodName)) ∈ tb := tb_of (List.mem_append_right _ (List.mem_of_getElem? (i := 168) (by decide +kernel))) (by decide +kernel)
theorem tw_169 : (Jvm.Cond.instanceMethod ({ cls := "BinnedReads$Draft", name := "appendBase", desc := "(I)Z" } : Jvm.MethodName)) ∈ tb := tb_of (List.mem_append_right _ (List.mem_of_getElem? (i := 169) (by decide +kernel))) (by decide +kernel)
theorem tw_170 : (Jvm.Cond.selects "BinnedReads$Draft" ({ cls := "BinnedReads$Draft", name := "appendBase", desc := "(I)Z" } : Jvm.MethodName) ({ cls := "BinnedReads$Draft", name := "appendBase", desc := "(I)Z" } : Jvm.MethodName)) ∈ tb := tb_of (List.mem_append_right _ (List.mem_of_getElem? (i := 170) (by decide +kernel))) (by decide +kernel)
theorem tw_171 : (Jvm.Cond.code ({ cls := "BinnedReads$Draft", name := "appendBase", desc := "(I)Z" } : Jvm.MethodName) prog_3_method_3_code (2 : Nat) (Option.some Jvm.ClassFile.FieldType.boolean)) ∈ tb := tb_of (List.mem_append_right _ (List.mem_of_getElem? (i := 171) (by decide +kernel))) (by decide +kernel)
theorem tw_172 : (Jvm.Cond.methodLink "BinnedReadsLaw" (23 : Nat) ({ cls := "BinnedReads", name := "scrap", desc := "()V" } : Jvm.MethodName)) ∈ tb := tb_of (List.mem_append_right _ (List.mem_of_getElem? (i := 172) (by decide +kernel))) (by decide +kernel)
theorem tw_173 : (Jvm.Cond.instanceMethod ({ cls := "BinnedReads", name := "scrap", desc := "()V" } : Jvm.MethodName)) ∈ tb := tb_of (List.mem_append_right _ (List.mem_of_getElem? (i := 173) (by decide +kernel))) (by decide +kernel)
theorem tw_174 : (Jvm.Cond.selects "BinnedReads" ({ cls := "BinnedReads", name := "scrap", desc := "()V" } : Jvm.MethodName) ({ cls := "BinnedReads", name := "scrap", desc := "()V" } : Jvm.MethodName)) ∈ tb := tb_of (List.mem_append_right _ (List.mem_of_getElem? (i := 174) (by decide +kernel))) (by decide +kernel)
theorem tw_175 : (Jvm.Cond.code ({ cls := "BinnedReads", name := "scrap", desc := "()V" } : Jvm.MethodName) prog_1_method_4_code (1 : Nat) (Option.none : Option Jvm.ClassFile.FieldType)) ∈ tb := tb_of (List.mem_append_right _ (List.mem_of_getElem? (i := 175) (by decide +kernel))) (by decide +kernel)
theorem tw_176 : (Jvm.Cond.methodLink "BinnedReads" (52 : Nat) ({ cls := "BinnedReads$Draft", name := "empty", desc := "()V" } : Jvm.MethodName)) ∈ tb := tb_of (List.mem_append_right _ (List.mem_of_getElem? (i := 176) (by decide +kernel))) (by decide +kernel)
theorem tw_177 : (Jvm.Cond.instanceMethod ({ cls := "BinnedReads$Draft", name := "empty", desc := "()V" } : Jvm.MethodName)) ∈ tb := tb_of (List.mem_append_right _ (List.mem_of_getElem? (i := 177) (by decide +kernel))) (by decide +kernel)
theorem tw_178 : (Jvm.Cond.selects "BinnedReads$Draft" ({ cls := "BinnedReads$Draft", name := "empty", desc := "()V" } : Jvm.MethodName) ({ cls := "BinnedReads$Draft", name := "empty", desc := "()V" } : Jvm.MethodName)) ∈ tb := tb_of (List.mem_append_right _ (List.mem_of_getElem? (i := 178) (by decide +kernel))) (by decide +kernel)
theorem tw_179 : (Jvm.Cond.code ({ cls := "BinnedReads$Draft", name := "empty", desc := "()V" } : Jvm.MethodName) prog_3_method_4_code (1 : Nat) (Option.none : Option Jvm.ClassFile.FieldType)) ∈ tb := tb_of (List.mem_append_right _ (List.mem_of_getElem? (i := 179) (by decide +kernel))) (by decide +kernel)
theorem tw_180 : (Jvm.Cond.methodLink "BinnedReadsLaw" (27 : Nat) ({ cls := "BinnedReads", name := "add", desc := "(II)I" } : Jvm.MethodName)) ∈ tb := tb_of (List.mem_append_right _ (List.mem_of_getElem? (i := 180) (by decide +kernel))) (by decide +kernel)
theorem tw_181 : (Jvm.Cond.instanceMethod ({ cls := "BinnedReads", name := "add", desc := "(II)I" } : Jvm.MethodName)) ∈ tb := tb_of (List.mem_append_right _ (List.mem_of_getElem? (i := 181) (by decide +kernel))) (by decide +kernel)
theorem tw_182 : (Jvm.Cond.selects "BinnedReads" ({ cls := "BinnedReads", name := "add", desc := "(II)I" } : Jvm.MethodName) ({ cls := "BinnedReads", name := "add", desc := "(II)I" } : Jvm.MethodName)) ∈ tb := tb_of (List.mem_append_right _ (List.mem_of_getElem? (i := 182) (by decide +kernel))) (by decide +kernel)
theorem tw_183 : (Jvm.Cond.code ({ cls := "BinnedReads", name := "add", desc := "(II)I" } : Jvm.MethodName) prog_1_method_5_code (6 : Nat) (Option.some Jvm.ClassFile.FieldType.int)) ∈ tb := tb_of (List.mem_append_right _ (List.mem_of_getElem? (i := 183) (by decide +kernel))) (by decide +kernel)
theorem tw_184 : (Jvm.Cond.methodLink "BinnedReads" (55 : Nat) ({ cls := "BinnedReads$Disk", name := "isWritten", desc := "()Z" } : Jvm.MethodName)) ∈ tb := tb_of (List.mem_append_right _ (List.mem_of_getElem? (i := 184) (by decide +kernel))) (by decide +kernel)
theorem tw_185 : (Jvm.Cond.instanceMethod ({ cls := "BinnedReads$Disk", name := "isWritten", desc := "()Z" } : Jvm.MethodName)) ∈ tb := tb_of (List.mem_append_right _ (List.mem_of_getElem? (i := 185) (by decide +kernel))) (by decide +kernel)
theorem tw_186 : (Jvm.Cond.selects "BinnedReads$Disk" ({ cls := "BinnedReads$Disk", name := "isWritten", desc := "()Z" } : Jvm.MethodName) ({ cls := "BinnedReads$Disk", name := "isWritten", desc := "()Z" } : Jvm.MethodName)) ∈ tb := tb_of (List.mem_append_right _ (List.mem_of_getElem? (i := 186) (by decide +kernel))) (by decide +kernel)
theorem tw_187 : (Jvm.Cond.code ({ cls := "BinnedReads$Disk", name := "isWritten", desc := "()Z" } : Jvm.MethodName) prog_2_method_3_code (1 : Nat) (Option.some Jvm.ClassFile.FieldType.boolean)) ∈ tb := tb_of (List.mem_append_right _ (List.mem_of_getElem? (i := 187) (by decide +kernel))) (by decide +kernel)
theorem tw_188 : (Jvm.Cond.methodLink "BinnedReads" (59 : Nat) ({ cls := "BinnedReads$Index", name := "isFull", desc := "()Z" } : Jvm.MethodName)) ∈ tb := tb_of (List.mem_append_right _ (List.mem_of_getElem? (i := 188) (by decide +kernel))) (by decide +kernel)
theorem tw_189 : (Jvm.Cond.instanceMethod ({ cls := "BinnedReads$Index", name := "isFull", desc := "()Z" } : Jvm.MethodName)) ∈ tb := tb_of (List.mem_append_right _ (List.mem_of_getElem? (i := 189) (by decide +kernel))) (by decide +kernel)
theorem tw_190 : (Jvm.Cond.selects "BinnedReads$Index" ({ cls := "BinnedReads$Index", name := "isFull", desc := "()Z" } : Jvm.MethodName) ({ cls := "BinnedReads$Index", name := "isFull", desc := "()Z" } : Jvm.MethodName)) ∈ tb := tb_of (List.mem_append_right _ (List.mem_of_getElem? (i := 190) (by decide +kernel))) (by decide +kernel)
theorem tw_191 : (Jvm.Cond.code ({ cls := "BinnedReads$Index", name := "isFull", desc := "()Z" } : Jvm.MethodName) prog_5_method_3_code (1 : Nat) (Option.some Jvm.ClassFile.FieldType.boolean)) ∈ tb := tb_of (List.mem_append_right _ (List.mem_of_getElem? (i := 191) (by decide +kernel))) (by decide +kernel)
theorem tw_192 : (Jvm.Cond.methodLink "BinnedReads" (62 : Nat) ({ cls := "BinnedReads$Draft", name := "isRead", desc := "()Z" } : Jvm.MethodName)) ∈ tb := tb_of (List.mem_append_right _ (List.mem_of_getElem? (i := 192) (by decide +kernel))) (by decide +kernel)
theorem tw_193 : (Jvm.Cond.instanceMethod ({ cls := "BinnedReads$Draft", name := "isRead", desc := "()Z" } : Jvm.MethodName)) ∈ tb := tb_of (List.mem_append_right _ (List.mem_of_getElem? (i := 193) (by decide +kernel))) (by decide +kernel)
theorem tw_194 : (Jvm.Cond.selects "BinnedReads$Draft" ({ cls := "BinnedReads$Draft", name := "isRead", desc := "()Z" } : Jvm.MethodName) ({ cls := "BinnedReads$Draft", name := "isRead", desc := "()Z" } : Jvm.MethodName)) ∈ tb := tb_of (List.mem_append_right _ (List.mem_of_getElem? (i := 194) (by decide +kernel))) (by decide +kernel)
theorem tw_195 : (Jvm.Cond.code ({ cls := "BinnedReads$Draft", name := "isRead", desc := "()Z" } : Jvm.MethodName) prog_3_method_7_code (1 : Nat) (Option.some Jvm.ClassFile.FieldType.boolean)) ∈ tb := tb_of (List.mem_append_right _ (List.mem_of_getElem? (i := 195) (by decide +kernel))) (by decide +kernel)
theorem tw_196 : (Jvm.Cond.methodLink "BinnedReads$Draft" (36 : Nat) ({ cls := "BinnedReads$Draft", name := "span", desc := "()I" } : Jvm.MethodName)) ∈ tb := tb_of (List.mem_append_right _ (List.mem_of_getElem? (i := 196) (by decide +kernel))) (by decide +kernel)
theorem tw_197 : (Jvm.Cond.instanceMethod ({ cls := "BinnedReads$Draft", name := "span", desc := "()I" } : Jvm.MethodName)) ∈ tb := tb_of (List.mem_append_right _ (List.mem_of_getElem? (i := 197) (by decide +kernel))) (by decide +kernel)
theorem tw_198 : (Jvm.Cond.selects "BinnedReads$Draft" ({ cls := "BinnedReads$Draft", name := "span", desc := "()I" } : Jvm.MethodName) ({ cls := "BinnedReads$Draft", name := "span", desc := "()I" } : Jvm.MethodName)) ∈ tb := tb_of (List.mem_append_right _ (List.mem_of_getElem? (i := 198) (by decide +kernel))) (by decide +kernel)
theorem tw_199 : (Jvm.Cond.code ({ cls := "BinnedReads$Draft", name := "span", desc := "()I" } : Jvm.MethodName) prog_3_method_5_code (1 : Nat) (Option.some Jvm.ClassFile.FieldType.int)) ∈ tb := tb_of (List.mem_append_right _ (List.mem_of_getElem? (i := 199) (by decide +kernel))) (by decide +kernel)
theorem tw_200 : (Jvm.Cond.methodLinkNest "BinnedReads$Draft" (25 : Nat) ({ cls := "BinnedReads", name := "spanOf", desc := "([III)I" } : Jvm.MethodName) "BinnedReads") ∈ lw_tbl := List.mem_append_right _ (List.mem_of_getElem? (i := 200) (by decide +kernel))
theorem tw_201 : (Jvm.Cond.static ({ cls := "BinnedReads", name := "spanOf", desc := "([III)I" } : Jvm.MethodName)) ∈ tb := tb_of (List.mem_append_right _ (List.mem_of_getElem? (i := 201) (by decide +kernel))) (by decide +kernel)
theorem tw_202 : (Jvm.Cond.code ({ cls := "BinnedReads", name := "spanOf", desc := "([III)I" } : Jvm.MethodName) prog_1_method_23_code (6 : Nat) (Option.some Jvm.ClassFile.FieldType.int)) ∈ tb := tb_of (List.mem_append_right _ (List.mem_of_getElem? (i := 202) (by decide +kernel))) (by decide +kernel)
theorem tw_203 : (Jvm.Cond.methodLink "BinnedReads" (179 : Nat) ({ cls := "BinnedReads", name := "kindOf", desc := "(I)I" } : Jvm.MethodName)) ∈ tb := tb_of (List.mem_append_right _ (List.mem_of_getElem? (i := 203) (by decide +kernel))) (by decide +kernel)
theorem tw_204 : (Jvm.Cond.static ({ cls := "BinnedReads", name := "kindOf", desc := "(I)I" } : Jvm.MethodName)) ∈ tb := tb_of (List.mem_append_right _ (List.mem_of_getElem? (i := 204) (by decide +kernel))) (by decide +kernel)
theorem tw_205 : (Jvm.Cond.code ({ cls := "BinnedReads", name := "kindOf", desc := "(I)I" } : Jvm.MethodName) prog_1_method_21_code (1 : Nat) (Option.some Jvm.ClassFile.FieldType.int)) ∈ tb := tb_of (List.mem_append_right _ (List.mem_of_getElem? (i := 205) (by decide +kernel))) (by decide +kernel)
theorem tw_206 : (Jvm.Cond.methodLink "BinnedReads" (182 : Nat) ({ cls := "BinnedReads", name := "lengthOf", desc := "(I)I" } : Jvm.MethodName)) ∈ tb := tb_of (List.mem_append_right _ (List.mem_of_getElem? (i := 206) (by decide +kernel))) (by decide +kernel)
theorem tw_207 : (Jvm.Cond.static ({ cls := "BinnedReads", name := "lengthOf", desc := "(I)I" } : Jvm.MethodName)) ∈ tb := tb_of (List.mem_append_right _ (List.mem_of_getElem? (i := 207) (by decide +kernel))) (by decide +kernel)
theorem tw_208 : (Jvm.Cond.code ({ cls := "BinnedReads", name := "lengthOf", desc := "(I)I" } : Jvm.MethodName) prog_1_method_22_code (1 : Nat) (Option.some Jvm.ClassFile.FieldType.int)) ∈ tb := tb_of (List.mem_append_right _ (List.mem_of_getElem? (i := 208) (by decide +kernel))) (by decide +kernel)
theorem tw_209 : (Jvm.Cond.methodLink "BinnedReads$Draft" (40 : Nat) ({ cls := "BinnedReads$Draft", name := "width", desc := "()I" } : Jvm.MethodName)) ∈ tb := tb_of (List.mem_append_right _ (List.mem_of_getElem? (i := 209) (by decide +kernel))) (by decide +kernel)
theorem tw_210 : (Jvm.Cond.instanceMethod ({ cls := "BinnedReads$Draft", name := "width", desc := "()I" } : Jvm.MethodName)) ∈ tb := tb_of (List.mem_append_right _ (List.mem_of_getElem? (i := 210) (by decide +kernel))) (by decide +kernel)
theorem tw_211 : (Jvm.Cond.selects "BinnedReads$Draft" ({ cls := "BinnedReads$Draft", name := "width", desc := "()I" } : Jvm.MethodName) ({ cls := "BinnedReads$Draft", name := "width", desc := "()I" } : Jvm.MethodName)) ∈ tb := tb_of (List.mem_append_right _ (List.mem_of_getElem? (i := 211) (by decide +kernel))) (by decide +kernel)
theorem tw_212 : (Jvm.Cond.code ({ cls := "BinnedReads$Draft", name := "width", desc := "()I" } : Jvm.MethodName) prog_3_method_6_code (3 : Nat) (Option.some Jvm.ClassFile.FieldType.int)) ∈ tb := tb_of (List.mem_append_right _ (List.mem_of_getElem? (i := 212) (by decide +kernel))) (by decide +kernel)
theorem tw_213 : (Jvm.Cond.methodLinkNest "BinnedReads$Draft" (29 : Nat) ({ cls := "BinnedReads", name := "kindOf", desc := "(I)I" } : Jvm.MethodName) "BinnedReads") ∈ lw_tbl := List.mem_append_right _ (List.mem_of_getElem? (i := 213) (by decide +kernel))
theorem tw_214 : (Jvm.Cond.methodLinkNest "BinnedReads$Draft" (33 : Nat) ({ cls := "BinnedReads", name := "lengthOf", desc := "(I)I" } : Jvm.MethodName) "BinnedReads") ∈ lw_tbl := List.mem_append_right _ (List.mem_of_getElem? (i := 214) (by decide +kernel))
theorem tw_215 : (Jvm.Cond.methodLink "BinnedReads" (65 : Nat) ({ cls := "BinnedReads", name := "isReference", desc := "(I)Z" } : Jvm.MethodName)) ∈ tb := tb_of (List.mem_append_right _ (List.mem_of_getElem? (i := 215) (by decide +kernel))) (by decide +kernel)
theorem tw_216 : (Jvm.Cond.static ({ cls := "BinnedReads", name := "isReference", desc := "(I)Z" } : Jvm.MethodName)) ∈ tb := tb_of (List.mem_append_right _ (List.mem_of_getElem? (i := 216) (by decide +kernel))) (by decide +kernel)
theorem tw_217 : (Jvm.Cond.code ({ cls := "BinnedReads", name := "isReference", desc := "(I)Z" } : Jvm.MethodName) prog_1_method_17_code (1 : Nat) (Option.some Jvm.ClassFile.FieldType.boolean)) ∈ tb := tb_of (List.mem_append_right _ (List.mem_of_getElem? (i := 217) (by decide +kernel))) (by decide +kernel)
theorem tw_218 : (Jvm.Cond.methodLink "BinnedReads" (68 : Nat) ({ cls := "BinnedReads$Draft", name := "span", desc := "()I" } : Jvm.MethodName)) ∈ tb := tb_of (List.mem_append_right _ (List.mem_of_getElem? (i := 218) (by decide +kernel))) (by decide +kernel)
theorem tw_219 : (Jvm.Cond.methodLink "BinnedReads" (72 : Nat) ({ cls := "BinnedReads$Index", name := "endsBehind", desc := "(II)Z" } : Jvm.MethodName)) ∈ tb := tb_of (List.mem_append_right _ (List.mem_of_getElem? (i := 219) (by decide +kernel))) (by decide +kernel)
theorem tw_220 : (Jvm.Cond.instanceMethod ({ cls := "BinnedReads$Index", name := "endsBehind", desc := "(II)Z" } : Jvm.MethodName)) ∈ tb := tb_of (List.mem_append_right _ (List.mem_of_getElem? (i := 220) (by decide +kernel))) (by decide +kernel)
theorem tw_221 : (Jvm.Cond.selects "BinnedReads$Index" ({ cls := "BinnedReads$Index", name := "endsBehind", desc := "(II)Z" } : Jvm.MethodName) ({ cls := "BinnedReads$Index", name := "endsBehind", desc := "(II)Z" } : Jvm.MethodName)) ∈ tb := tb_of (List.mem_append_right _ (List.mem_of_getElem? (i := 221) (by decide +kernel))) (by decide +kernel)
theorem tw_222 : (Jvm.Cond.code ({ cls := "BinnedReads$Index", name := "endsBehind", desc := "(II)Z" } : Jvm.MethodName) prog_5_method_4_code (4 : Nat) (Option.some Jvm.ClassFile.FieldType.boolean)) ∈ tb := tb_of (List.mem_append_right _ (List.mem_of_getElem? (i := 222) (by decide +kernel))) (by decide +kernel)
theorem tw_223 : (Jvm.Cond.methodLink "BinnedReads" (75 : Nat) ({ cls := "BinnedReads", name := "binOf", desc := "(II)I" } : Jvm.MethodName)) ∈ tb := tb_of (List.mem_append_right _ (List.mem_of_getElem? (i := 223) (by decide +kernel))) (by decide +kernel)
theorem tw_224 : (Jvm.Cond.static ({ cls := "BinnedReads", name := "binOf", desc := "(II)I" } : Jvm.MethodName)) ∈ tb := tb_of (List.mem_append_right _ (List.mem_of_getElem? (i := 224) (by decide +kernel))) (by decide +kernel)
theorem tw_225 : (Jvm.Cond.code ({ cls := "BinnedReads", name := "binOf", desc := "(II)I" } : Jvm.MethodName) prog_1_method_19_code (3 : Nat) (Option.some Jvm.ClassFile.FieldType.int)) ∈ tb := tb_of (List.mem_append_right _ (List.mem_of_getElem? (i := 225) (by decide +kernel))) (by decide +kernel)
theorem tw_226 : (Jvm.Cond.methodLink "BinnedReads" (83 : Nat) ({ cls := "BinnedReads$Index", name := "append", desc := "(IIIII)I" } : Jvm.MethodName)) ∈ tb := tb_of (List.mem_append_right _ (List.mem_of_getElem? (i := 226) (by decide +kernel))) (by decide +kernel)
theorem tw_227 : (Jvm.Cond.instanceMethod ({ cls := "BinnedReads$Index", name := "append", desc := "(IIIII)I" } : Jvm.MethodName)) ∈ tb := tb_of (List.mem_append_right _ (List.mem_of_getElem? (i := 227) (by decide +kernel))) (by decide +kernel)
theorem tw_228 : (Jvm.Cond.selects "BinnedReads$Index" ({ cls := "BinnedReads$Index", name := "append", desc := "(IIIII)I" } : Jvm.MethodName) ({ cls := "BinnedReads$Index", name := "append", desc := "(IIIII)I" } : Jvm.MethodName)) ∈ tb := tb_of (List.mem_append_right _ (List.mem_of_getElem? (i := 228) (by decide +kernel))) (by decide +kernel)
theorem tw_229 : (Jvm.Cond.code ({ cls := "BinnedReads$Index", name := "append", desc := "(IIIII)I" } : Jvm.MethodName) prog_5_method_5_code (6 : Nat) (Option.some Jvm.ClassFile.FieldType.int)) ∈ tb := tb_of (List.mem_append_right _ (List.mem_of_getElem? (i := 229) (by decide +kernel))) (by decide +kernel)
theorem tw_230 : (Jvm.Cond.methodLink "BinnedReads$Index" (37 : Nat) ({ cls := "BinnedReads$Index", name := "isFull", desc := "()Z" } : Jvm.MethodName)) ∈ tb := tb_of (List.mem_append_right _ (List.mem_of_getElem? (i := 230) (by decide +kernel))) (by decide +kernel)
theorem tw_231 : (Jvm.Cond.methodLink "BinnedReads" (87 : Nat) ({ cls := "BinnedReads$Stream", name := "appendRow", desc := "(LBinnedReads$Draft;III)V" } : Jvm.MethodName)) ∈ tb := tb_of (List.mem_append_right _ (List.mem_of_getElem? (i := 231) (by decide +kernel))) (by decide +kernel)
theorem tw_232 : (Jvm.Cond.instanceMethod ({ cls := "BinnedReads$Stream", name := "appendRow", desc := "(LBinnedReads$Draft;III)V" } : Jvm.MethodName)) ∈ tb := tb_of (List.mem_append_right _ (List.mem_of_getElem? (i := 232) (by decide +kernel))) (by decide +kernel)
theorem tw_233 : (Jvm.Cond.selects "BinnedReads$Stream" ({ cls := "BinnedReads$Stream", name := "appendRow", desc := "(LBinnedReads$Draft;III)V" } : Jvm.MethodName) ({ cls := "BinnedReads$Stream", name := "appendRow", desc := "(LBinnedReads$Draft;III)V" } : Jvm.MethodName)) ∈ tb := tb_of (List.mem_append_right _ (List.mem_of_getElem? (i := 233) (by decide +kernel))) (by decide +kernel)
theorem tw_234 : (Jvm.Cond.code ({ cls := "BinnedReads$Stream", name := "appendRow", desc := "(LBinnedReads$Draft;III)V" } : Jvm.MethodName) prog_6_method_3_code (7 : Nat) (Option.none : Option Jvm.ClassFile.FieldType)) ∈ tb := tb_of (List.mem_append_right _ (List.mem_of_getElem? (i := 234) (by decide +kernel))) (by decide +kernel)
theorem tw_235 : (Jvm.Cond.methodLink "BinnedReads$Stream" (19 : Nat) ({ cls := "BinnedReads$Stream", name := "appendByte", desc := "(I)V" } : Jvm.MethodName)) ∈ tb := tb_of (List.mem_append_right _ (List.mem_of_getElem? (i := 235) (by decide +kernel))) (by decide +kernel)
theorem tw_237 : (Jvm.Cond.instanceMethod ({ cls := "BinnedReads$Stream", name := "appendByte", desc := "(I)V" } : Jvm.MethodName)) ∈ tb := tb_of (List.mem_append_right _ (List.mem_of_getElem? (i := 237) (by decide +kernel))) (by decide +kernel)
theorem tw_238 : (Jvm.Cond.code ({ cls := "BinnedReads$Stream", name := "appendByte", desc := "(I)V" } : Jvm.MethodName) prog_6_method_5_code (2 : Nat) (Option.none : Option Jvm.ClassFile.FieldType)) ∈ tb := tb_of (List.mem_append_right _ (List.mem_of_getElem? (i := 238) (by decide +kernel))) (by decide +kernel)
theorem tw_239 : (Jvm.Cond.methodLink "BinnedReads$Stream" (34 : Nat) ({ cls := "BinnedReads$Draft", name := "basePair", desc := "(I)I" } : Jvm.MethodName)) ∈ tb := tb_of (List.mem_append_right _ (List.mem_of_getElem? (i := 239) (by decide +kernel))) (by decide +kernel)
theorem tw_240 : (Jvm.Cond.instanceMethod ({ cls := "BinnedReads$Draft", name := "basePair", desc := "(I)I" } : Jvm.MethodName)) ∈ tb := tb_of (List.mem_append_right _ (List.mem_of_getElem? (i := 240) (by decide +kernel))) (by decide +kernel)
theorem tw_241 : (Jvm.Cond.selects "BinnedReads$Draft" ({ cls := "BinnedReads$Draft", name := "basePair", desc := "(I)I" } : Jvm.MethodName) ({ cls := "BinnedReads$Draft", name := "basePair", desc := "(I)I" } : Jvm.MethodName)) ∈ tb := tb_of (List.mem_append_right _ (List.mem_of_getElem? (i := 241) (by decide +kernel))) (by decide +kernel)
theorem tw_242 : (Jvm.Cond.code ({ cls := "BinnedReads$Draft", name := "basePair", desc := "(I)I" } : Jvm.MethodName) prog_3_method_8_code (3 : Nat) (Option.some Jvm.ClassFile.FieldType.int)) ∈ tb := tb_of (List.mem_append_right _ (List.mem_of_getElem? (i := 242) (by decide +kernel))) (by decide +kernel)
theorem tw_243 : (Jvm.Cond.methodLink "BinnedReadsLaw" (32 : Nat) ({ cls := "BinnedReads", name := "finish", desc := "()I" } : Jvm.MethodName)) ∈ tb := tb_of (List.mem_append_right _ (List.mem_of_getElem? (i := 243) (by decide +kernel))) (by decide +kernel)
theorem tw_244 : (Jvm.Cond.instanceMethod ({ cls := "BinnedReads", name := "finish", desc := "()I" } : Jvm.MethodName)) ∈ tb := tb_of (List.mem_append_right _ (List.mem_of_getElem? (i := 244) (by decide +kernel))) (by decide +kernel)
theorem tw_245 : (Jvm.Cond.selects "BinnedReads" ({ cls := "BinnedReads", name := "finish", desc := "()I" } : Jvm.MethodName) ({ cls := "BinnedReads", name := "finish", desc := "()I" } : Jvm.MethodName)) ∈ tb := tb_of (List.mem_append_right _ (List.mem_of_getElem? (i := 245) (by decide +kernel))) (by decide +kernel)
theorem tw_246 : (Jvm.Cond.code ({ cls := "BinnedReads", name := "finish", desc := "()I" } : Jvm.MethodName) prog_1_method_6_code (1 : Nat) (Option.some Jvm.ClassFile.FieldType.int)) ∈ tb := tb_of (List.mem_append_right _ (List.mem_of_getElem? (i := 246) (by decide +kernel))) (by decide +kernel)
theorem tw_247 : (Jvm.Cond.methodLink "BinnedReads" (91 : Nat) ({ cls := "BinnedReads$Disk", name := "write", desc := "(LBinnedReads$Stream;)V" } : Jvm.MethodName)) ∈ tb := tb_of (List.mem_append_right _ (List.mem_of_getElem? (i := 247) (by decide +kernel))) (by decide +kernel)
theorem tw_248 : (Jvm.Cond.instanceMethod ({ cls := "BinnedReads$Disk", name := "write", desc := "(LBinnedReads$Stream;)V" } : Jvm.MethodName)) ∈ tb := tb_of (List.mem_append_right _ (List.mem_of_getElem? (i := 248) (by decide +kernel))) (by decide +kernel)
theorem tw_249 : (Jvm.Cond.selects "BinnedReads$Disk" ({ cls := "BinnedReads$Disk", name := "write", desc := "(LBinnedReads$Stream;)V" } : Jvm.MethodName) ({ cls := "BinnedReads$Disk", name := "write", desc := "(LBinnedReads$Stream;)V" } : Jvm.MethodName)) ∈ tb := tb_of (List.mem_append_right _ (List.mem_of_getElem? (i := 249) (by decide +kernel))) (by decide +kernel)
theorem tw_250 : (Jvm.Cond.code ({ cls := "BinnedReads$Disk", name := "write", desc := "(LBinnedReads$Stream;)V" } : Jvm.MethodName) prog_2_method_4_code (3 : Nat) (Option.none : Option Jvm.ClassFile.FieldType)) ∈ tb := tb_of (List.mem_append_right _ (List.mem_of_getElem? (i := 250) (by decide +kernel))) (by decide +kernel)
theorem tw_251 : (Jvm.Cond.methodLink "BinnedReads$Disk" (33 : Nat) ({ cls := "java/lang/Math", name := "min", desc := "(II)I" } : Jvm.MethodName)) ∈ tb := tb_of (List.mem_append_right _ (List.mem_of_getElem? (i := 251) (by decide +kernel))) (by decide +kernel)
theorem tw_252 : (Jvm.Cond.static ({ cls := "java/lang/Math", name := "min", desc := "(II)I" } : Jvm.MethodName)) ∈ tb := tb_of (List.mem_append_right _ (List.mem_of_getElem? (i := 252) (by decide +kernel))) (by decide +kernel)
theorem tw_253 : (Jvm.Cond.code ({ cls := "java/lang/Math", name := "min", desc := "(II)I" } : Jvm.MethodName) prog_9_method_69_code (2 : Nat) (Option.some Jvm.ClassFile.FieldType.int)) ∈ tb := tb_of (List.mem_append_right _ (List.mem_of_getElem? (i := 253) (by decide +kernel))) (by decide +kernel)
theorem tw_254 : (Jvm.Cond.methodLink "BinnedReads$Disk" (39 : Nat) ({ cls := "BinnedReads$Disk", name := "appendBlock", desc := "(LBinnedReads$Stream;II)V" } : Jvm.MethodName)) ∈ tb := tb_of (List.mem_append_right _ (List.mem_of_getElem? (i := 254) (by decide +kernel))) (by decide +kernel)
theorem tw_256 : (Jvm.Cond.instanceMethod ({ cls := "BinnedReads$Disk", name := "appendBlock", desc := "(LBinnedReads$Stream;II)V" } : Jvm.MethodName)) ∈ tb := tb_of (List.mem_append_right _ (List.mem_of_getElem? (i := 256) (by decide +kernel))) (by decide +kernel)
theorem tw_257 : (Jvm.Cond.code ({ cls := "BinnedReads$Disk", name := "appendBlock", desc := "(LBinnedReads$Stream;II)V" } : Jvm.MethodName) prog_2_method_10_code (6 : Nat) (Option.none : Option Jvm.ClassFile.FieldType)) ∈ tb := tb_of (List.mem_append_right _ (List.mem_of_getElem? (i := 257) (by decide +kernel))) (by decide +kernel)
theorem tw_258 : (Jvm.Cond.methodLink "BinnedReads$Disk" (54 : Nat) ({ cls := "BinnedReads$Disk", name := "appendByte", desc := "(I)V" } : Jvm.MethodName)) ∈ tb := tb_of (List.mem_append_right _ (List.mem_of_getElem? (i := 258) (by decide +kernel))) (by decide +kernel)
theorem tw_260 : (Jvm.Cond.instanceMethod ({ cls := "BinnedReads$Disk", name := "appendByte", desc := "(I)V" } : Jvm.MethodName)) ∈ tb := tb_of (List.mem_append_right _ (List.mem_of_getElem? (i := 260) (by decide +kernel))) (by decide +kernel)
theorem tw_261 : (Jvm.Cond.code ({ cls := "BinnedReads$Disk", name := "appendByte", desc := "(I)V" } : Jvm.MethodName) prog_2_method_12_code (2 : Nat) (Option.none : Option Jvm.ClassFile.FieldType)) ∈ tb := tb_of (List.mem_append_right _ (List.mem_of_getElem? (i := 261) (by decide +kernel))) (by decide +kernel)
theorem tw_262 : (Jvm.Cond.methodLink "BinnedReads$Disk" (58 : Nat) ({ cls := "BinnedReads$Disk", name := "appendNumber", desc := "(II)V" } : Jvm.MethodName)) ∈ tb := tb_of (List.mem_append_right _ (List.mem_of_getElem? (i := 262) (by decide +kernel))) (by decide +kernel)
theorem tw_264 : (Jvm.Cond.instanceMethod ({ cls := "BinnedReads$Disk", name := "appendNumber", desc := "(II)V" } : Jvm.MethodName)) ∈ tb := tb_of (List.mem_append_right _ (List.mem_of_getElem? (i := 264) (by decide +kernel))) (by decide +kernel)
theorem tw_265 : (Jvm.Cond.code ({ cls := "BinnedReads$Disk", name := "appendNumber", desc := "(II)V" } : Jvm.MethodName) prog_2_method_11_code (4 : Nat) (Option.none : Option Jvm.ClassFile.FieldType)) ∈ tb := tb_of (List.mem_append_right _ (List.mem_of_getElem? (i := 265) (by decide +kernel))) (by decide +kernel)
theorem tw_266 : (Jvm.Cond.methodLink "BinnedReads$Disk" (63 : Nat) ({ cls := "BinnedReads$Disk", name := "sumOf", desc := "(II)I" } : Jvm.MethodName)) ∈ tb := tb_of (List.mem_append_right _ (List.mem_of_getElem? (i := 266) (by decide +kernel))) (by decide +kernel)
theorem tw_268 : (Jvm.Cond.instanceMethod ({ cls := "BinnedReads$Disk", name := "sumOf", desc := "(II)I" } : Jvm.MethodName)) ∈ tb := tb_of (List.mem_append_right _ (List.mem_of_getElem? (i := 268) (by decide +kernel))) (by decide +kernel)
theorem tw_269 : (Jvm.Cond.code ({ cls := "BinnedReads$Disk", name := "sumOf", desc := "(II)I" } : Jvm.MethodName) prog_2_method_15_code (6 : Nat) (Option.some Jvm.ClassFile.FieldType.int)) ∈ tb := tb_of (List.mem_append_right _ (List.mem_of_getElem? (i := 269) (by decide +kernel))) (by decide +kernel)
theorem tw_270 : (Jvm.Cond.methodLink "BinnedReads$Disk" (47 : Nat) ({ cls := "BinnedReads$Disk", name := "at", desc := "(I)I" } : Jvm.MethodName)) ∈ tb := tb_of (List.mem_append_right _ (List.mem_of_getElem? (i := 270) (by decide +kernel))) (by decide +kernel)
theorem tw_271 : (Jvm.Cond.instanceMethod ({ cls := "BinnedReads$Disk", name := "at", desc := "(I)I" } : Jvm.MethodName)) ∈ tb := tb_of (List.mem_append_right _ (List.mem_of_getElem? (i := 271) (by decide +kernel))) (by decide +kernel)
theorem tw_272 : (Jvm.Cond.selects "BinnedReads$Disk" ({ cls := "BinnedReads$Disk", name := "at", desc := "(I)I" } : Jvm.MethodName) ({ cls := "BinnedReads$Disk", name := "at", desc := "(I)I" } : Jvm.MethodName)) ∈ tb := tb_of (List.mem_append_right _ (List.mem_of_getElem? (i := 272) (by decide +kernel))) (by decide +kernel)
theorem tw_273 : (Jvm.Cond.code ({ cls := "BinnedReads$Disk", name := "at", desc := "(I)I" } : Jvm.MethodName) prog_2_method_5_code (2 : Nat) (Option.some Jvm.ClassFile.FieldType.int)) ∈ tb := tb_of (List.mem_append_right _ (List.mem_of_getElem? (i := 273) (by decide +kernel))) (by decide +kernel)
theorem tw_274 : (Jvm.Cond.constant "BinnedReads$Disk" (70 : Nat) (-306674912 : Int32)) ∈ tb := tb_of (List.mem_append_right _ (List.mem_of_getElem? (i := 274) (by decide +kernel))) (by decide +kernel)
theorem tw_275 : (Jvm.Cond.methodLink "BinnedReadsLaw" (37 : Nat) ({ cls := "BinnedReads", name := "clear", desc := "()V" } : Jvm.MethodName)) ∈ tb := tb_of (List.mem_append_right _ (List.mem_of_getElem? (i := 275) (by decide +kernel))) (by decide +kernel)
theorem tw_276 : (Jvm.Cond.instanceMethod ({ cls := "BinnedReads", name := "clear", desc := "()V" } : Jvm.MethodName)) ∈ tb := tb_of (List.mem_append_right _ (List.mem_of_getElem? (i := 276) (by decide +kernel))) (by decide +kernel)
theorem tw_277 : (Jvm.Cond.selects "BinnedReads" ({ cls := "BinnedReads", name := "clear", desc := "()V" } : Jvm.MethodName) ({ cls := "BinnedReads", name := "clear", desc := "()V" } : Jvm.MethodName)) ∈ tb := tb_of (List.mem_append_right _ (List.mem_of_getElem? (i := 277) (by decide +kernel))) (by decide +kernel)
theorem tw_278 : (Jvm.Cond.code ({ cls := "BinnedReads", name := "clear", desc := "()V" } : Jvm.MethodName) prog_1_method_7_code (1 : Nat) (Option.none : Option Jvm.ClassFile.FieldType)) ∈ tb := tb_of (List.mem_append_right _ (List.mem_of_getElem? (i := 278) (by decide +kernel))) (by decide +kernel)
theorem tw_279 : (Jvm.Cond.methodLink "BinnedReads" (98 : Nat) ({ cls := "BinnedReads$Stream", name := "empty", desc := "()V" } : Jvm.MethodName)) ∈ tb := tb_of (List.mem_append_right _ (List.mem_of_getElem? (i := 279) (by decide +kernel))) (by decide +kernel)
theorem tw_280 : (Jvm.Cond.instanceMethod ({ cls := "BinnedReads$Stream", name := "empty", desc := "()V" } : Jvm.MethodName)) ∈ tb := tb_of (List.mem_append_right _ (List.mem_of_getElem? (i := 280) (by decide +kernel))) (by decide +kernel)
theorem tw_281 : (Jvm.Cond.selects "BinnedReads$Stream" ({ cls := "BinnedReads$Stream", name := "empty", desc := "()V" } : Jvm.MethodName) ({ cls := "BinnedReads$Stream", name := "empty", desc := "()V" } : Jvm.MethodName)) ∈ tb := tb_of (List.mem_append_right _ (List.mem_of_getElem? (i := 281) (by decide +kernel))) (by decide +kernel)
theorem tw_282 : (Jvm.Cond.code ({ cls := "BinnedReads$Stream", name := "empty", desc := "()V" } : Jvm.MethodName) prog_6_method_2_code (1 : Nat) (Option.none : Option Jvm.ClassFile.FieldType)) ∈ tb := tb_of (List.mem_append_right _ (List.mem_of_getElem? (i := 282) (by decide +kernel))) (by decide +kernel)
theorem tw_283 : (Jvm.Cond.methodLink "BinnedReads" (99 : Nat) ({ cls := "BinnedReads$Index", name := "empty", desc := "()V" } : Jvm.MethodName)) ∈ tb := tb_of (List.mem_append_right _ (List.mem_of_getElem? (i := 283) (by decide +kernel))) (by decide +kernel)
theorem tw_284 : (Jvm.Cond.instanceMethod ({ cls := "BinnedReads$Index", name := "empty", desc := "()V" } : Jvm.MethodName)) ∈ tb := tb_of (List.mem_append_right _ (List.mem_of_getElem? (i := 284) (by decide +kernel))) (by decide +kernel)
theorem tw_285 : (Jvm.Cond.selects "BinnedReads$Index" ({ cls := "BinnedReads$Index", name := "empty", desc := "()V" } : Jvm.MethodName) ({ cls := "BinnedReads$Index", name := "empty", desc := "()V" } : Jvm.MethodName)) ∈ tb := tb_of (List.mem_append_right _ (List.mem_of_getElem? (i := 285) (by decide +kernel))) (by decide +kernel)
theorem tw_286 : (Jvm.Cond.code ({ cls := "BinnedReads$Index", name := "empty", desc := "()V" } : Jvm.MethodName) prog_5_method_2_code (1 : Nat) (Option.none : Option Jvm.ClassFile.FieldType)) ∈ tb := tb_of (List.mem_append_right _ (List.mem_of_getElem? (i := 286) (by decide +kernel))) (by decide +kernel)
theorem tw_287 : (Jvm.Cond.methodLink "BinnedReads" (100 : Nat) ({ cls := "BinnedReads$Disk", name := "empty", desc := "()V" } : Jvm.MethodName)) ∈ tb := tb_of (List.mem_append_right _ (List.mem_of_getElem? (i := 287) (by decide +kernel))) (by decide +kernel)
theorem tw_288 : (Jvm.Cond.instanceMethod ({ cls := "BinnedReads$Disk", name := "empty", desc := "()V" } : Jvm.MethodName)) ∈ tb := tb_of (List.mem_append_right _ (List.mem_of_getElem? (i := 288) (by decide +kernel))) (by decide +kernel)
theorem tw_289 : (Jvm.Cond.selects "BinnedReads$Disk" ({ cls := "BinnedReads$Disk", name := "empty", desc := "()V" } : Jvm.MethodName) ({ cls := "BinnedReads$Disk", name := "empty", desc := "()V" } : Jvm.MethodName)) ∈ tb := tb_of (List.mem_append_right _ (List.mem_of_getElem? (i := 289) (by decide +kernel))) (by decide +kernel)
theorem tw_290 : (Jvm.Cond.code ({ cls := "BinnedReads$Disk", name := "empty", desc := "()V" } : Jvm.MethodName) prog_2_method_2_code (1 : Nat) (Option.none : Option Jvm.ClassFile.FieldType)) ∈ tb := tb_of (List.mem_append_right _ (List.mem_of_getElem? (i := 290) (by decide +kernel))) (by decide +kernel)
theorem tw_291 : (Jvm.Cond.methodLink "BinnedReads" (101 : Nat) ({ cls := "BinnedReads$Finding", name := "empty", desc := "()V" } : Jvm.MethodName)) ∈ tb := tb_of (List.mem_append_right _ (List.mem_of_getElem? (i := 291) (by decide +kernel))) (by decide +kernel)
theorem tw_292 : (Jvm.Cond.instanceMethod ({ cls := "BinnedReads$Finding", name := "empty", desc := "()V" } : Jvm.MethodName)) ∈ tb := tb_of (List.mem_append_right _ (List.mem_of_getElem? (i := 292) (by decide +kernel))) (by decide +kernel)
theorem tw_293 : (Jvm.Cond.selects "BinnedReads$Finding" ({ cls := "BinnedReads$Finding", name := "empty", desc := "()V" } : Jvm.MethodName) ({ cls := "BinnedReads$Finding", name := "empty", desc := "()V" } : Jvm.MethodName)) ∈ tb := tb_of (List.mem_append_right _ (List.mem_of_getElem? (i := 293) (by decide +kernel))) (by decide +kernel)
theorem tw_294 : (Jvm.Cond.code ({ cls := "BinnedReads$Finding", name := "empty", desc := "()V" } : Jvm.MethodName) prog_4_method_2_code (1 : Nat) (Option.none : Option Jvm.ClassFile.FieldType)) ∈ tb := tb_of (List.mem_append_right _ (List.mem_of_getElem? (i := 294) (by decide +kernel))) (by decide +kernel)
theorem tw_295 : (Jvm.Cond.methodLink "BinnedReadsLaw" (41 : Nat) ({ cls := "BinnedReads", name := "turn", desc := "(II)Z" } : Jvm.MethodName)) ∈ tb := tb_of (List.mem_append_right _ (List.mem_of_getElem? (i := 295) (by decide +kernel))) (by decide +kernel)
theorem tw_296 : (Jvm.Cond.instanceMethod ({ cls := "BinnedReads", name := "turn", desc := "(II)Z" } : Jvm.MethodName)) ∈ tb := tb_of (List.mem_append_right _ (List.mem_of_getElem? (i := 296) (by decide +kernel))) (by decide +kernel)
theorem tw_297 : (Jvm.Cond.selects "BinnedReads" ({ cls := "BinnedReads", name := "turn", desc := "(II)Z" } : Jvm.MethodName) ({ cls := "BinnedReads", name := "turn", desc := "(II)Z" } : Jvm.MethodName)) ∈ tb := tb_of (List.mem_append_right _ (List.mem_of_getElem? (i := 297) (by decide +kernel))) (by decide +kernel)
theorem tw_298 : (Jvm.Cond.code ({ cls := "BinnedReads", name := "turn", desc := "(II)Z" } : Jvm.MethodName) prog_1_method_8_code (3 : Nat) (Option.some Jvm.ClassFile.FieldType.boolean)) ∈ tb := tb_of (List.mem_append_right _ (List.mem_of_getElem? (i := 298) (by decide +kernel))) (by decide +kernel)
theorem tw_299 : (Jvm.Cond.methodLink "BinnedReads" (102 : Nat) ({ cls := "BinnedReads$Disk", name := "turnBit", desc := "(II)Z" } : Jvm.MethodName)) ∈ tb := tb_of (List.mem_append_right _ (List.mem_of_getElem? (i := 299) (by decide +kernel))) (by decide +kernel)
theorem tw_300 : (Jvm.Cond.instanceMethod ({ cls := "BinnedReads$Disk", name := "turnBit", desc := "(II)Z" } : Jvm.MethodName)) ∈ tb := tb_of (List.mem_append_right _ (List.mem_of_getElem? (i := 300) (by decide +kernel))) (by decide +kernel)
theorem tw_301 : (Jvm.Cond.selects "BinnedReads$Disk" ({ cls := "BinnedReads$Disk", name := "turnBit", desc := "(II)Z" } : Jvm.MethodName) ({ cls := "BinnedReads$Disk", name := "turnBit", desc := "(II)Z" } : Jvm.MethodName)) ∈ tb := tb_of (List.mem_append_right _ (List.mem_of_getElem? (i := 301) (by decide +kernel))) (by decide +kernel)
theorem tw_302 : (Jvm.Cond.code ({ cls := "BinnedReads$Disk", name := "turnBit", desc := "(II)Z" } : Jvm.MethodName) prog_2_method_6_code (4 : Nat) (Option.some Jvm.ClassFile.FieldType.boolean)) ∈ tb := tb_of (List.mem_append_right _ (List.mem_of_getElem? (i := 302) (by decide +kernel))) (by decide +kernel)
theorem tw_303 : (Jvm.Cond.methodLink "BinnedReadsLaw" (45 : Nat) ({ cls := "BinnedReads", name := "byteAt", desc := "(I)I" } : Jvm.MethodName)) ∈ tb := tb_of (List.mem_append_right _ (List.mem_of_getElem? (i := 303) (by decide +kernel))) (by decide +kernel)
theorem tw_304 : (Jvm.Cond.instanceMethod ({ cls := "BinnedReads", name := "byteAt", desc := "(I)I" } : Jvm.MethodName)) ∈ tb := tb_of (List.mem_append_right _ (List.mem_of_getElem? (i := 304) (by decide +kernel))) (by decide +kernel)
theorem tw_305 : (Jvm.Cond.selects "BinnedReads" ({ cls := "BinnedReads", name := "byteAt", desc := "(I)I" } : Jvm.MethodName) ({ cls := "BinnedReads", name := "byteAt", desc := "(I)I" } : Jvm.MethodName)) ∈ tb := tb_of (List.mem_append_right _ (List.mem_of_getElem? (i := 305) (by decide +kernel))) (by decide +kernel)
theorem tw_306 : (Jvm.Cond.code ({ cls := "BinnedReads", name := "byteAt", desc := "(I)I" } : Jvm.MethodName) prog_1_method_9_code (2 : Nat) (Option.some Jvm.ClassFile.FieldType.int)) ∈ tb := tb_of (List.mem_append_right _ (List.mem_of_getElem? (i := 306) (by decide +kernel))) (by decide +kernel)
theorem tw_307 : (Jvm.Cond.methodLink "BinnedReads" (105 : Nat) ({ cls := "BinnedReads$Disk", name := "at", desc := "(I)I" } : Jvm.MethodName)) ∈ tb := tb_of (List.mem_append_right _ (List.mem_of_getElem? (i := 307) (by decide +kernel))) (by decide +kernel)
theorem tw_308 : (Jvm.Cond.methodLink "BinnedReadsLaw" (50 : Nat) ({ cls := "BinnedReads", name := "check", desc := "()I" } : Jvm.MethodName)) ∈ tb := tb_of (List.mem_append_right _ (List.mem_of_getElem? (i := 308) (by decide +kernel))) (by decide +kernel)
theorem tw_309 : (Jvm.Cond.instanceMethod ({ cls := "BinnedReads", name := "check", desc := "()I" } : Jvm.MethodName)) ∈ tb := tb_of (List.mem_append_right _ (List.mem_of_getElem? (i := 309) (by decide +kernel))) (by decide +kernel)
theorem tw_310 : (Jvm.Cond.selects "BinnedReads" ({ cls := "BinnedReads", name := "check", desc := "()I" } : Jvm.MethodName) ({ cls := "BinnedReads", name := "check", desc := "()I" } : Jvm.MethodName)) ∈ tb := tb_of (List.mem_append_right _ (List.mem_of_getElem? (i := 310) (by decide +kernel))) (by decide +kernel)
theorem tw_311 : (Jvm.Cond.code ({ cls := "BinnedReads", name := "check", desc := "()I" } : Jvm.MethodName) prog_1_method_10_code (1 : Nat) (Option.some Jvm.ClassFile.FieldType.int)) ∈ tb := tb_of (List.mem_append_right _ (List.mem_of_getElem? (i := 311) (by decide +kernel))) (by decide +kernel)
theorem tw_312 : (Jvm.Cond.methodLink "BinnedReads" (112 : Nat) ({ cls := "BinnedReads$Disk", name := "areSound", desc := "(II)Z" } : Jvm.MethodName)) ∈ tb := tb_of (List.mem_append_right _ (List.mem_of_getElem? (i := 312) (by decide +kernel))) (by decide +kernel)
theorem tw_313 : (Jvm.Cond.instanceMethod ({ cls := "BinnedReads$Disk", name := "areSound", desc := "(II)Z" } : Jvm.MethodName)) ∈ tb := tb_of (List.mem_append_right _ (List.mem_of_getElem? (i := 313) (by decide +kernel))) (by decide +kernel)
theorem tw_314 : (Jvm.Cond.selects "BinnedReads$Disk" ({ cls := "BinnedReads$Disk", name := "areSound", desc := "(II)Z" } : Jvm.MethodName) ({ cls := "BinnedReads$Disk", name := "areSound", desc := "(II)Z" } : Jvm.MethodName)) ∈ tb := tb_of (List.mem_append_right _ (List.mem_of_getElem? (i := 314) (by decide +kernel))) (by decide +kernel)
theorem tw_315 : (Jvm.Cond.code ({ cls := "BinnedReads$Disk", name := "areSound", desc := "(II)Z" } : Jvm.MethodName) prog_2_method_7_code (4 : Nat) (Option.some Jvm.ClassFile.FieldType.boolean)) ∈ tb := tb_of (List.mem_append_right _ (List.mem_of_getElem? (i := 315) (by decide +kernel))) (by decide +kernel)
theorem tw_316 : (Jvm.Cond.methodLink "BinnedReads$Disk" (43 : Nat) ({ cls := "BinnedReads$Disk", name := "isSound", desc := "(I)Z" } : Jvm.MethodName)) ∈ tb := tb_of (List.mem_append_right _ (List.mem_of_getElem? (i := 316) (by decide +kernel))) (by decide +kernel)
theorem tw_318 : (Jvm.Cond.instanceMethod ({ cls := "BinnedReads$Disk", name := "isSound", desc := "(I)Z" } : Jvm.MethodName)) ∈ tb := tb_of (List.mem_append_right _ (List.mem_of_getElem? (i := 318) (by decide +kernel))) (by decide +kernel)
theorem tw_319 : (Jvm.Cond.code ({ cls := "BinnedReads$Disk", name := "isSound", desc := "(I)Z" } : Jvm.MethodName) prog_2_method_13_code (5 : Nat) (Option.some Jvm.ClassFile.FieldType.boolean)) ∈ tb := tb_of (List.mem_append_right _ (List.mem_of_getElem? (i := 319) (by decide +kernel))) (by decide +kernel)
theorem tw_320 : (Jvm.Cond.methodLink "BinnedReads$Disk" (66 : Nat) ({ cls := "BinnedReads$Disk", name := "numberAt", desc := "(II)I" } : Jvm.MethodName)) ∈ tb := tb_of (List.mem_append_right _ (List.mem_of_getElem? (i := 320) (by decide +kernel))) (by decide +kernel)
theorem tw_322 : (Jvm.Cond.instanceMethod ({ cls := "BinnedReads$Disk", name := "numberAt", desc := "(II)I" } : Jvm.MethodName)) ∈ tb := tb_of (List.mem_append_right _ (List.mem_of_getElem? (i := 322) (by decide +kernel))) (by decide +kernel)
theorem tw_323 : (Jvm.Cond.code ({ cls := "BinnedReads$Disk", name := "numberAt", desc := "(II)I" } : Jvm.MethodName) prog_2_method_14_code (5 : Nat) (Option.some Jvm.ClassFile.FieldType.int)) ∈ tb := tb_of (List.mem_append_right _ (List.mem_of_getElem? (i := 323) (by decide +kernel))) (by decide +kernel)
theorem tw_324 : (Jvm.Cond.constant "BinnedReads$Disk" (69 : Nat) (65535 : Int32)) ∈ tb := tb_of (List.mem_append_right _ (List.mem_of_getElem? (i := 324) (by decide +kernel))) (by decide +kernel)
theorem tw_325 : (Jvm.Cond.methodLink "BinnedReadsLaw" (54 : Nat) ({ cls := "BinnedReads", name := "query", desc := "(III)I" } : Jvm.MethodName)) ∈ tb := tb_of (List.mem_append_right _ (List.mem_of_getElem? (i := 325) (by decide +kernel))) (by decide +kernel)
theorem tw_326 : (Jvm.Cond.instanceMethod ({ cls := "BinnedReads", name := "query", desc := "(III)I" } : Jvm.MethodName)) ∈ tb := tb_of (List.mem_append_right _ (List.mem_of_getElem? (i := 326) (by decide +kernel))) (by decide +kernel)
theorem tw_327 : (Jvm.Cond.selects "BinnedReads" ({ cls := "BinnedReads", name := "query", desc := "(III)I" } : Jvm.MethodName) ({ cls := "BinnedReads", name := "query", desc := "(III)I" } : Jvm.MethodName)) ∈ tb := tb_of (List.mem_append_right _ (List.mem_of_getElem? (i := 327) (by decide +kernel))) (by decide +kernel)
theorem tw_328 : (Jvm.Cond.code ({ cls := "BinnedReads", name := "query", desc := "(III)I" } : Jvm.MethodName) prog_1_method_11_code (6 : Nat) (Option.some Jvm.ClassFile.FieldType.int)) ∈ tb := tb_of (List.mem_append_right _ (List.mem_of_getElem? (i := 328) (by decide +kernel))) (by decide +kernel)
theorem tw_329 : (Jvm.Cond.methodLink "BinnedReads" (118 : Nat) ({ cls := "BinnedReads", name := "isRegion", desc := "(III)Z" } : Jvm.MethodName)) ∈ tb := tb_of (List.mem_append_right _ (List.mem_of_getElem? (i := 329) (by decide +kernel))) (by decide +kernel)
theorem tw_330 : (Jvm.Cond.static ({ cls := "BinnedReads", name := "isRegion", desc := "(III)Z" } : Jvm.MethodName)) ∈ tb := tb_of (List.mem_append_right _ (List.mem_of_getElem? (i := 330) (by decide +kernel))) (by decide +kernel)
theorem tw_331 : (Jvm.Cond.code ({ cls := "BinnedReads", name := "isRegion", desc := "(III)Z" } : Jvm.MethodName) prog_1_method_18_code (3 : Nat) (Option.some Jvm.ClassFile.FieldType.boolean)) ∈ tb := tb_of (List.mem_append_right _ (List.mem_of_getElem? (i := 331) (by decide +kernel))) (by decide +kernel)
theorem tw_332 : (Jvm.Cond.methodLink "BinnedReads" (122 : Nat) ({ cls := "BinnedReads$Index", name := "choose", desc := "(III)V" } : Jvm.MethodName)) ∈ tb := tb_of (List.mem_append_right _ (List.mem_of_getElem? (i := 332) (by decide +kernel))) (by decide +kernel)
theorem tw_333 : (Jvm.Cond.instanceMethod ({ cls := "BinnedReads$Index", name := "choose", desc := "(III)V" } : Jvm.MethodName)) ∈ tb := tb_of (List.mem_append_right _ (List.mem_of_getElem? (i := 333) (by decide +kernel))) (by decide +kernel)
theorem tw_334 : (Jvm.Cond.selects "BinnedReads$Index" ({ cls := "BinnedReads$Index", name := "choose", desc := "(III)V" } : Jvm.MethodName) ({ cls := "BinnedReads$Index", name := "choose", desc := "(III)V" } : Jvm.MethodName)) ∈ tb := tb_of (List.mem_append_right _ (List.mem_of_getElem? (i := 334) (by decide +kernel))) (by decide +kernel)
theorem tw_335 : (Jvm.Cond.code ({ cls := "BinnedReads$Index", name := "choose", desc := "(III)V" } : Jvm.MethodName) prog_5_method_6_code (6 : Nat) (Option.none : Option Jvm.ClassFile.FieldType)) ∈ tb := tb_of (List.mem_append_right _ (List.mem_of_getElem? (i := 335) (by decide +kernel))) (by decide +kernel)
theorem tw_336 : (Jvm.Cond.methodLink "BinnedReads$Index" (41 : Nat) ({ cls := "BinnedReads$Index", name := "firstEndingAfter", desc := "(II)I" } : Jvm.MethodName)) ∈ tb := tb_of (List.mem_append_right _ (List.mem_of_getElem? (i := 336) (by decide +kernel))) (by decide +kernel)
theorem tw_338 : (Jvm.Cond.instanceMethod ({ cls := "BinnedReads$Index", name := "firstEndingAfter", desc := "(II)I" } : Jvm.MethodName)) ∈ tb := tb_of (List.mem_append_right _ (List.mem_of_getElem? (i := 338) (by decide +kernel))) (by decide +kernel)
theorem tw_339 : (Jvm.Cond.code ({ cls := "BinnedReads$Index", name := "firstEndingAfter", desc := "(II)I" } : Jvm.MethodName) prog_5_method_8_code (4 : Nat) (Option.some Jvm.ClassFile.FieldType.int)) ∈ tb := tb_of (List.mem_append_right _ (List.mem_of_getElem? (i := 339) (by decide +kernel))) (by decide +kernel)
theorem tw_340 : (Jvm.Cond.methodLinkNest "BinnedReads$Index" (45 : Nat) ({ cls := "BinnedReads", name := "binMeets", desc := "(III)Z" } : Jvm.MethodName) "BinnedReads") ∈ lw_tbl := List.mem_append_right _ (List.mem_of_getElem? (i := 340) (by decide +kernel))
theorem tw_341 : (Jvm.Cond.static ({ cls := "BinnedReads", name := "binMeets", desc := "(III)Z" } : Jvm.MethodName)) ∈ tb := tb_of (List.mem_append_right _ (List.mem_of_getElem? (i := 341) (by decide +kernel))) (by decide +kernel)
theorem tw_342 : (Jvm.Cond.code ({ cls := "BinnedReads", name := "binMeets", desc := "(III)Z" } : Jvm.MethodName) prog_1_method_20_code (5 : Nat) (Option.some Jvm.ClassFile.FieldType.boolean)) ∈ tb := tb_of (List.mem_append_right _ (List.mem_of_getElem? (i := 342) (by decide +kernel))) (by decide +kernel)
theorem tw_343 : (Jvm.Cond.methodLink "BinnedReads" (126 : Nat) ({ cls := "BinnedReads", name := "areChosenSound", desc := "()Z" } : Jvm.MethodName)) ∈ tb := tb_of (List.mem_append_right _ (List.mem_of_getElem? (i := 343) (by decide +kernel))) (by decide +kernel)
theorem tw_345 : (Jvm.Cond.instanceMethod ({ cls := "BinnedReads", name := "areChosenSound", desc := "()Z" } : Jvm.MethodName)) ∈ tb := tb_of (List.mem_append_right _ (List.mem_of_getElem? (i := 345) (by decide +kernel))) (by decide +kernel)
theorem tw_346 : (Jvm.Cond.code ({ cls := "BinnedReads", name := "areChosenSound", desc := "()Z" } : Jvm.MethodName) prog_1_method_16_code (6 : Nat) (Option.some Jvm.ClassFile.FieldType.boolean)) ∈ tb := tb_of (List.mem_append_right _ (List.mem_of_getElem? (i := 346) (by decide +kernel))) (by decide +kernel)
theorem tw_347 : (Jvm.Cond.methodLink "BinnedReads" (171 : Nat) ({ cls := "BinnedReads$Stream", name := "rowLength", desc := "(I)I" } : Jvm.MethodName)) ∈ tb := tb_of (List.mem_append_right _ (List.mem_of_getElem? (i := 347) (by decide +kernel))) (by decide +kernel)
theorem tw_348 : (Jvm.Cond.instanceMethod ({ cls := "BinnedReads$Stream", name := "rowLength", desc := "(I)I" } : Jvm.MethodName)) ∈ tb := tb_of (List.mem_append_right _ (List.mem_of_getElem? (i := 348) (by decide +kernel))) (by decide +kernel)
theorem tw_349 : (Jvm.Cond.selects "BinnedReads$Stream" ({ cls := "BinnedReads$Stream", name := "rowLength", desc := "(I)I" } : Jvm.MethodName) ({ cls := "BinnedReads$Stream", name := "rowLength", desc := "(I)I" } : Jvm.MethodName)) ∈ tb := tb_of (List.mem_append_right _ (List.mem_of_getElem? (i := 349) (by decide +kernel))) (by decide +kernel)
theorem tw_350 : (Jvm.Cond.code ({ cls := "BinnedReads$Stream", name := "rowLength", desc := "(I)I" } : Jvm.MethodName) prog_6_method_4_code (2 : Nat) (Option.some Jvm.ClassFile.FieldType.int)) ∈ tb := tb_of (List.mem_append_right _ (List.mem_of_getElem? (i := 350) (by decide +kernel))) (by decide +kernel)
theorem tw_351 : (Jvm.Cond.methodLink "BinnedReads" (174 : Nat) ({ cls := "java/lang/Math", name := "max", desc := "(II)I" } : Jvm.MethodName)) ∈ tb := tb_of (List.mem_append_right _ (List.mem_of_getElem? (i := 351) (by decide +kernel))) (by decide +kernel)
theorem tw_352 : (Jvm.Cond.static ({ cls := "java/lang/Math", name := "max", desc := "(II)I" } : Jvm.MethodName)) ∈ tb := tb_of (List.mem_append_right _ (List.mem_of_getElem? (i := 352) (by decide +kernel))) (by decide +kernel)
theorem tw_353 : (Jvm.Cond.code ({ cls := "java/lang/Math", name := "max", desc := "(II)I" } : Jvm.MethodName) prog_9_method_65_code (2 : Nat) (Option.some Jvm.ClassFile.FieldType.int)) ∈ tb := tb_of (List.mem_append_right _ (List.mem_of_getElem? (i := 353) (by decide +kernel))) (by decide +kernel)
theorem tw_354 : (Jvm.Cond.methodLink "BinnedReads" (139 : Nat) ({ cls := "BinnedReads$Index", name := "overlaps", desc := "(III)Z" } : Jvm.MethodName)) ∈ tb := tb_of (List.mem_append_right _ (List.mem_of_getElem? (i := 354) (by decide +kernel))) (by decide +kernel)
theorem tw_355 : (Jvm.Cond.instanceMethod ({ cls := "BinnedReads$Index", name := "overlaps", desc := "(III)Z" } : Jvm.MethodName)) ∈ tb := tb_of (List.mem_append_right _ (List.mem_of_getElem? (i := 355) (by decide +kernel))) (by decide +kernel)
theorem tw_356 : (Jvm.Cond.selects "BinnedReads$Index" ({ cls := "BinnedReads$Index", name := "overlaps", desc := "(III)Z" } : Jvm.MethodName) ({ cls := "BinnedReads$Index", name := "overlaps", desc := "(III)Z" } : Jvm.MethodName)) ∈ tb := tb_of (List.mem_append_right _ (List.mem_of_getElem? (i := 356) (by decide +kernel))) (by decide +kernel)
theorem tw_357 : (Jvm.Cond.code ({ cls := "BinnedReads$Index", name := "overlaps", desc := "(III)Z" } : Jvm.MethodName) prog_5_method_7_code (4 : Nat) (Option.some Jvm.ClassFile.FieldType.boolean)) ∈ tb := tb_of (List.mem_append_right _ (List.mem_of_getElem? (i := 357) (by decide +kernel))) (by decide +kernel)
theorem tw_358 : (Jvm.Cond.methodLink "BinnedReads" (145 : Nat) ({ cls := "BinnedReads$Finding", name := "append", desc := "(LBinnedReads$Disk;I)V" } : Jvm.MethodName)) ∈ tb := tb_of (List.mem_append_right _ (List.mem_of_getElem? (i := 358) (by decide +kernel))) (by decide +kernel)
theorem tw_359 : (Jvm.Cond.instanceMethod ({ cls := "BinnedReads$Finding", name := "append", desc := "(LBinnedReads$Disk;I)V" } : Jvm.MethodName)) ∈ tb := tb_of (List.mem_append_right _ (List.mem_of_getElem? (i := 359) (by decide +kernel))) (by decide +kernel)
theorem tw_360 : (Jvm.Cond.selects "BinnedReads$Finding" ({ cls := "BinnedReads$Finding", name := "append", desc := "(LBinnedReads$Disk;I)V" } : Jvm.MethodName) ({ cls := "BinnedReads$Finding", name := "append", desc := "(LBinnedReads$Disk;I)V" } : Jvm.MethodName)) ∈ tb := tb_of (List.mem_append_right _ (List.mem_of_getElem? (i := 360) (by decide +kernel))) (by decide +kernel)
theorem tw_361 : (Jvm.Cond.code ({ cls := "BinnedReads$Finding", name := "append", desc := "(LBinnedReads$Disk;I)V" } : Jvm.MethodName) prog_4_method_4_code (6 : Nat) (Option.none : Option Jvm.ClassFile.FieldType)) ∈ tb := tb_of (List.mem_append_right _ (List.mem_of_getElem? (i := 361) (by decide +kernel))) (by decide +kernel)
theorem tw_362 : (Jvm.Cond.methodLink "BinnedReads$Finding" (27 : Nat) ({ cls := "BinnedReads$Disk", name := "streamByte", desc := "(I)I" } : Jvm.MethodName)) ∈ tb := tb_of (List.mem_append_right _ (List.mem_of_getElem? (i := 362) (by decide +kernel))) (by decide +kernel)
theorem tw_363 : (Jvm.Cond.instanceMethod ({ cls := "BinnedReads$Disk", name := "streamByte", desc := "(I)I" } : Jvm.MethodName)) ∈ tb := tb_of (List.mem_append_right _ (List.mem_of_getElem? (i := 363) (by decide +kernel))) (by decide +kernel)
theorem tw_364 : (Jvm.Cond.selects "BinnedReads$Disk" ({ cls := "BinnedReads$Disk", name := "streamByte", desc := "(I)I" } : Jvm.MethodName) ({ cls := "BinnedReads$Disk", name := "streamByte", desc := "(I)I" } : Jvm.MethodName)) ∈ tb := tb_of (List.mem_append_right _ (List.mem_of_getElem? (i := 364) (by decide +kernel))) (by decide +kernel)
theorem tw_365 : (Jvm.Cond.code ({ cls := "BinnedReads$Disk", name := "streamByte", desc := "(I)I" } : Jvm.MethodName) prog_2_method_8_code (3 : Nat) (Option.some Jvm.ClassFile.FieldType.int)) ∈ tb := tb_of (List.mem_append_right _ (List.mem_of_getElem? (i := 365) (by decide +kernel))) (by decide +kernel)
theorem tw_366 : (Jvm.Cond.methodLink "BinnedReads$Disk" (51 : Nat) ({ cls := "java/lang/Math", name := "max", desc := "(II)I" } : Jvm.MethodName)) ∈ tb := tb_of (List.mem_append_right _ (List.mem_of_getElem? (i := 366) (by decide +kernel))) (by decide +kernel)
theorem tw_367 : (Jvm.Cond.methodLink "BinnedReads$Finding" (33 : Nat) ({ cls := "java/lang/Math", name := "min", desc := "(II)I" } : Jvm.MethodName)) ∈ tb := tb_of (List.mem_append_right _ (List.mem_of_getElem? (i := 367) (by decide +kernel))) (by decide +kernel)
theorem tw_368 : (Jvm.Cond.methodLink "BinnedReads$Finding" (39 : Nat) ({ cls := "BinnedReads$Disk", name := "offsetOf", desc := "(I)I" } : Jvm.MethodName)) ∈ tb := tb_of (List.mem_append_right _ (List.mem_of_getElem? (i := 368) (by decide +kernel))) (by decide +kernel)
theorem tw_369 : (Jvm.Cond.instanceMethod ({ cls := "BinnedReads$Disk", name := "offsetOf", desc := "(I)I" } : Jvm.MethodName)) ∈ tb := tb_of (List.mem_append_right _ (List.mem_of_getElem? (i := 369) (by decide +kernel))) (by decide +kernel)
theorem tw_370 : (Jvm.Cond.selects "BinnedReads$Disk" ({ cls := "BinnedReads$Disk", name := "offsetOf", desc := "(I)I" } : Jvm.MethodName) ({ cls := "BinnedReads$Disk", name := "offsetOf", desc := "(I)I" } : Jvm.MethodName)) ∈ tb := tb_of (List.mem_append_right _ (List.mem_of_getElem? (i := 370) (by decide +kernel))) (by decide +kernel)
theorem tw_371 : (Jvm.Cond.code ({ cls := "BinnedReads$Disk", name := "offsetOf", desc := "(I)I" } : Jvm.MethodName) prog_2_method_9_code (3 : Nat) (Option.some Jvm.ClassFile.FieldType.int)) ∈ tb := tb_of (List.mem_append_right _ (List.mem_of_getElem? (i := 371) (by decide +kernel))) (by decide +kernel)
theorem tw_372 : (Jvm.Cond.methodLink "BinnedReadsLaw" (59 : Nat) ({ cls := "BinnedReads", name := "looked", desc := "()I" } : Jvm.MethodName)) ∈ tb := tb_of (List.mem_append_right _ (List.mem_of_getElem? (i := 372) (by decide +kernel))) (by decide +kernel)
theorem tw_373 : (Jvm.Cond.instanceMethod ({ cls := "BinnedReads", name := "looked", desc := "()I" } : Jvm.MethodName)) ∈ tb := tb_of (List.mem_append_right _ (List.mem_of_getElem? (i := 373) (by decide +kernel))) (by decide +kernel)
theorem tw_374 : (Jvm.Cond.selects "BinnedReads" ({ cls := "BinnedReads", name := "looked", desc := "()I" } : Jvm.MethodName) ({ cls := "BinnedReads", name := "looked", desc := "()I" } : Jvm.MethodName)) ∈ tb := tb_of (List.mem_append_right _ (List.mem_of_getElem? (i := 374) (by decide +kernel))) (by decide +kernel)
theorem tw_375 : (Jvm.Cond.code ({ cls := "BinnedReads", name := "looked", desc := "()I" } : Jvm.MethodName) prog_1_method_12_code (1 : Nat) (Option.some Jvm.ClassFile.FieldType.int)) ∈ tb := tb_of (List.mem_append_right _ (List.mem_of_getElem? (i := 375) (by decide +kernel))) (by decide +kernel)
theorem tw_376 : (Jvm.Cond.methodLink "BinnedReadsLaw" (63 : Nat) ({ cls := "BinnedReads", name := "found", desc := "(II)I" } : Jvm.MethodName)) ∈ tb := tb_of (List.mem_append_right _ (List.mem_of_getElem? (i := 376) (by decide +kernel))) (by decide +kernel)
theorem tw_377 : (Jvm.Cond.instanceMethod ({ cls := "BinnedReads", name := "found", desc := "(II)I" } : Jvm.MethodName)) ∈ tb := tb_of (List.mem_append_right _ (List.mem_of_getElem? (i := 377) (by decide +kernel))) (by decide +kernel)
theorem tw_378 : (Jvm.Cond.selects "BinnedReads" ({ cls := "BinnedReads", name := "found", desc := "(II)I" } : Jvm.MethodName) ({ cls := "BinnedReads", name := "found", desc := "(II)I" } : Jvm.MethodName)) ∈ tb := tb_of (List.mem_append_right _ (List.mem_of_getElem? (i := 378) (by decide +kernel))) (by decide +kernel)
theorem tw_379 : (Jvm.Cond.code ({ cls := "BinnedReads", name := "found", desc := "(II)I" } : Jvm.MethodName) prog_1_method_13_code (3 : Nat) (Option.some Jvm.ClassFile.FieldType.int)) ∈ tb := tb_of (List.mem_append_right _ (List.mem_of_getElem? (i := 379) (by decide +kernel))) (by decide +kernel)
theorem tw_380 : (Jvm.Cond.methodLink "BinnedReads" (149 : Nat) ({ cls := "BinnedReads$Finding", name := "has", desc := "(I)Z" } : Jvm.MethodName)) ∈ tb := tb_of (List.mem_append_right _ (List.mem_of_getElem? (i := 380) (by decide +kernel))) (by decide +kernel)
theorem tw_381 : (Jvm.Cond.instanceMethod ({ cls := "BinnedReads$Finding", name := "has", desc := "(I)Z" } : Jvm.MethodName)) ∈ tb := tb_of (List.mem_append_right _ (List.mem_of_getElem? (i := 381) (by decide +kernel))) (by decide +kernel)
theorem tw_382 : (Jvm.Cond.selects "BinnedReads$Finding" ({ cls := "BinnedReads$Finding", name := "has", desc := "(I)Z" } : Jvm.MethodName) ({ cls := "BinnedReads$Finding", name := "has", desc := "(I)Z" } : Jvm.MethodName)) ∈ tb := tb_of (List.mem_append_right _ (List.mem_of_getElem? (i := 382) (by decide +kernel))) (by decide +kernel)
theorem tw_383 : (Jvm.Cond.code ({ cls := "BinnedReads$Finding", name := "has", desc := "(I)Z" } : Jvm.MethodName) prog_4_method_3_code (2 : Nat) (Option.some Jvm.ClassFile.FieldType.boolean)) ∈ tb := tb_of (List.mem_append_right _ (List.mem_of_getElem? (i := 383) (by decide +kernel))) (by decide +kernel)
theorem tw_384 : (Jvm.Cond.methodLink "BinnedReads" (155 : Nat) ({ cls := "BinnedReads$Finding", name := "position", desc := "(I)I" } : Jvm.MethodName)) ∈ tb := tb_of (List.mem_append_right _ (List.mem_of_getElem? (i := 384) (by decide +kernel))) (by decide +kernel)
theorem tw_385 : (Jvm.Cond.instanceMethod ({ cls := "BinnedReads$Finding", name := "position", desc := "(I)I" } : Jvm.MethodName)) ∈ tb := tb_of (List.mem_append_right _ (List.mem_of_getElem? (i := 385) (by decide +kernel))) (by decide +kernel)
theorem tw_386 : (Jvm.Cond.selects "BinnedReads$Finding" ({ cls := "BinnedReads$Finding", name := "position", desc := "(I)I" } : Jvm.MethodName) ({ cls := "BinnedReads$Finding", name := "position", desc := "(I)I" } : Jvm.MethodName)) ∈ tb := tb_of (List.mem_append_right _ (List.mem_of_getElem? (i := 386) (by decide +kernel))) (by decide +kernel)
theorem tw_387 : (Jvm.Cond.code ({ cls := "BinnedReads$Finding", name := "position", desc := "(I)I" } : Jvm.MethodName) prog_4_method_5_code (2 : Nat) (Option.some Jvm.ClassFile.FieldType.int)) ∈ tb := tb_of (List.mem_append_right _ (List.mem_of_getElem? (i := 387) (by decide +kernel))) (by decide +kernel)
theorem tw_388 : (Jvm.Cond.methodLink "BinnedReads" (162 : Nat) ({ cls := "BinnedReads$Finding", name := "end", desc := "(I)I" } : Jvm.MethodName)) ∈ tb := tb_of (List.mem_append_right _ (List.mem_of_getElem? (i := 388) (by decide +kernel))) (by decide +kernel)
theorem tw_389 : (Jvm.Cond.instanceMethod ({ cls := "BinnedReads$Finding", name := "end", desc := "(I)I" } : Jvm.MethodName)) ∈ tb := tb_of (List.mem_append_right _ (List.mem_of_getElem? (i := 389) (by decide +kernel))) (by decide +kernel)
theorem tw_390 : (Jvm.Cond.selects "BinnedReads$Finding" ({ cls := "BinnedReads$Finding", name := "end", desc := "(I)I" } : Jvm.MethodName) ({ cls := "BinnedReads$Finding", name := "end", desc := "(I)I" } : Jvm.MethodName)) ∈ tb := tb_of (List.mem_append_right _ (List.mem_of_getElem? (i := 390) (by decide +kernel))) (by decide +kernel)
theorem tw_391 : (Jvm.Cond.code ({ cls := "BinnedReads$Finding", name := "end", desc := "(I)I" } : Jvm.MethodName) prog_4_method_6_code (2 : Nat) (Option.some Jvm.ClassFile.FieldType.int)) ∈ tb := tb_of (List.mem_append_right _ (List.mem_of_getElem? (i := 391) (by decide +kernel))) (by decide +kernel)
theorem tw_392 : (Jvm.Cond.methodLink "BinnedReads$Finding" (42 : Nat) ({ cls := "BinnedReads$Finding", name := "position", desc := "(I)I" } : Jvm.MethodName)) ∈ tb := tb_of (List.mem_append_right _ (List.mem_of_getElem? (i := 392) (by decide +kernel))) (by decide +kernel)
theorem tw_393 : (Jvm.Cond.methodLink "BinnedReads$Finding" (45 : Nat) ({ cls := "BinnedReads$Finding", name := "opCount", desc := "(I)I" } : Jvm.MethodName)) ∈ tb := tb_of (List.mem_append_right _ (List.mem_of_getElem? (i := 393) (by decide +kernel))) (by decide +kernel)
theorem tw_394 : (Jvm.Cond.instanceMethod ({ cls := "BinnedReads$Finding", name := "opCount", desc := "(I)I" } : Jvm.MethodName)) ∈ tb := tb_of (List.mem_append_right _ (List.mem_of_getElem? (i := 394) (by decide +kernel))) (by decide +kernel)
theorem tw_395 : (Jvm.Cond.selects "BinnedReads$Finding" ({ cls := "BinnedReads$Finding", name := "opCount", desc := "(I)I" } : Jvm.MethodName) ({ cls := "BinnedReads$Finding", name := "opCount", desc := "(I)I" } : Jvm.MethodName)) ∈ tb := tb_of (List.mem_append_right _ (List.mem_of_getElem? (i := 395) (by decide +kernel))) (by decide +kernel)
theorem tw_396 : (Jvm.Cond.code ({ cls := "BinnedReads$Finding", name := "opCount", desc := "(I)I" } : Jvm.MethodName) prog_4_method_7_code (2 : Nat) (Option.some Jvm.ClassFile.FieldType.int)) ∈ tb := tb_of (List.mem_append_right _ (List.mem_of_getElem? (i := 396) (by decide +kernel))) (by decide +kernel)
theorem tw_397 : (Jvm.Cond.methodLinkNest "BinnedReads$Finding" (48 : Nat) ({ cls := "BinnedReads", name := "spanOf", desc := "([III)I" } : Jvm.MethodName) "BinnedReads") ∈ lw_tbl := List.mem_append_right _ (List.mem_of_getElem? (i := 397) (by decide +kernel))
theorem tw_398 : (Jvm.Cond.methodLink "BinnedReads" (165 : Nat) ({ cls := "BinnedReads$Finding", name := "opCount", desc := "(I)I" } : Jvm.MethodName)) ∈ tb := tb_of (List.mem_append_right _ (List.mem_of_getElem? (i := 398) (by decide +kernel))) (by decide +kernel)
theorem tw_399 : (Jvm.Cond.methodLink "BinnedReads" (168 : Nat) ({ cls := "BinnedReads$Finding", name := "baseCount", desc := "(I)I" } : Jvm.MethodName)) ∈ tb := tb_of (List.mem_append_right _ (List.mem_of_getElem? (i := 399) (by decide +kernel))) (by decide +kernel)
theorem tw_400 : (Jvm.Cond.instanceMethod ({ cls := "BinnedReads$Finding", name := "baseCount", desc := "(I)I" } : Jvm.MethodName)) ∈ tb := tb_of (List.mem_append_right _ (List.mem_of_getElem? (i := 400) (by decide +kernel))) (by decide +kernel)
theorem tw_401 : (Jvm.Cond.selects "BinnedReads$Finding" ({ cls := "BinnedReads$Finding", name := "baseCount", desc := "(I)I" } : Jvm.MethodName) ({ cls := "BinnedReads$Finding", name := "baseCount", desc := "(I)I" } : Jvm.MethodName)) ∈ tb := tb_of (List.mem_append_right _ (List.mem_of_getElem? (i := 401) (by decide +kernel))) (by decide +kernel)
theorem tw_402 : (Jvm.Cond.code ({ cls := "BinnedReads$Finding", name := "baseCount", desc := "(I)I" } : Jvm.MethodName) prog_4_method_8_code (2 : Nat) (Option.some Jvm.ClassFile.FieldType.int)) ∈ tb := tb_of (List.mem_append_right _ (List.mem_of_getElem? (i := 402) (by decide +kernel))) (by decide +kernel)
theorem tw_403 : (Jvm.Cond.methodLink "BinnedReadsLaw" (67 : Nat) ({ cls := "BinnedReads", name := "foundOp", desc := "(II)I" } : Jvm.MethodName)) ∈ tb := tb_of (List.mem_append_right _ (List.mem_of_getElem? (i := 403) (by decide +kernel))) (by decide +kernel)
theorem tw_404 : (Jvm.Cond.instanceMethod ({ cls := "BinnedReads", name := "foundOp", desc := "(II)I" } : Jvm.MethodName)) ∈ tb := tb_of (List.mem_append_right _ (List.mem_of_getElem? (i := 404) (by decide +kernel))) (by decide +kernel)
theorem tw_405 : (Jvm.Cond.selects "BinnedReads" ({ cls := "BinnedReads", name := "foundOp", desc := "(II)I" } : Jvm.MethodName) ({ cls := "BinnedReads", name := "foundOp", desc := "(II)I" } : Jvm.MethodName)) ∈ tb := tb_of (List.mem_append_right _ (List.mem_of_getElem? (i := 405) (by decide +kernel))) (by decide +kernel)
theorem tw_406 : (Jvm.Cond.code ({ cls := "BinnedReads", name := "foundOp", desc := "(II)I" } : Jvm.MethodName) prog_1_method_14_code (3 : Nat) (Option.some Jvm.ClassFile.FieldType.int)) ∈ tb := tb_of (List.mem_append_right _ (List.mem_of_getElem? (i := 406) (by decide +kernel))) (by decide +kernel)
theorem tw_407 : (Jvm.Cond.methodLink "BinnedReadsLaw" (71 : Nat) ({ cls := "BinnedReads", name := "foundBase", desc := "(II)I" } : Jvm.MethodName)) ∈ tb := tb_of (List.mem_append_right _ (List.mem_of_getElem? (i := 407) (by decide +kernel))) (by decide +kernel)
theorem tw_408 : (Jvm.Cond.instanceMethod ({ cls := "BinnedReads", name := "foundBase", desc := "(II)I" } : Jvm.MethodName)) ∈ tb := tb_of (List.mem_append_right _ (List.mem_of_getElem? (i := 408) (by decide +kernel))) (by decide +kernel)
theorem tw_409 : (Jvm.Cond.selects "BinnedReads" ({ cls := "BinnedReads", name := "foundBase", desc := "(II)I" } : Jvm.MethodName) ({ cls := "BinnedReads", name := "foundBase", desc := "(II)I" } : Jvm.MethodName)) ∈ tb := tb_of (List.mem_append_right _ (List.mem_of_getElem? (i := 409) (by decide +kernel))) (by decide +kernel)
theorem tw_410 : (Jvm.Cond.code ({ cls := "BinnedReads", name := "foundBase", desc := "(II)I" } : Jvm.MethodName) prog_1_method_15_code (4 : Nat) (Option.some Jvm.ClassFile.FieldType.int)) ∈ tb := tb_of (List.mem_append_right _ (List.mem_of_getElem? (i := 410) (by decide +kernel))) (by decide +kernel)
theorem tw_411 : (Jvm.Cond.classLink "BinnedReadsLaw" (10 : Nat) "BinnedReadsModel") ∈ tb := tb_of (List.mem_append_right _ (List.mem_of_getElem? (i := 411) (by decide +kernel))) (by decide +kernel)
theorem tw_412 : (Jvm.Cond.instantiable "BinnedReadsModel" (23 : Nat)) ∈ tb := tb_of (List.mem_append_right _ (List.mem_of_getElem? (i := 412) (by decide +kernel))) (by decide +kernel)
theorem tw_413 : (Jvm.Cond.methodLink "BinnedReadsLaw" (12 : Nat) ({ cls := "BinnedReadsModel", name := "<init>", desc := "()V" } : Jvm.MethodName)) ∈ tb := tb_of (List.mem_append_right _ (List.mem_of_getElem? (i := 413) (by decide +kernel))) (by decide +kernel)
theorem tw_414 : (Jvm.Cond.instanceMethod ({ cls := "BinnedReadsModel", name := "<init>", desc := "()V" } : Jvm.MethodName)) ∈ tb := tb_of (List.mem_append_right _ (List.mem_of_getElem? (i := 414) (by decide +kernel))) (by decide +kernel)
theorem tw_415 : (Jvm.Cond.code ({ cls := "BinnedReadsModel", name := "<init>", desc := "()V" } : Jvm.MethodName) prog_8_method_1_code (1 : Nat) (Option.none : Option Jvm.ClassFile.FieldType)) ∈ tb := tb_of (List.mem_append_right _ (List.mem_of_getElem? (i := 415) (by decide +kernel))) (by decide +kernel)
theorem tw_416 : (Jvm.Cond.methodLink "BinnedReadsModel" (1 : Nat) ({ cls := "java/lang/Object", name := "<init>", desc := "()V" } : Jvm.MethodName)) ∈ tb := tb_of (List.mem_append_right _ (List.mem_of_getElem? (i := 416) (by decide +kernel))) (by decide +kernel)
theorem tw_417 : (Jvm.Cond.fieldLink "BinnedReadsModel" (60 : Nat) "BinnedReadsModel" "ops" "I") ∈ tb := tb_of (List.mem_append_right _ (List.mem_of_getElem? (i := 417) (by decide +kernel))) (by decide +kernel)
theorem tw_418 : (Jvm.Cond.fieldLink "BinnedReadsModel" (7 : Nat) "BinnedReadsModel" "kinds" "[I") ∈ tb := tb_of (List.mem_append_right _ (List.mem_of_getElem? (i := 418) (by decide +kernel))) (by decide +kernel)
theorem tw_419 : (Jvm.Cond.fieldLink "BinnedReadsModel" (13 : Nat) "BinnedReadsModel" "lengths" "[I") ∈ tb := tb_of (List.mem_append_right _ (List.mem_of_getElem? (i := 419) (by decide +kernel))) (by decide +kernel)
theorem tw_420 : (Jvm.Cond.fieldLink "BinnedReadsModel" (63 : Nat) "BinnedReadsModel" "bases" "I") ∈ tb := tb_of (List.mem_append_right _ (List.mem_of_getElem? (i := 420) (by decide +kernel))) (by decide +kernel)
theorem tw_421 : (Jvm.Cond.fieldLink "BinnedReadsModel" (16 : Nat) "BinnedReadsModel" "codes" "[I") ∈ tb := tb_of (List.mem_append_right _ (List.mem_of_getElem? (i := 421) (by decide +kernel))) (by decide +kernel)
theorem tw_422 : (Jvm.Cond.fieldLink "BinnedReadsModel" (70 : Nat) "BinnedReadsModel" "reads" "I") ∈ tb := tb_of (List.mem_append_right _ (List.mem_of_getElem? (i := 422) (by decide +kernel))) (by decide +kernel)
theorem tw_423 : (Jvm.Cond.fieldLink "BinnedReadsModel" (19 : Nat) "BinnedReadsModel" "reference" "[I") ∈ tb := tb_of (List.mem_append_right _ (List.mem_of_getElem? (i := 423) (by decide +kernel))) (by decide +kernel)
theorem tw_424 : (Jvm.Cond.fieldLink "BinnedReadsModel" (22 : Nat) "BinnedReadsModel" "position" "[I") ∈ tb := tb_of (List.mem_append_right _ (List.mem_of_getElem? (i := 424) (by decide +kernel))) (by decide +kernel)
theorem tw_425 : (Jvm.Cond.fieldLink "BinnedReadsModel" (25 : Nat) "BinnedReadsModel" "ends" "[I") ∈ tb := tb_of (List.mem_append_right _ (List.mem_of_getElem? (i := 425) (by decide +kernel))) (by decide +kernel)
theorem tw_426 : (Jvm.Cond.fieldLink "BinnedReadsModel" (28 : Nat) "BinnedReadsModel" "opCount" "[I") ∈ tb := tb_of (List.mem_append_right _ (List.mem_of_getElem? (i := 426) (by decide +kernel))) (by decide +kernel)
theorem tw_427 : (Jvm.Cond.fieldLink "BinnedReadsModel" (31 : Nat) "BinnedReadsModel" "opBytes" "[I") ∈ tb := tb_of (List.mem_append_right _ (List.mem_of_getElem? (i := 427) (by decide +kernel))) (by decide +kernel)
theorem tw_428 : (Jvm.Cond.fieldLink "BinnedReadsModel" (34 : Nat) "BinnedReadsModel" "baseCount" "[I") ∈ tb := tb_of (List.mem_append_right _ (List.mem_of_getElem? (i := 428) (by decide +kernel))) (by decide +kernel)
theorem tw_429 : (Jvm.Cond.fieldLink "BinnedReadsModel" (37 : Nat) "BinnedReadsModel" "baseCodes" "[I") ∈ tb := tb_of (List.mem_append_right _ (List.mem_of_getElem? (i := 429) (by decide +kernel))) (by decide +kernel)
theorem tw_430 : (Jvm.Cond.fieldLink "BinnedReadsModel" (40 : Nat) "BinnedReadsModel" "begins" "[I") ∈ tb := tb_of (List.mem_append_right _ (List.mem_of_getElem? (i := 430) (by decide +kernel))) (by decide +kernel)
theorem tw_431 : (Jvm.Cond.fieldLink "BinnedReadsModel" (66 : Nat) "BinnedReadsModel" "written" "Z") ∈ tb := tb_of (List.mem_append_right _ (List.mem_of_getElem? (i := 431) (by decide +kernel))) (by decide +kernel)
theorem tw_432 : (Jvm.Cond.fieldLink "BinnedReadsModel" (43 : Nat) "BinnedReadsModel" "stream" "[I") ∈ tb := tb_of (List.mem_append_right _ (List.mem_of_getElem? (i := 432) (by decide +kernel))) (by decide +kernel)
theorem tw_433 : (Jvm.Cond.fieldLink "BinnedReadsModel" (80 : Nat) "BinnedReadsModel" "streamed" "I") ∈ tb := tb_of (List.mem_append_right _ (List.mem_of_getElem? (i := 433) (by decide +kernel))) (by decide +kernel)
theorem tw_434 : (Jvm.Cond.fieldLink "BinnedReadsModel" (46 : Nat) "BinnedReadsModel" "disk" "[I") ∈ tb := tb_of (List.mem_append_right _ (List.mem_of_getElem? (i := 434) (by decide +kernel))) (by decide +kernel)
theorem tw_435 : (Jvm.Cond.fieldLink "BinnedReadsModel" (91 : Nat) "BinnedReadsModel" "size" "I") ∈ tb := tb_of (List.mem_append_right _ (List.mem_of_getElem? (i := 435) (by decide +kernel))) (by decide +kernel)
theorem tw_436 : (Jvm.Cond.fieldLink "BinnedReadsModel" (49 : Nat) "BinnedReadsModel" "turned" "I") ∈ tb := tb_of (List.mem_append_right _ (List.mem_of_getElem? (i := 436) (by decide +kernel))) (by decide +kernel)
theorem tw_437 : (Jvm.Cond.fieldLink "BinnedReadsModel" (105 : Nat) "BinnedReadsModel" "finding" "I") ∈ tb := tb_of (List.mem_append_right _ (List.mem_of_getElem? (i := 437) (by decide +kernel))) (by decide +kernel)
theorem tw_438 : (Jvm.Cond.fieldLink "BinnedReadsModel" (108 : Nat) "BinnedReadsModel" "looks" "I") ∈ tb := tb_of (List.mem_append_right _ (List.mem_of_getElem? (i := 438) (by decide +kernel))) (by decide +kernel)
theorem tw_439 : (Jvm.Cond.fieldLink "BinnedReadsModel" (53 : Nat) "BinnedReadsModel" "finds" "[I") ∈ tb := tb_of (List.mem_append_right _ (List.mem_of_getElem? (i := 439) (by decide +kernel))) (by decide +kernel)
theorem tw_487 : (Jvm.Cond.methodLink "BinnedReadsLaw" (17 : Nat) ({ cls := "BinnedReadsModel", name := "op", desc := "(II)Z" } : Jvm.MethodName)) ∈ tb := tb_of (List.mem_append_right _ (List.mem_of_getElem? (i := 487) (by decide +kernel))) (by decide +kernel)
theorem tw_488 : (Jvm.Cond.instanceMethod ({ cls := "BinnedReadsModel", name := "op", desc := "(II)Z" } : Jvm.MethodName)) ∈ tb := tb_of (List.mem_append_right _ (List.mem_of_getElem? (i := 488) (by decide +kernel))) (by decide +kernel)
theorem tw_489 : (Jvm.Cond.selects "BinnedReadsModel" ({ cls := "BinnedReadsModel", name := "op", desc := "(II)Z" } : Jvm.MethodName) ({ cls := "BinnedReadsModel", name := "op", desc := "(II)Z" } : Jvm.MethodName)) ∈ tb := tb_of (List.mem_append_right _ (List.mem_of_getElem? (i := 489) (by decide +kernel))) (by decide +kernel)
theorem tw_490 : (Jvm.Cond.code ({ cls := "BinnedReadsModel", name := "op", desc := "(II)Z" } : Jvm.MethodName) prog_8_method_3_code (3 : Nat) (Option.some Jvm.ClassFile.FieldType.boolean)) ∈ tb := tb_of (List.mem_append_right _ (List.mem_of_getElem? (i := 490) (by decide +kernel))) (by decide +kernel)
theorem tw_491 : (Jvm.Cond.methodLink "BinnedReadsModel" (56 : Nat) ({ cls := "BinnedReadsModel", name := "within", desc := "(III)Z" } : Jvm.MethodName)) ∈ tb := tb_of (List.mem_append_right _ (List.mem_of_getElem? (i := 491) (by decide +kernel))) (by decide +kernel)
theorem tw_492 : (Jvm.Cond.static ({ cls := "BinnedReadsModel", name := "within", desc := "(III)Z" } : Jvm.MethodName)) ∈ tb := tb_of (List.mem_append_right _ (List.mem_of_getElem? (i := 492) (by decide +kernel))) (by decide +kernel)
theorem tw_493 : (Jvm.Cond.code ({ cls := "BinnedReadsModel", name := "within", desc := "(III)Z" } : Jvm.MethodName) prog_8_method_2_code (3 : Nat) (Option.some Jvm.ClassFile.FieldType.boolean)) ∈ tb := tb_of (List.mem_append_right _ (List.mem_of_getElem? (i := 493) (by decide +kernel))) (by decide +kernel)
theorem tw_494 : (Jvm.Cond.methodLink "BinnedReadsLaw" (22 : Nat) ({ cls := "BinnedReadsModel", name := "base", desc := "(I)Z" } : Jvm.MethodName)) ∈ tb := tb_of (List.mem_append_right _ (List.mem_of_getElem? (i := 494) (by decide +kernel))) (by decide +kernel)
theorem tw_495 : (Jvm.Cond.instanceMethod ({ cls := "BinnedReadsModel", name := "base", desc := "(I)Z" } : Jvm.MethodName)) ∈ tb := tb_of (List.mem_append_right _ (List.mem_of_getElem? (i := 495) (by decide +kernel))) (by decide +kernel)
theorem tw_496 : (Jvm.Cond.selects "BinnedReadsModel" ({ cls := "BinnedReadsModel", name := "base", desc := "(I)Z" } : Jvm.MethodName) ({ cls := "BinnedReadsModel", name := "base", desc := "(I)Z" } : Jvm.MethodName)) ∈ tb := tb_of (List.mem_append_right _ (List.mem_of_getElem? (i := 496) (by decide +kernel))) (by decide +kernel)
theorem tw_497 : (Jvm.Cond.code ({ cls := "BinnedReadsModel", name := "base", desc := "(I)Z" } : Jvm.MethodName) prog_8_method_4_code (2 : Nat) (Option.some Jvm.ClassFile.FieldType.boolean)) ∈ tb := tb_of (List.mem_append_right _ (List.mem_of_getElem? (i := 497) (by decide +kernel))) (by decide +kernel)
theorem tw_498 : (Jvm.Cond.methodLink "BinnedReadsLaw" (26 : Nat) ({ cls := "BinnedReadsModel", name := "scrap", desc := "()V" } : Jvm.MethodName)) ∈ tb := tb_of (List.mem_append_right _ (List.mem_of_getElem? (i := 498) (by decide +kernel))) (by decide +kernel)
theorem tw_499 : (Jvm.Cond.instanceMethod ({ cls := "BinnedReadsModel", name := "scrap", desc := "()V" } : Jvm.MethodName)) ∈ tb := tb_of (List.mem_append_right _ (List.mem_of_getElem? (i := 499) (by decide +kernel))) (by decide +kernel)
theorem tw_500 : (Jvm.Cond.selects "BinnedReadsModel" ({ cls := "BinnedReadsModel", name := "scrap", desc := "()V" } : Jvm.MethodName) ({ cls := "BinnedReadsModel", name := "scrap", desc := "()V" } : Jvm.MethodName)) ∈ tb := tb_of (List.mem_append_right _ (List.mem_of_getElem? (i := 500) (by decide +kernel))) (by decide +kernel)
theorem tw_501 : (Jvm.Cond.code ({ cls := "BinnedReadsModel", name := "scrap", desc := "()V" } : Jvm.MethodName) prog_8_method_5_code (1 : Nat) (Option.none : Option Jvm.ClassFile.FieldType)) ∈ tb := tb_of (List.mem_append_right _ (List.mem_of_getElem? (i := 501) (by decide +kernel))) (by decide +kernel)
theorem tw_502 : (Jvm.Cond.methodLink "BinnedReadsLaw" (31 : Nat) ({ cls := "BinnedReadsModel", name := "add", desc := "(II)I" } : Jvm.MethodName)) ∈ tb := tb_of (List.mem_append_right _ (List.mem_of_getElem? (i := 502) (by decide +kernel))) (by decide +kernel)
theorem tw_503 : (Jvm.Cond.instanceMethod ({ cls := "BinnedReadsModel", name := "add", desc := "(II)I" } : Jvm.MethodName)) ∈ tb := tb_of (List.mem_append_right _ (List.mem_of_getElem? (i := 503) (by decide +kernel))) (by decide +kernel)
theorem tw_504 : (Jvm.Cond.selects "BinnedReadsModel" ({ cls := "BinnedReadsModel", name := "add", desc := "(II)I" } : Jvm.MethodName) ({ cls := "BinnedReadsModel", name := "add", desc := "(II)I" } : Jvm.MethodName)) ∈ tb := tb_of (List.mem_append_right _ (List.mem_of_getElem? (i := 504) (by decide +kernel))) (by decide +kernel)
theorem tw_505 : (Jvm.Cond.code ({ cls := "BinnedReadsModel", name := "add", desc := "(II)I" } : Jvm.MethodName) prog_8_method_7_code (6 : Nat) (Option.some Jvm.ClassFile.FieldType.int)) ∈ tb := tb_of (List.mem_append_right _ (List.mem_of_getElem? (i := 505) (by decide +kernel))) (by decide +kernel)
theorem tw_506 : (Jvm.Cond.methodLink "BinnedReadsModel" (73 : Nat) ({ cls := "BinnedReadsModel", name := "sum", desc := "(III)I" } : Jvm.MethodName)) ∈ tb := tb_of (List.mem_append_right _ (List.mem_of_getElem? (i := 506) (by decide +kernel))) (by decide +kernel)
theorem tw_508 : (Jvm.Cond.instanceMethod ({ cls := "BinnedReadsModel", name := "sum", desc := "(III)I" } : Jvm.MethodName)) ∈ tb := tb_of (List.mem_append_right _ (List.mem_of_getElem? (i := 508) (by decide +kernel))) (by decide +kernel)
theorem tw_509 : (Jvm.Cond.code ({ cls := "BinnedReadsModel", name := "sum", desc := "(III)I" } : Jvm.MethodName) prog_8_method_6_code (6 : Nat) (Option.some Jvm.ClassFile.FieldType.int)) ∈ tb := tb_of (List.mem_append_right _ (List.mem_of_getElem? (i := 509) (by decide +kernel))) (by decide +kernel)
theorem tw_510 : (Jvm.Cond.methodLink "BinnedReadsModel" (77 : Nat) ({ cls := "BinnedReadsModel", name := "scrap", desc := "()V" } : Jvm.MethodName)) ∈ tb := tb_of (List.mem_append_right _ (List.mem_of_getElem? (i := 510) (by decide +kernel))) (by decide +kernel)
theorem tw_511 : (Jvm.Cond.methodLink "BinnedReadsLaw" (36 : Nat) ({ cls := "BinnedReadsModel", name := "finish", desc := "()I" } : Jvm.MethodName)) ∈ tb := tb_of (List.mem_append_right _ (List.mem_of_getElem? (i := 511) (by decide +kernel))) (by decide +kernel)
theorem tw_512 : (Jvm.Cond.instanceMethod ({ cls := "BinnedReadsModel", name := "finish", desc := "()I" } : Jvm.MethodName)) ∈ tb := tb_of (List.mem_append_right _ (List.mem_of_getElem? (i := 512) (by decide +kernel))) (by decide +kernel)
theorem tw_513 : (Jvm.Cond.selects "BinnedReadsModel" ({ cls := "BinnedReadsModel", name := "finish", desc := "()I" } : Jvm.MethodName) ({ cls := "BinnedReadsModel", name := "finish", desc := "()I" } : Jvm.MethodName)) ∈ tb := tb_of (List.mem_append_right _ (List.mem_of_getElem? (i := 513) (by decide +kernel))) (by decide +kernel)
theorem tw_514 : (Jvm.Cond.code ({ cls := "BinnedReadsModel", name := "finish", desc := "()I" } : Jvm.MethodName) prog_8_method_13_code (2 : Nat) (Option.some Jvm.ClassFile.FieldType.int)) ∈ tb := tb_of (List.mem_append_right _ (List.mem_of_getElem? (i := 514) (by decide +kernel))) (by decide +kernel)
theorem tw_515 : (Jvm.Cond.methodLink "BinnedReadsModel" (98 : Nat) ({ cls := "BinnedReadsModel", name := "putRead", desc := "(I)V" } : Jvm.MethodName)) ∈ tb := tb_of (List.mem_append_right _ (List.mem_of_getElem? (i := 515) (by decide +kernel))) (by decide +kernel)
theorem tw_517 : (Jvm.Cond.instanceMethod ({ cls := "BinnedReadsModel", name := "putRead", desc := "(I)V" } : Jvm.MethodName)) ∈ tb := tb_of (List.mem_append_right _ (List.mem_of_getElem? (i := 517) (by decide +kernel))) (by decide +kernel)
theorem tw_518 : (Jvm.Cond.code ({ cls := "BinnedReadsModel", name := "putRead", desc := "(I)V" } : Jvm.MethodName) prog_8_method_10_code (5 : Nat) (Option.none : Option Jvm.ClassFile.FieldType)) ∈ tb := tb_of (List.mem_append_right _ (List.mem_of_getElem? (i := 518) (by decide +kernel))) (by decide +kernel)
theorem tw_519 : (Jvm.Cond.methodLink "BinnedReadsModel" (83 : Nat) ({ cls := "BinnedReadsModel", name := "put", desc := "(I)V" } : Jvm.MethodName)) ∈ tb := tb_of (List.mem_append_right _ (List.mem_of_getElem? (i := 519) (by decide +kernel))) (by decide +kernel)
theorem tw_521 : (Jvm.Cond.instanceMethod ({ cls := "BinnedReadsModel", name := "put", desc := "(I)V" } : Jvm.MethodName)) ∈ tb := tb_of (List.mem_append_right _ (List.mem_of_getElem? (i := 521) (by decide +kernel))) (by decide +kernel)
theorem tw_522 : (Jvm.Cond.code ({ cls := "BinnedReadsModel", name := "put", desc := "(I)V" } : Jvm.MethodName) prog_8_method_9_code (2 : Nat) (Option.none : Option Jvm.ClassFile.FieldType)) ∈ tb := tb_of (List.mem_append_right _ (List.mem_of_getElem? (i := 522) (by decide +kernel))) (by decide +kernel)
theorem tw_523 : (Jvm.Cond.methodLink "BinnedReadsModel" (87 : Nat) ({ cls := "BinnedReadsModel", name := "binOf", desc := "(I)I" } : Jvm.MethodName)) ∈ tb := tb_of (List.mem_append_right _ (List.mem_of_getElem? (i := 523) (by decide +kernel))) (by decide +kernel)
theorem tw_525 : (Jvm.Cond.instanceMethod ({ cls := "BinnedReadsModel", name := "binOf", desc := "(I)I" } : Jvm.MethodName)) ∈ tb := tb_of (List.mem_append_right _ (List.mem_of_getElem? (i := 525) (by decide +kernel))) (by decide +kernel)
theorem tw_526 : (Jvm.Cond.code ({ cls := "BinnedReadsModel", name := "binOf", desc := "(I)I" } : Jvm.MethodName) prog_8_method_8_code (4 : Nat) (Option.some Jvm.ClassFile.FieldType.int)) ∈ tb := tb_of (List.mem_append_right _ (List.mem_of_getElem? (i := 526) (by decide +kernel))) (by decide +kernel)
theorem tw_527 : (Jvm.Cond.methodLink "BinnedReadsModel" (101 : Nat) ({ cls := "BinnedReadsModel", name := "storeBlock", desc := "(II)V" } : Jvm.MethodName)) ∈ tb := tb_of (List.mem_append_right _ (List.mem_of_getElem? (i := 527) (by decide +kernel))) (by decide +kernel)
theorem tw_529 : (Jvm.Cond.instanceMethod ({ cls := "BinnedReadsModel", name := "storeBlock", desc := "(II)V" } : Jvm.MethodName)) ∈ tb := tb_of (List.mem_append_right _ (List.mem_of_getElem? (i := 529) (by decide +kernel))) (by decide +kernel)
theorem tw_530 : (Jvm.Cond.code ({ cls := "BinnedReadsModel", name := "storeBlock", desc := "(II)V" } : Jvm.MethodName) prog_8_method_12_code (7 : Nat) (Option.none : Option Jvm.ClassFile.FieldType)) ∈ tb := tb_of (List.mem_append_right _ (List.mem_of_getElem? (i := 530) (by decide +kernel))) (by decide +kernel)
theorem tw_531 : (Jvm.Cond.methodLink "BinnedReadsModel" (94 : Nat) ({ cls := "BinnedReadsModel", name := "store", desc := "(I)V" } : Jvm.MethodName)) ∈ tb := tb_of (List.mem_append_right _ (List.mem_of_getElem? (i := 531) (by decide +kernel))) (by decide +kernel)
theorem tw_533 : (Jvm.Cond.instanceMethod ({ cls := "BinnedReadsModel", name := "store", desc := "(I)V" } : Jvm.MethodName)) ∈ tb := tb_of (List.mem_append_right _ (List.mem_of_getElem? (i := 533) (by decide +kernel))) (by decide +kernel)
theorem tw_534 : (Jvm.Cond.code ({ cls := "BinnedReadsModel", name := "store", desc := "(I)V" } : Jvm.MethodName) prog_8_method_11_code (2 : Nat) (Option.none : Option Jvm.ClassFile.FieldType)) ∈ tb := tb_of (List.mem_append_right _ (List.mem_of_getElem? (i := 534) (by decide +kernel))) (by decide +kernel)
theorem tw_535 : (Jvm.Cond.constant "BinnedReadsModel" (97 : Nat) (-306674912 : Int32)) ∈ tb := tb_of (List.mem_append_right _ (List.mem_of_getElem? (i := 535) (by decide +kernel))) (by decide +kernel)
theorem tw_536 : (Jvm.Cond.methodLink "BinnedReadsLaw" (40 : Nat) ({ cls := "BinnedReadsModel", name := "clear", desc := "()V" } : Jvm.MethodName)) ∈ tb := tb_of (List.mem_append_right _ (List.mem_of_getElem? (i := 536) (by decide +kernel))) (by decide +kernel)
theorem tw_537 : (Jvm.Cond.instanceMethod ({ cls := "BinnedReadsModel", name := "clear", desc := "()V" } : Jvm.MethodName)) ∈ tb := tb_of (List.mem_append_right _ (List.mem_of_getElem? (i := 537) (by decide +kernel))) (by decide +kernel)
theorem tw_538 : (Jvm.Cond.selects "BinnedReadsModel" ({ cls := "BinnedReadsModel", name := "clear", desc := "()V" } : Jvm.MethodName) ({ cls := "BinnedReadsModel", name := "clear", desc := "()V" } : Jvm.MethodName)) ∈ tb := tb_of (List.mem_append_right _ (List.mem_of_getElem? (i := 538) (by decide +kernel))) (by decide +kernel)
theorem tw_539 : (Jvm.Cond.code ({ cls := "BinnedReadsModel", name := "clear", desc := "()V" } : Jvm.MethodName) prog_8_method_14_code (1 : Nat) (Option.none : Option Jvm.ClassFile.FieldType)) ∈ tb := tb_of (List.mem_append_right _ (List.mem_of_getElem? (i := 539) (by decide +kernel))) (by decide +kernel)
theorem tw_540 : (Jvm.Cond.methodLink "BinnedReadsLaw" (44 : Nat) ({ cls := "BinnedReadsModel", name := "turn", desc := "(II)Z" } : Jvm.MethodName)) ∈ tb := tb_of (List.mem_append_right _ (List.mem_of_getElem? (i := 540) (by decide +kernel))) (by decide +kernel)
theorem tw_541 : (Jvm.Cond.instanceMethod ({ cls := "BinnedReadsModel", name := "turn", desc := "(II)Z" } : Jvm.MethodName)) ∈ tb := tb_of (List.mem_append_right _ (List.mem_of_getElem? (i := 541) (by decide +kernel))) (by decide +kernel)
theorem tw_542 : (Jvm.Cond.selects "BinnedReadsModel" ({ cls := "BinnedReadsModel", name := "turn", desc := "(II)Z" } : Jvm.MethodName) ({ cls := "BinnedReadsModel", name := "turn", desc := "(II)Z" } : Jvm.MethodName)) ∈ tb := tb_of (List.mem_append_right _ (List.mem_of_getElem? (i := 542) (by decide +kernel))) (by decide +kernel)
theorem tw_543 : (Jvm.Cond.code ({ cls := "BinnedReadsModel", name := "turn", desc := "(II)Z" } : Jvm.MethodName) prog_8_method_15_code (3 : Nat) (Option.some Jvm.ClassFile.FieldType.boolean)) ∈ tb := tb_of (List.mem_append_right _ (List.mem_of_getElem? (i := 543) (by decide +kernel))) (by decide +kernel)
theorem tw_544 : (Jvm.Cond.methodLink "BinnedReadsLaw" (49 : Nat) ({ cls := "BinnedReadsModel", name := "byteAt", desc := "(I)I" } : Jvm.MethodName)) ∈ tb := tb_of (List.mem_append_right _ (List.mem_of_getElem? (i := 544) (by decide +kernel))) (by decide +kernel)
theorem tw_545 : (Jvm.Cond.instanceMethod ({ cls := "BinnedReadsModel", name := "byteAt", desc := "(I)I" } : Jvm.MethodName)) ∈ tb := tb_of (List.mem_append_right _ (List.mem_of_getElem? (i := 545) (by decide +kernel))) (by decide +kernel)
theorem tw_546 : (Jvm.Cond.selects "BinnedReadsModel" ({ cls := "BinnedReadsModel", name := "byteAt", desc := "(I)I" } : Jvm.MethodName) ({ cls := "BinnedReadsModel", name := "byteAt", desc := "(I)I" } : Jvm.MethodName)) ∈ tb := tb_of (List.mem_append_right _ (List.mem_of_getElem? (i := 546) (by decide +kernel))) (by decide +kernel)
theorem tw_547 : (Jvm.Cond.code ({ cls := "BinnedReadsModel", name := "byteAt", desc := "(I)I" } : Jvm.MethodName) prog_8_method_16_code (2 : Nat) (Option.some Jvm.ClassFile.FieldType.int)) ∈ tb := tb_of (List.mem_append_right _ (List.mem_of_getElem? (i := 547) (by decide +kernel))) (by decide +kernel)
theorem tw_548 : (Jvm.Cond.methodLink "BinnedReadsLaw" (53 : Nat) ({ cls := "BinnedReadsModel", name := "check", desc := "()I" } : Jvm.MethodName)) ∈ tb := tb_of (List.mem_append_right _ (List.mem_of_getElem? (i := 548) (by decide +kernel))) (by decide +kernel)
theorem tw_549 : (Jvm.Cond.instanceMethod ({ cls := "BinnedReadsModel", name := "check", desc := "()I" } : Jvm.MethodName)) ∈ tb := tb_of (List.mem_append_right _ (List.mem_of_getElem? (i := 549) (by decide +kernel))) (by decide +kernel)
theorem tw_550 : (Jvm.Cond.selects "BinnedReadsModel" ({ cls := "BinnedReadsModel", name := "check", desc := "()I" } : Jvm.MethodName) ({ cls := "BinnedReadsModel", name := "check", desc := "()I" } : Jvm.MethodName)) ∈ tb := tb_of (List.mem_append_right _ (List.mem_of_getElem? (i := 550) (by decide +kernel))) (by decide +kernel)
theorem tw_551 : (Jvm.Cond.code ({ cls := "BinnedReadsModel", name := "check", desc := "()I" } : Jvm.MethodName) prog_8_method_17_code (1 : Nat) (Option.some Jvm.ClassFile.FieldType.int)) ∈ tb := tb_of (List.mem_append_right _ (List.mem_of_getElem? (i := 551) (by decide +kernel))) (by decide +kernel)
theorem tw_552 : (Jvm.Cond.methodLink "BinnedReadsLaw" (58 : Nat) ({ cls := "BinnedReadsModel", name := "query", desc := "(III)I" } : Jvm.MethodName)) ∈ tb := tb_of (List.mem_append_right _ (List.mem_of_getElem? (i := 552) (by decide +kernel))) (by decide +kernel)
theorem tw_553 : (Jvm.Cond.instanceMethod ({ cls := "BinnedReadsModel", name := "query", desc := "(III)I" } : Jvm.MethodName)) ∈ tb := tb_of (List.mem_append_right _ (List.mem_of_getElem? (i := 553) (by decide +kernel))) (by decide +kernel)
theorem tw_554 : (Jvm.Cond.selects "BinnedReadsModel" ({ cls := "BinnedReadsModel", name := "query", desc := "(III)I" } : Jvm.MethodName) ({ cls := "BinnedReadsModel", name := "query", desc := "(III)I" } : Jvm.MethodName)) ∈ tb := tb_of (List.mem_append_right _ (List.mem_of_getElem? (i := 554) (by decide +kernel))) (by decide +kernel)
theorem tw_555 : (Jvm.Cond.code ({ cls := "BinnedReadsModel", name := "query", desc := "(III)I" } : Jvm.MethodName) prog_8_method_21_code (8 : Nat) (Option.some Jvm.ClassFile.FieldType.int)) ∈ tb := tb_of (List.mem_append_right _ (List.mem_of_getElem? (i := 555) (by decide +kernel))) (by decide +kernel)
theorem tw_556 : (Jvm.Cond.methodLink "BinnedReadsModel" (111 : Nat) ({ cls := "BinnedReadsModel", name := "firstBehind", desc := "(II)I" } : Jvm.MethodName)) ∈ tb := tb_of (List.mem_append_right _ (List.mem_of_getElem? (i := 556) (by decide +kernel))) (by decide +kernel)
theorem tw_558 : (Jvm.Cond.instanceMethod ({ cls := "BinnedReadsModel", name := "firstBehind", desc := "(II)I" } : Jvm.MethodName)) ∈ tb := tb_of (List.mem_append_right _ (List.mem_of_getElem? (i := 558) (by decide +kernel))) (by decide +kernel)
theorem tw_559 : (Jvm.Cond.code ({ cls := "BinnedReadsModel", name := "firstBehind", desc := "(II)I" } : Jvm.MethodName) prog_8_method_20_code (4 : Nat) (Option.some Jvm.ClassFile.FieldType.int)) ∈ tb := tb_of (List.mem_append_right _ (List.mem_of_getElem? (i := 559) (by decide +kernel))) (by decide +kernel)
theorem tw_560 : (Jvm.Cond.methodLink "BinnedReadsModel" (115 : Nat) ({ cls := "BinnedReadsModel", name := "touches", desc := "(III)Z" } : Jvm.MethodName)) ∈ tb := tb_of (List.mem_append_right _ (List.mem_of_getElem? (i := 560) (by decide +kernel))) (by decide +kernel)
theorem tw_561 : (Jvm.Cond.static ({ cls := "BinnedReadsModel", name := "touches", desc := "(III)Z" } : Jvm.MethodName)) ∈ tb := tb_of (List.mem_append_right _ (List.mem_of_getElem? (i := 561) (by decide +kernel))) (by decide +kernel)
theorem tw_562 : (Jvm.Cond.code ({ cls := "BinnedReadsModel", name := "touches", desc := "(III)Z" } : Jvm.MethodName) prog_8_method_18_code (5 : Nat) (Option.some Jvm.ClassFile.FieldType.boolean)) ∈ tb := tb_of (List.mem_append_right _ (List.mem_of_getElem? (i := 562) (by decide +kernel))) (by decide +kernel)
theorem tw_563 : (Jvm.Cond.methodLink "BinnedReadsModel" (118 : Nat) ({ cls := "BinnedReadsModel", name := "hurt", desc := "(I)Z" } : Jvm.MethodName)) ∈ tb := tb_of (List.mem_append_right _ (List.mem_of_getElem? (i := 563) (by decide +kernel))) (by decide +kernel)
theorem tw_565 : (Jvm.Cond.instanceMethod ({ cls := "BinnedReadsModel", name := "hurt", desc := "(I)Z" } : Jvm.MethodName)) ∈ tb := tb_of (List.mem_append_right _ (List.mem_of_getElem? (i := 565) (by decide +kernel))) (by decide +kernel)
theorem tw_566 : (Jvm.Cond.code ({ cls := "BinnedReadsModel", name := "hurt", desc := "(I)Z" } : Jvm.MethodName) prog_8_method_19_code (3 : Nat) (Option.some Jvm.ClassFile.FieldType.boolean)) ∈ tb := tb_of (List.mem_append_right _ (List.mem_of_getElem? (i := 566) (by decide +kernel))) (by decide +kernel)
theorem tw_567 : (Jvm.Cond.methodLink "BinnedReadsLaw" (62 : Nat) ({ cls := "BinnedReadsModel", name := "looked", desc := "()I" } : Jvm.MethodName)) ∈ tb := tb_of (List.mem_append_right _ (List.mem_of_getElem? (i := 567) (by decide +kernel))) (by decide +kernel)
theorem tw_568 : (Jvm.Cond.instanceMethod ({ cls := "BinnedReadsModel", name := "looked", desc := "()I" } : Jvm.MethodName)) ∈ tb := tb_of (List.mem_append_right _ (List.mem_of_getElem? (i := 568) (by decide +kernel))) (by decide +kernel)
theorem tw_569 : (Jvm.Cond.selects "BinnedReadsModel" ({ cls := "BinnedReadsModel", name := "looked", desc := "()I" } : Jvm.MethodName) ({ cls := "BinnedReadsModel", name := "looked", desc := "()I" } : Jvm.MethodName)) ∈ tb := tb_of (List.mem_append_right _ (List.mem_of_getElem? (i := 569) (by decide +kernel))) (by decide +kernel)
theorem tw_570 : (Jvm.Cond.code ({ cls := "BinnedReadsModel", name := "looked", desc := "()I" } : Jvm.MethodName) prog_8_method_22_code (1 : Nat) (Option.some Jvm.ClassFile.FieldType.int)) ∈ tb := tb_of (List.mem_append_right _ (List.mem_of_getElem? (i := 570) (by decide +kernel))) (by decide +kernel)
theorem tw_571 : (Jvm.Cond.methodLink "BinnedReadsLaw" (66 : Nat) ({ cls := "BinnedReadsModel", name := "found", desc := "(II)I" } : Jvm.MethodName)) ∈ tb := tb_of (List.mem_append_right _ (List.mem_of_getElem? (i := 571) (by decide +kernel))) (by decide +kernel)
theorem tw_572 : (Jvm.Cond.instanceMethod ({ cls := "BinnedReadsModel", name := "found", desc := "(II)I" } : Jvm.MethodName)) ∈ tb := tb_of (List.mem_append_right _ (List.mem_of_getElem? (i := 572) (by decide +kernel))) (by decide +kernel)
theorem tw_573 : (Jvm.Cond.selects "BinnedReadsModel" ({ cls := "BinnedReadsModel", name := "found", desc := "(II)I" } : Jvm.MethodName) ({ cls := "BinnedReadsModel", name := "found", desc := "(II)I" } : Jvm.MethodName)) ∈ tb := tb_of (List.mem_append_right _ (List.mem_of_getElem? (i := 573) (by decide +kernel))) (by decide +kernel)
theorem tw_574 : (Jvm.Cond.code ({ cls := "BinnedReadsModel", name := "found", desc := "(II)I" } : Jvm.MethodName) prog_8_method_23_code (4 : Nat) (Option.some Jvm.ClassFile.FieldType.int)) ∈ tb := tb_of (List.mem_append_right _ (List.mem_of_getElem? (i := 574) (by decide +kernel))) (by decide +kernel)
theorem tw_575 : (Jvm.Cond.methodLink "BinnedReadsLaw" (70 : Nat) ({ cls := "BinnedReadsModel", name := "foundOp", desc := "(II)I" } : Jvm.MethodName)) ∈ tb := tb_of (List.mem_append_right _ (List.mem_of_getElem? (i := 575) (by decide +kernel))) (by decide +kernel)
theorem tw_576 : (Jvm.Cond.instanceMethod ({ cls := "BinnedReadsModel", name := "foundOp", desc := "(II)I" } : Jvm.MethodName)) ∈ tb := tb_of (List.mem_append_right _ (List.mem_of_getElem? (i := 576) (by decide +kernel))) (by decide +kernel)
theorem tw_577 : (Jvm.Cond.selects "BinnedReadsModel" ({ cls := "BinnedReadsModel", name := "foundOp", desc := "(II)I" } : Jvm.MethodName) ({ cls := "BinnedReadsModel", name := "foundOp", desc := "(II)I" } : Jvm.MethodName)) ∈ tb := tb_of (List.mem_append_right _ (List.mem_of_getElem? (i := 577) (by decide +kernel))) (by decide +kernel)
theorem tw_578 : (Jvm.Cond.code ({ cls := "BinnedReadsModel", name := "foundOp", desc := "(II)I" } : Jvm.MethodName) prog_8_method_24_code (3 : Nat) (Option.some Jvm.ClassFile.FieldType.int)) ∈ tb := tb_of (List.mem_append_right _ (List.mem_of_getElem? (i := 578) (by decide +kernel))) (by decide +kernel)
theorem tw_579 : (Jvm.Cond.methodLink "BinnedReadsLaw" (74 : Nat) ({ cls := "BinnedReadsModel", name := "foundBase", desc := "(II)I" } : Jvm.MethodName)) ∈ tb := tb_of (List.mem_append_right _ (List.mem_of_getElem? (i := 579) (by decide +kernel))) (by decide +kernel)
theorem tw_580 : (Jvm.Cond.instanceMethod ({ cls := "BinnedReadsModel", name := "foundBase", desc := "(II)I" } : Jvm.MethodName)) ∈ tb := tb_of (List.mem_append_right _ (List.mem_of_getElem? (i := 580) (by decide +kernel))) (by decide +kernel)
theorem tw_581 : (Jvm.Cond.selects "BinnedReadsModel" ({ cls := "BinnedReadsModel", name := "foundBase", desc := "(II)I" } : Jvm.MethodName) ({ cls := "BinnedReadsModel", name := "foundBase", desc := "(II)I" } : Jvm.MethodName)) ∈ tb := tb_of (List.mem_append_right _ (List.mem_of_getElem? (i := 581) (by decide +kernel))) (by decide +kernel)
theorem tw_582 : (Jvm.Cond.code ({ cls := "BinnedReadsModel", name := "foundBase", desc := "(II)I" } : Jvm.MethodName) prog_8_method_25_code (3 : Nat) (Option.some Jvm.ClassFile.FieldType.int)) ∈ tb := tb_of (List.mem_append_right _ (List.mem_of_getElem? (i := 582) (by decide +kernel))) (by decide +kernel)
theorem ts_0 : Cond.selects "BinnedReads$Stream" ⟨"BinnedReads$Stream", "appendByte", "(I)V"⟩ ⟨"BinnedReads$Stream", "appendByte", "(I)V"⟩ ∈ tb := tb_of (List.mem_append_left _ (List.mem_of_getElem? (i := 0) (by decide +kernel))) (by decide +kernel)
theorem ts_1 : Cond.selects "BinnedReads$Disk" ⟨"BinnedReads$Disk", "appendBlock", "(LBinnedReads$Stream;II)V"⟩ ⟨"BinnedReads$Disk", "appendBlock", "(LBinnedReads$Stream;II)V"⟩ ∈ tb := tb_of (List.mem_append_left _ (List.mem_of_getElem? (i := 1) (by decide +kernel))) (by decide +kernel)
theorem ts_2 : Cond.selects "BinnedReads$Disk" ⟨"BinnedReads$Disk", "appendByte", "(I)V"⟩ ⟨"BinnedReads$Disk", "appendByte", "(I)V"⟩ ∈ tb := tb_of (List.mem_append_left _ (List.mem_of_getElem? (i := 2) (by decide +kernel))) (by decide +kernel)
theorem ts_3 : Cond.selects "BinnedReads$Disk" ⟨"BinnedReads$Disk", "appendNumber", "(II)V"⟩ ⟨"BinnedReads$Disk", "appendNumber", "(II)V"⟩ ∈ tb := tb_of (List.mem_append_left _ (List.mem_of_getElem? (i := 3) (by decide +kernel))) (by decide +kernel)
theorem ts_4 : Cond.selects "BinnedReads$Disk" ⟨"BinnedReads$Disk", "sumOf", "(II)I"⟩ ⟨"BinnedReads$Disk", "sumOf", "(II)I"⟩ ∈ tb := tb_of (List.mem_append_left _ (List.mem_of_getElem? (i := 4) (by decide +kernel))) (by decide +kernel)
theorem ts_5 : Cond.selects "BinnedReads$Disk" ⟨"BinnedReads$Disk", "isSound", "(I)Z"⟩ ⟨"BinnedReads$Disk", "isSound", "(I)Z"⟩ ∈ tb := tb_of (List.mem_append_left _ (List.mem_of_getElem? (i := 5) (by decide +kernel))) (by decide +kernel)
theorem ts_6 : Cond.selects "BinnedReads$Disk" ⟨"BinnedReads$Disk", "numberAt", "(II)I"⟩ ⟨"BinnedReads$Disk", "numberAt", "(II)I"⟩ ∈ tb := tb_of (List.mem_append_left _ (List.mem_of_getElem? (i := 6) (by decide +kernel))) (by decide +kernel)
theorem ts_7 : Cond.selects "BinnedReads$Index" ⟨"BinnedReads$Index", "firstEndingAfter", "(II)I"⟩ ⟨"BinnedReads$Index", "firstEndingAfter", "(II)I"⟩ ∈ tb := tb_of (List.mem_append_left _ (List.mem_of_getElem? (i := 7) (by decide +kernel))) (by decide +kernel)
theorem ts_8 : Cond.selects "BinnedReads" ⟨"BinnedReads", "areChosenSound", "()Z"⟩ ⟨"BinnedReads", "areChosenSound", "()Z"⟩ ∈ tb := tb_of (List.mem_append_left _ (List.mem_of_getElem? (i := 8) (by decide +kernel))) (by decide +kernel)
theorem ts_9 : Cond.selects "BinnedReadsModel" ⟨"BinnedReadsModel", "sum", "(III)I"⟩ ⟨"BinnedReadsModel", "sum", "(III)I"⟩ ∈ tb := tb_of (List.mem_append_left _ (List.mem_of_getElem? (i := 9) (by decide +kernel))) (by decide +kernel)
theorem ts_10 : Cond.selects "BinnedReadsModel" ⟨"BinnedReadsModel", "putRead", "(I)V"⟩ ⟨"BinnedReadsModel", "putRead", "(I)V"⟩ ∈ tb := tb_of (List.mem_append_left _ (List.mem_of_getElem? (i := 10) (by decide +kernel))) (by decide +kernel)
theorem ts_11 : Cond.selects "BinnedReadsModel" ⟨"BinnedReadsModel", "put", "(I)V"⟩ ⟨"BinnedReadsModel", "put", "(I)V"⟩ ∈ tb := tb_of (List.mem_append_left _ (List.mem_of_getElem? (i := 11) (by decide +kernel))) (by decide +kernel)
theorem ts_12 : Cond.selects "BinnedReadsModel" ⟨"BinnedReadsModel", "binOf", "(I)I"⟩ ⟨"BinnedReadsModel", "binOf", "(I)I"⟩ ∈ tb := tb_of (List.mem_append_left _ (List.mem_of_getElem? (i := 12) (by decide +kernel))) (by decide +kernel)
theorem ts_13 : Cond.selects "BinnedReadsModel" ⟨"BinnedReadsModel", "storeBlock", "(II)V"⟩ ⟨"BinnedReadsModel", "storeBlock", "(II)V"⟩ ∈ tb := tb_of (List.mem_append_left _ (List.mem_of_getElem? (i := 13) (by decide +kernel))) (by decide +kernel)
theorem ts_14 : Cond.selects "BinnedReadsModel" ⟨"BinnedReadsModel", "store", "(I)V"⟩ ⟨"BinnedReadsModel", "store", "(I)V"⟩ ∈ tb := tb_of (List.mem_append_left _ (List.mem_of_getElem? (i := 14) (by decide +kernel))) (by decide +kernel)
theorem ts_15 : Cond.selects "BinnedReadsModel" ⟨"BinnedReadsModel", "firstBehind", "(II)I"⟩ ⟨"BinnedReadsModel", "firstBehind", "(II)I"⟩ ∈ tb := tb_of (List.mem_append_left _ (List.mem_of_getElem? (i := 15) (by decide +kernel))) (by decide +kernel)
theorem ts_16 : Cond.selects "BinnedReadsModel" ⟨"BinnedReadsModel", "hurt", "(I)Z"⟩ ⟨"BinnedReadsModel", "hurt", "(I)Z"⟩ ∈ tb := tb_of (List.mem_append_left _ (List.mem_of_getElem? (i := 16) (by decide +kernel))) (by decide +kernel)
abbrev R_Disk : String := "BinnedReads$Disk"
def F_Disk : u_T := fun k => match k with
  | 0 => ("BinnedReads$Disk", "bytes", "[I", true)
  | 1 => ("BinnedReads$Disk", "blockStarts", "[I", true)
  | 2 => ("BinnedReads$Disk", "size", "I", false)
  | 3 => ("BinnedReads$Disk", "blockCount", "I", false)
  | _ => ("BinnedReads$Disk", "turned", "I", false)
def t_Disk : Nat → FieldType := fun k => match k with
  | 0 => .array .int
  | 1 => .array .int
  | 2 => .int
  | 3 => .int
  | _ => .int
theorem n_Disk : ∀ a, a < 5 → ∀ b, b < 5 → a ≠ b → (F_Disk a).2.1 ≠ (F_Disk b).2.1 := by decide +kernel
theorem to_Disk : ∀ k, k < 5 → parseFieldDescriptor (F_Disk k).2.2.1 = some (t_Disk k) := by decide +kernel
set_option maxRecDepth 100000 in
theorem in_Disk : ∀ w ∈ u_ws R_Disk F_Disk 5, w ∈ tb := by decide +kernel
abbrev R_Draft : String := "BinnedReads$Draft"
def F_Draft : u_T := fun k => match k with
  | 0 => ("BinnedReads$Draft", "ops", "[I", true)
  | 1 => ("BinnedReads$Draft", "bases", "[I", true)
  | 2 => ("BinnedReads$Draft", "opCount", "I", false)
  | _ => ("BinnedReads$Draft", "baseCount", "I", false)
def t_Draft : Nat → FieldType := fun k => match k with
  | 0 => .array .int
  | 1 => .array .int
  | 2 => .int
  | _ => .int
theorem n_Draft : ∀ a, a < 4 → ∀ b, b < 4 → a ≠ b → (F_Draft a).2.1 ≠ (F_Draft b).2.1 := by decide +kernel
theorem to_Draft : ∀ k, k < 4 → parseFieldDescriptor (F_Draft k).2.2.1 = some (t_Draft k) := by decide +kernel
set_option maxRecDepth 100000 in
theorem in_Draft : ∀ w ∈ u_ws R_Draft F_Draft 4, w ∈ tb := by decide +kernel
abbrev R_Find : String := "BinnedReads$Finding"
def F_Find : u_T := fun k => match k with
  | 0 => ("BinnedReads$Finding", "rows", "[[I", true)
  | 1 => ("BinnedReads$Finding", "offsets", "[I", true)
  | 2 => ("BinnedReads$Finding", "count", "I", false)
  | _ => ("BinnedReads$Finding", "lookedAt", "I", false)
def t_Find : Nat → FieldType := fun k => match k with
  | 0 => .array (.array .int)
  | 1 => .array .int
  | 2 => .int
  | _ => .int
theorem n_Find : ∀ a, a < 4 → ∀ b, b < 4 → a ≠ b → (F_Find a).2.1 ≠ (F_Find b).2.1 := by decide +kernel
theorem to_Find : ∀ k, k < 4 → parseFieldDescriptor (F_Find k).2.2.1 = some (t_Find k) := by decide +kernel
set_option maxRecDepth 100000 in
theorem in_Find : ∀ w ∈ u_ws R_Find F_Find 4, w ∈ tb := by decide +kernel
abbrev R_Indx : String := "BinnedReads$Index"
def F_Indx : u_T := fun k => match k with
  | 0 => ("BinnedReads$Index", "references", "[I", true)
  | 1 => ("BinnedReads$Index", "positions", "[I", true)
  | 2 => ("BinnedReads$Index", "ends", "[I", true)
  | 3 => ("BinnedReads$Index", "bins", "[I", true)
  | 4 => ("BinnedReads$Index", "starts", "[I", true)
  | 5 => ("BinnedReads$Index", "count", "I", false)
  | 6 => ("BinnedReads$Index", "chosen", "[I", true)
  | _ => ("BinnedReads$Index", "chosenCount", "I", false)
def t_Indx : Nat → FieldType := fun k => match k with
  | 0 => .array .int
  | 1 => .array .int
  | 2 => .array .int
  | 3 => .array .int
  | 4 => .array .int
  | 5 => .int
  | 6 => .array .int
  | _ => .int
theorem n_Indx : ∀ a, a < 8 → ∀ b, b < 8 → a ≠ b → (F_Indx a).2.1 ≠ (F_Indx b).2.1 := by decide +kernel
theorem to_Indx : ∀ k, k < 8 → parseFieldDescriptor (F_Indx k).2.2.1 = some (t_Indx k) := by decide +kernel
set_option maxRecDepth 100000 in
theorem in_Indx : ∀ w ∈ u_ws R_Indx F_Indx 8, w ∈ tb := by decide +kernel
abbrev R_Strm : String := "BinnedReads$Stream"
def F_Strm : u_T := fun k => match k with
  | 0 => ("BinnedReads$Stream", "bytes", "[I", true)
  | _ => ("BinnedReads$Stream", "length", "I", false)
def t_Strm : Nat → FieldType := fun k => match k with
  | 0 => .array .int
  | _ => .int
theorem n_Strm : ∀ a, a < 2 → ∀ b, b < 2 → a ≠ b → (F_Strm a).2.1 ≠ (F_Strm b).2.1 := by decide +kernel
theorem to_Strm : ∀ k, k < 2 → parseFieldDescriptor (F_Strm k).2.2.1 = some (t_Strm k) := by decide +kernel
set_option maxRecDepth 100000 in
theorem in_Strm : ∀ w ∈ u_ws R_Strm F_Strm 2, w ∈ tb := by decide +kernel
abbrev R_BR : String := "BinnedReads"
def F_BR : u_T := fun k => match k with
  | 0 => ("BinnedReads", "draft", "LBinnedReads$Draft;", true)
  | 1 => ("BinnedReads", "stream", "LBinnedReads$Stream;", true)
  | 2 => ("BinnedReads", "index", "LBinnedReads$Index;", true)
  | 3 => ("BinnedReads", "disk", "LBinnedReads$Disk;", true)
  | _ => ("BinnedReads", "finding", "LBinnedReads$Finding;", true)
def t_BR : Nat → FieldType := fun k => match k with
  | 0 => .object "BinnedReads$Draft"
  | 1 => .object "BinnedReads$Stream"
  | 2 => .object "BinnedReads$Index"
  | 3 => .object "BinnedReads$Disk"
  | _ => .object "BinnedReads$Finding"
theorem n_BR : ∀ a, a < 5 → ∀ b, b < 5 → a ≠ b → (F_BR a).2.1 ≠ (F_BR b).2.1 := by decide +kernel
theorem to_BR : ∀ k, k < 5 → parseFieldDescriptor (F_BR k).2.2.1 = some (t_BR k) := by decide +kernel
set_option maxRecDepth 100000 in
theorem in_BR : ∀ w ∈ u_ws R_BR F_BR 5, w ∈ tb := by decide +kernel
abbrev R_Mod : String := "BinnedReadsModel"
def F_Mod : u_T := fun k => match k with
  | 0 => ("BinnedReadsModel", "ops", "I", false)
  | 1 => ("BinnedReadsModel", "kinds", "[I", true)
  | 2 => ("BinnedReadsModel", "lengths", "[I", true)
  | 3 => ("BinnedReadsModel", "bases", "I", false)
  | 4 => ("BinnedReadsModel", "codes", "[I", true)
  | 5 => ("BinnedReadsModel", "reads", "I", false)
  | 6 => ("BinnedReadsModel", "reference", "[I", true)
  | 7 => ("BinnedReadsModel", "position", "[I", true)
  | 8 => ("BinnedReadsModel", "ends", "[I", true)
  | 9 => ("BinnedReadsModel", "opCount", "[I", true)
  | 10 => ("BinnedReadsModel", "opBytes", "[I", true)
  | 11 => ("BinnedReadsModel", "baseCount", "[I", true)
  | 12 => ("BinnedReadsModel", "baseCodes", "[I", true)
  | 13 => ("BinnedReadsModel", "begins", "[I", true)
  | 14 => ("BinnedReadsModel", "written", "Z", false)
  | 15 => ("BinnedReadsModel", "stream", "[I", true)
  | 16 => ("BinnedReadsModel", "streamed", "I", false)
  | 17 => ("BinnedReadsModel", "disk", "[I", true)
  | 18 => ("BinnedReadsModel", "size", "I", false)
  | 19 => ("BinnedReadsModel", "turned", "I", false)
  | 20 => ("BinnedReadsModel", "finding", "I", false)
  | 21 => ("BinnedReadsModel", "looks", "I", false)
  | _ => ("BinnedReadsModel", "finds", "[I", true)
def t_Mod : Nat → FieldType := fun k => match k with
  | 0 => .int
  | 1 => .array .int
  | 2 => .array .int
  | 3 => .int
  | 4 => .array .int
  | 5 => .int
  | 6 => .array .int
  | 7 => .array .int
  | 8 => .array .int
  | 9 => .array .int
  | 10 => .array .int
  | 11 => .array .int
  | 12 => .array .int
  | 13 => .array .int
  | 14 => .boolean
  | 15 => .array .int
  | 16 => .int
  | 17 => .array .int
  | 18 => .int
  | 19 => .int
  | 20 => .int
  | 21 => .int
  | _ => .array .int
theorem n_Mod : ∀ a, a < 23 → ∀ b, b < 23 → a ≠ b → (F_Mod a).2.1 ≠ (F_Mod b).2.1 := by decide +kernel
theorem to_Mod : ∀ k, k < 23 → parseFieldDescriptor (F_Mod k).2.2.1 = some (t_Mod k) := by decide +kernel
set_option maxRecDepth 100000 in
theorem in_Mod : ∀ w ∈ u_ws R_Mod F_Mod 23, w ∈ tb := by decide +kernel
abbrev classes : List vw_C := [(R_Disk, F_Disk, 5), (R_Draft, F_Draft, 4), (R_Find, F_Find, 4), (R_Indx, F_Indx, 8), (R_Strm, F_Strm, 2), (R_BR, F_BR, 5), (R_Mod, F_Mod, 23)]
abbrev R_Law : String := "BinnedReadsLaw"
abbrev b_Disk_init : ByteArray := prog_2_method_1_code
abbrev y_Disk_init : MethodName := ⟨"BinnedReads$Disk", "<init>", "()V"⟩
abbrev w_Disk_init : List Cond := Cond.code y_Disk_init b_Disk_init 1 none :: tb
abbrev b_Disk_empty : ByteArray := prog_2_method_2_code
abbrev y_Disk_empty : MethodName := ⟨"BinnedReads$Disk", "empty", "()V"⟩
abbrev w_Disk_empty : List Cond := Cond.code y_Disk_empty b_Disk_empty 1 none :: tb
abbrev b_Disk_isWritten : ByteArray := prog_2_method_3_code
abbrev y_Disk_isWritten : MethodName := ⟨"BinnedReads$Disk", "isWritten", "()Z"⟩
abbrev w_Disk_isWritten : List Cond := Cond.code y_Disk_isWritten b_Disk_isWritten 1 (some .boolean) :: tb
abbrev b_Disk_write : ByteArray := prog_2_method_4_code
abbrev y_Disk_write : MethodName := ⟨"BinnedReads$Disk", "write", "(LBinnedReads$Stream;)V"⟩
abbrev w_Disk_write : List Cond := Cond.code y_Disk_write b_Disk_write 3 none :: tb
abbrev b_Disk_at : ByteArray := prog_2_method_5_code
abbrev y_Disk_at : MethodName := ⟨"BinnedReads$Disk", "at", "(I)I"⟩
abbrev w_Disk_at : List Cond := Cond.code y_Disk_at b_Disk_at 2 (some .int) :: tb
abbrev b_Disk_turnBit : ByteArray := prog_2_method_6_code
abbrev y_Disk_turnBit : MethodName := ⟨"BinnedReads$Disk", "turnBit", "(II)Z"⟩
abbrev w_Disk_turnBit : List Cond := Cond.code y_Disk_turnBit b_Disk_turnBit 4 (some .boolean) :: tb
abbrev b_Disk_areSound : ByteArray := prog_2_method_7_code
abbrev y_Disk_areSound : MethodName := ⟨"BinnedReads$Disk", "areSound", "(II)Z"⟩
abbrev w_Disk_areSound : List Cond := Cond.code y_Disk_areSound b_Disk_areSound 4 (some .boolean) :: tb
abbrev b_Disk_streamByte : ByteArray := prog_2_method_8_code
abbrev y_Disk_streamByte : MethodName := ⟨"BinnedReads$Disk", "streamByte", "(I)I"⟩
abbrev w_Disk_streamByte : List Cond := Cond.code y_Disk_streamByte b_Disk_streamByte 3 (some .int) :: tb
abbrev b_Disk_offsetOf : ByteArray := prog_2_method_9_code
abbrev y_Disk_offsetOf : MethodName := ⟨"BinnedReads$Disk", "offsetOf", "(I)I"⟩
abbrev w_Disk_offsetOf : List Cond := Cond.code y_Disk_offsetOf b_Disk_offsetOf 3 (some .int) :: tb
abbrev b_Disk_appendBlock : ByteArray := prog_2_method_10_code
abbrev y_Disk_appendBlock : MethodName := ⟨"BinnedReads$Disk", "appendBlock", "(LBinnedReads$Stream;II)V"⟩
abbrev w_Disk_appendBlock : List Cond := Cond.code y_Disk_appendBlock b_Disk_appendBlock 6 none :: tb
abbrev b_Disk_appendNumber : ByteArray := prog_2_method_11_code
abbrev y_Disk_appendNumber : MethodName := ⟨"BinnedReads$Disk", "appendNumber", "(II)V"⟩
abbrev w_Disk_appendNumber : List Cond := Cond.code y_Disk_appendNumber b_Disk_appendNumber 4 none :: tb
abbrev b_Disk_appendByte : ByteArray := prog_2_method_12_code
abbrev y_Disk_appendByte : MethodName := ⟨"BinnedReads$Disk", "appendByte", "(I)V"⟩
abbrev w_Disk_appendByte : List Cond := Cond.code y_Disk_appendByte b_Disk_appendByte 2 none :: tb
abbrev b_Disk_isSound : ByteArray := prog_2_method_13_code
abbrev y_Disk_isSound : MethodName := ⟨"BinnedReads$Disk", "isSound", "(I)Z"⟩
abbrev w_Disk_isSound : List Cond := Cond.code y_Disk_isSound b_Disk_isSound 5 (some .boolean) :: tb
abbrev b_Disk_numberAt : ByteArray := prog_2_method_14_code
abbrev y_Disk_numberAt : MethodName := ⟨"BinnedReads$Disk", "numberAt", "(II)I"⟩
abbrev w_Disk_numberAt : List Cond := Cond.code y_Disk_numberAt b_Disk_numberAt 5 (some .int) :: tb
abbrev b_Disk_sumOf : ByteArray := prog_2_method_15_code
abbrev y_Disk_sumOf : MethodName := ⟨"BinnedReads$Disk", "sumOf", "(II)I"⟩
abbrev w_Disk_sumOf : List Cond := Cond.code y_Disk_sumOf b_Disk_sumOf 6 (some .int) :: tb
abbrev b_Draft_init : ByteArray := prog_3_method_1_code
abbrev y_Draft_init : MethodName := ⟨"BinnedReads$Draft", "<init>", "()V"⟩
abbrev w_Draft_init : List Cond := Cond.code y_Draft_init b_Draft_init 1 none :: tb
abbrev b_Draft_appendOp : ByteArray := prog_3_method_2_code
abbrev y_Draft_appendOp : MethodName := ⟨"BinnedReads$Draft", "appendOp", "(II)Z"⟩
abbrev w_Draft_appendOp : List Cond := Cond.code y_Draft_appendOp b_Draft_appendOp 3 (some .boolean) :: tb
abbrev b_Draft_appendBase : ByteArray := prog_3_method_3_code
abbrev y_Draft_appendBase : MethodName := ⟨"BinnedReads$Draft", "appendBase", "(I)Z"⟩
abbrev w_Draft_appendBase : List Cond := Cond.code y_Draft_appendBase b_Draft_appendBase 2 (some .boolean) :: tb
abbrev b_Draft_empty : ByteArray := prog_3_method_4_code
abbrev y_Draft_empty : MethodName := ⟨"BinnedReads$Draft", "empty", "()V"⟩
abbrev w_Draft_empty : List Cond := Cond.code y_Draft_empty b_Draft_empty 1 none :: tb
abbrev b_Draft_span : ByteArray := prog_3_method_5_code
abbrev y_Draft_span : MethodName := ⟨"BinnedReads$Draft", "span", "()I"⟩
abbrev w_Draft_span : List Cond := Cond.code y_Draft_span b_Draft_span 1 (some .int) :: tb
abbrev b_Draft_width : ByteArray := prog_3_method_6_code
abbrev y_Draft_width : MethodName := ⟨"BinnedReads$Draft", "width", "()I"⟩
abbrev w_Draft_width : List Cond := Cond.code y_Draft_width b_Draft_width 3 (some .int) :: tb
abbrev b_Draft_isRead : ByteArray := prog_3_method_7_code
abbrev y_Draft_isRead : MethodName := ⟨"BinnedReads$Draft", "isRead", "()Z"⟩
abbrev w_Draft_isRead : List Cond := Cond.code y_Draft_isRead b_Draft_isRead 1 (some .boolean) :: tb
abbrev b_Draft_basePair : ByteArray := prog_3_method_8_code
abbrev y_Draft_basePair : MethodName := ⟨"BinnedReads$Draft", "basePair", "(I)I"⟩
abbrev w_Draft_basePair : List Cond := Cond.code y_Draft_basePair b_Draft_basePair 3 (some .int) :: tb
abbrev b_Find_init : ByteArray := prog_4_method_1_code
abbrev y_Find_init : MethodName := ⟨"BinnedReads$Finding", "<init>", "()V"⟩
abbrev w_Find_init : List Cond := Cond.code y_Find_init b_Find_init 1 none :: tb
abbrev b_Find_empty : ByteArray := prog_4_method_2_code
abbrev y_Find_empty : MethodName := ⟨"BinnedReads$Finding", "empty", "()V"⟩
abbrev w_Find_empty : List Cond := Cond.code y_Find_empty b_Find_empty 1 none :: tb
abbrev b_Find_has : ByteArray := prog_4_method_3_code
abbrev y_Find_has : MethodName := ⟨"BinnedReads$Finding", "has", "(I)Z"⟩
abbrev w_Find_has : List Cond := Cond.code y_Find_has b_Find_has 2 (some .boolean) :: tb
abbrev b_Find_append : ByteArray := prog_4_method_4_code
abbrev y_Find_append : MethodName := ⟨"BinnedReads$Finding", "append", "(LBinnedReads$Disk;I)V"⟩
abbrev w_Find_append : List Cond := Cond.code y_Find_append b_Find_append 6 none :: tb
abbrev b_Find_position : ByteArray := prog_4_method_5_code
abbrev y_Find_position : MethodName := ⟨"BinnedReads$Finding", "position", "(I)I"⟩
abbrev w_Find_position : List Cond := Cond.code y_Find_position b_Find_position 2 (some .int) :: tb
abbrev b_Find_end : ByteArray := prog_4_method_6_code
abbrev y_Find_end : MethodName := ⟨"BinnedReads$Finding", "end", "(I)I"⟩
abbrev w_Find_end : List Cond := Cond.code y_Find_end b_Find_end 2 (some .int) :: tb
abbrev b_Find_opCount : ByteArray := prog_4_method_7_code
abbrev y_Find_opCount : MethodName := ⟨"BinnedReads$Finding", "opCount", "(I)I"⟩
abbrev w_Find_opCount : List Cond := Cond.code y_Find_opCount b_Find_opCount 2 (some .int) :: tb
abbrev b_Find_baseCount : ByteArray := prog_4_method_8_code
abbrev y_Find_baseCount : MethodName := ⟨"BinnedReads$Finding", "baseCount", "(I)I"⟩
abbrev w_Find_baseCount : List Cond := Cond.code y_Find_baseCount b_Find_baseCount 2 (some .int) :: tb
abbrev b_Indx_init : ByteArray := prog_5_method_1_code
abbrev y_Indx_init : MethodName := ⟨"BinnedReads$Index", "<init>", "()V"⟩
abbrev w_Indx_init : List Cond := Cond.code y_Indx_init b_Indx_init 1 none :: tb
abbrev b_Indx_empty : ByteArray := prog_5_method_2_code
abbrev y_Indx_empty : MethodName := ⟨"BinnedReads$Index", "empty", "()V"⟩
abbrev w_Indx_empty : List Cond := Cond.code y_Indx_empty b_Indx_empty 1 none :: tb
abbrev b_Indx_isFull : ByteArray := prog_5_method_3_code
abbrev y_Indx_isFull : MethodName := ⟨"BinnedReads$Index", "isFull", "()Z"⟩
abbrev w_Indx_isFull : List Cond := Cond.code y_Indx_isFull b_Indx_isFull 1 (some .boolean) :: tb
abbrev b_Indx_endsBehind : ByteArray := prog_5_method_4_code
abbrev y_Indx_endsBehind : MethodName := ⟨"BinnedReads$Index", "endsBehind", "(II)Z"⟩
abbrev w_Indx_endsBehind : List Cond := Cond.code y_Indx_endsBehind b_Indx_endsBehind 4 (some .boolean) :: tb
abbrev b_Indx_append : ByteArray := prog_5_method_5_code
abbrev y_Indx_append : MethodName := ⟨"BinnedReads$Index", "append", "(IIIII)I"⟩
abbrev w_Indx_append : List Cond := Cond.code y_Indx_append b_Indx_append 6 (some .int) :: tb
abbrev b_Indx_choose : ByteArray := prog_5_method_6_code
abbrev y_Indx_choose : MethodName := ⟨"BinnedReads$Index", "choose", "(III)V"⟩
abbrev w_Indx_choose : List Cond := Cond.code y_Indx_choose b_Indx_choose 6 none :: tb
abbrev b_Indx_overlaps : ByteArray := prog_5_method_7_code
abbrev y_Indx_overlaps : MethodName := ⟨"BinnedReads$Index", "overlaps", "(III)Z"⟩
abbrev w_Indx_overlaps : List Cond := Cond.code y_Indx_overlaps b_Indx_overlaps 4 (some .boolean) :: tb
abbrev b_Indx_firstEndingAfter : ByteArray := prog_5_method_8_code
abbrev y_Indx_firstEndingAfter : MethodName := ⟨"BinnedReads$Index", "firstEndingAfter", "(II)I"⟩
abbrev w_Indx_firstEndingAfter : List Cond := Cond.code y_Indx_firstEndingAfter b_Indx_firstEndingAfter 4 (some .int) :: tb
abbrev b_Strm_init : ByteArray := prog_6_method_1_code
abbrev y_Strm_init : MethodName := ⟨"BinnedReads$Stream", "<init>", "()V"⟩
abbrev w_Strm_init : List Cond := Cond.code y_Strm_init b_Strm_init 1 none :: tb
abbrev b_Strm_empty : ByteArray := prog_6_method_2_code
abbrev y_Strm_empty : MethodName := ⟨"BinnedReads$Stream", "empty", "()V"⟩
abbrev w_Strm_empty : List Cond := Cond.code y_Strm_empty b_Strm_empty 1 none :: tb
abbrev b_Strm_appendRow : ByteArray := prog_6_method_3_code
abbrev y_Strm_appendRow : MethodName := ⟨"BinnedReads$Stream", "appendRow", "(LBinnedReads$Draft;III)V"⟩
abbrev w_Strm_appendRow : List Cond := Cond.code y_Strm_appendRow b_Strm_appendRow 7 none :: tb
abbrev b_Strm_rowLength : ByteArray := prog_6_method_4_code
abbrev y_Strm_rowLength : MethodName := ⟨"BinnedReads$Stream", "rowLength", "(I)I"⟩
abbrev w_Strm_rowLength : List Cond := Cond.code y_Strm_rowLength b_Strm_rowLength 2 (some .int) :: tb
abbrev b_Strm_appendByte : ByteArray := prog_6_method_5_code
abbrev y_Strm_appendByte : MethodName := ⟨"BinnedReads$Stream", "appendByte", "(I)V"⟩
abbrev w_Strm_appendByte : List Cond := Cond.code y_Strm_appendByte b_Strm_appendByte 2 none :: tb
abbrev b_BR_init : ByteArray := prog_1_method_1_code
abbrev y_BR_init : MethodName := ⟨"BinnedReads", "<init>", "()V"⟩
abbrev w_BR_init : List Cond := Cond.code y_BR_init b_BR_init 1 none :: tb
abbrev b_BR_op : ByteArray := prog_1_method_2_code
abbrev y_BR_op : MethodName := ⟨"BinnedReads", "op", "(II)Z"⟩
abbrev w_BR_op : List Cond := Cond.code y_BR_op b_BR_op 3 (some .boolean) :: tb
abbrev b_BR_base : ByteArray := prog_1_method_3_code
abbrev y_BR_base : MethodName := ⟨"BinnedReads", "base", "(I)Z"⟩
abbrev w_BR_base : List Cond := Cond.code y_BR_base b_BR_base 2 (some .boolean) :: tb
abbrev b_BR_scrap : ByteArray := prog_1_method_4_code
abbrev y_BR_scrap : MethodName := ⟨"BinnedReads", "scrap", "()V"⟩
abbrev w_BR_scrap : List Cond := Cond.code y_BR_scrap b_BR_scrap 1 none :: tb
abbrev b_BR_add : ByteArray := prog_1_method_5_code
abbrev y_BR_add : MethodName := ⟨"BinnedReads", "add", "(II)I"⟩
abbrev w_BR_add : List Cond := Cond.code y_BR_add b_BR_add 6 (some .int) :: tb
abbrev b_BR_finish : ByteArray := prog_1_method_6_code
abbrev y_BR_finish : MethodName := ⟨"BinnedReads", "finish", "()I"⟩
abbrev w_BR_finish : List Cond := Cond.code y_BR_finish b_BR_finish 1 (some .int) :: tb
abbrev b_BR_clear : ByteArray := prog_1_method_7_code
abbrev y_BR_clear : MethodName := ⟨"BinnedReads", "clear", "()V"⟩
abbrev w_BR_clear : List Cond := Cond.code y_BR_clear b_BR_clear 1 none :: tb
abbrev b_BR_turn : ByteArray := prog_1_method_8_code
abbrev y_BR_turn : MethodName := ⟨"BinnedReads", "turn", "(II)Z"⟩
abbrev w_BR_turn : List Cond := Cond.code y_BR_turn b_BR_turn 3 (some .boolean) :: tb
abbrev b_BR_byteAt : ByteArray := prog_1_method_9_code
abbrev y_BR_byteAt : MethodName := ⟨"BinnedReads", "byteAt", "(I)I"⟩
abbrev w_BR_byteAt : List Cond := Cond.code y_BR_byteAt b_BR_byteAt 2 (some .int) :: tb
abbrev b_BR_check : ByteArray := prog_1_method_10_code
abbrev y_BR_check : MethodName := ⟨"BinnedReads", "check", "()I"⟩
abbrev w_BR_check : List Cond := Cond.code y_BR_check b_BR_check 1 (some .int) :: tb
abbrev b_BR_query : ByteArray := prog_1_method_11_code
abbrev y_BR_query : MethodName := ⟨"BinnedReads", "query", "(III)I"⟩
abbrev w_BR_query : List Cond := Cond.code y_BR_query b_BR_query 6 (some .int) :: tb
abbrev b_BR_looked : ByteArray := prog_1_method_12_code
abbrev y_BR_looked : MethodName := ⟨"BinnedReads", "looked", "()I"⟩
abbrev w_BR_looked : List Cond := Cond.code y_BR_looked b_BR_looked 1 (some .int) :: tb
abbrev b_BR_found : ByteArray := prog_1_method_13_code
abbrev y_BR_found : MethodName := ⟨"BinnedReads", "found", "(II)I"⟩
abbrev w_BR_found : List Cond := Cond.code y_BR_found b_BR_found 3 (some .int) :: tb
abbrev b_BR_foundOp : ByteArray := prog_1_method_14_code
abbrev y_BR_foundOp : MethodName := ⟨"BinnedReads", "foundOp", "(II)I"⟩
abbrev w_BR_foundOp : List Cond := Cond.code y_BR_foundOp b_BR_foundOp 3 (some .int) :: tb
abbrev b_BR_foundBase : ByteArray := prog_1_method_15_code
abbrev y_BR_foundBase : MethodName := ⟨"BinnedReads", "foundBase", "(II)I"⟩
abbrev w_BR_foundBase : List Cond := Cond.code y_BR_foundBase b_BR_foundBase 4 (some .int) :: tb
abbrev b_BR_areChosenSound : ByteArray := prog_1_method_16_code
abbrev y_BR_areChosenSound : MethodName := ⟨"BinnedReads", "areChosenSound", "()Z"⟩
abbrev w_BR_areChosenSound : List Cond := Cond.code y_BR_areChosenSound b_BR_areChosenSound 6 (some .boolean) :: tb
abbrev b_BR_isReference : ByteArray := prog_1_method_17_code
abbrev y_BR_isReference : MethodName := ⟨"BinnedReads", "isReference", "(I)Z"⟩
abbrev w_BR_isReference : List Cond := Cond.code y_BR_isReference b_BR_isReference 1 (some .boolean) :: tb
abbrev b_BR_isRegion : ByteArray := prog_1_method_18_code
abbrev y_BR_isRegion : MethodName := ⟨"BinnedReads", "isRegion", "(III)Z"⟩
abbrev w_BR_isRegion : List Cond := Cond.code y_BR_isRegion b_BR_isRegion 3 (some .boolean) :: tb
abbrev b_BR_binOf : ByteArray := prog_1_method_19_code
abbrev y_BR_binOf : MethodName := ⟨"BinnedReads", "binOf", "(II)I"⟩
abbrev w_BR_binOf : List Cond := Cond.code y_BR_binOf b_BR_binOf 3 (some .int) :: tb
abbrev b_BR_binMeets : ByteArray := prog_1_method_20_code
abbrev y_BR_binMeets : MethodName := ⟨"BinnedReads", "binMeets", "(III)Z"⟩
abbrev w_BR_binMeets : List Cond := Cond.code y_BR_binMeets b_BR_binMeets 5 (some .boolean) :: tb
abbrev b_BR_kindOf : ByteArray := prog_1_method_21_code
abbrev y_BR_kindOf : MethodName := ⟨"BinnedReads", "kindOf", "(I)I"⟩
abbrev w_BR_kindOf : List Cond := Cond.code y_BR_kindOf b_BR_kindOf 1 (some .int) :: tb
abbrev b_BR_lengthOf : ByteArray := prog_1_method_22_code
abbrev y_BR_lengthOf : MethodName := ⟨"BinnedReads", "lengthOf", "(I)I"⟩
abbrev w_BR_lengthOf : List Cond := Cond.code y_BR_lengthOf b_BR_lengthOf 1 (some .int) :: tb
abbrev b_BR_spanOf : ByteArray := prog_1_method_23_code
abbrev y_BR_spanOf : MethodName := ⟨"BinnedReads", "spanOf", "([III)I"⟩
abbrev w_BR_spanOf : List Cond := Cond.code y_BR_spanOf b_BR_spanOf 6 (some .int) :: tb
abbrev b_Mod_init : ByteArray := prog_8_method_1_code
abbrev y_Mod_init : MethodName := ⟨"BinnedReadsModel", "<init>", "()V"⟩
abbrev w_Mod_init : List Cond := Cond.code y_Mod_init b_Mod_init 1 none :: tb
abbrev b_Mod_within : ByteArray := prog_8_method_2_code
abbrev y_Mod_within : MethodName := ⟨"BinnedReadsModel", "within", "(III)Z"⟩
abbrev w_Mod_within : List Cond := Cond.code y_Mod_within b_Mod_within 3 (some .boolean) :: tb
abbrev b_Mod_op : ByteArray := prog_8_method_3_code
abbrev y_Mod_op : MethodName := ⟨"BinnedReadsModel", "op", "(II)Z"⟩
abbrev w_Mod_op : List Cond := Cond.code y_Mod_op b_Mod_op 3 (some .boolean) :: tb
abbrev b_Mod_base : ByteArray := prog_8_method_4_code
abbrev y_Mod_base : MethodName := ⟨"BinnedReadsModel", "base", "(I)Z"⟩
abbrev w_Mod_base : List Cond := Cond.code y_Mod_base b_Mod_base 2 (some .boolean) :: tb
abbrev b_Mod_scrap : ByteArray := prog_8_method_5_code
abbrev y_Mod_scrap : MethodName := ⟨"BinnedReadsModel", "scrap", "()V"⟩
abbrev w_Mod_scrap : List Cond := Cond.code y_Mod_scrap b_Mod_scrap 1 none :: tb
abbrev b_Mod_sum : ByteArray := prog_8_method_6_code
abbrev y_Mod_sum : MethodName := ⟨"BinnedReadsModel", "sum", "(III)I"⟩
abbrev w_Mod_sum : List Cond := Cond.code y_Mod_sum b_Mod_sum 6 (some .int) :: tb
abbrev b_Mod_add : ByteArray := prog_8_method_7_code
abbrev y_Mod_add : MethodName := ⟨"BinnedReadsModel", "add", "(II)I"⟩
abbrev w_Mod_add : List Cond := Cond.code y_Mod_add b_Mod_add 6 (some .int) :: tb
abbrev b_Mod_binOf : ByteArray := prog_8_method_8_code
abbrev y_Mod_binOf : MethodName := ⟨"BinnedReadsModel", "binOf", "(I)I"⟩
abbrev w_Mod_binOf : List Cond := Cond.code y_Mod_binOf b_Mod_binOf 4 (some .int) :: tb
abbrev b_Mod_put : ByteArray := prog_8_method_9_code
abbrev y_Mod_put : MethodName := ⟨"BinnedReadsModel", "put", "(I)V"⟩
abbrev w_Mod_put : List Cond := Cond.code y_Mod_put b_Mod_put 2 none :: tb
abbrev b_Mod_putRead : ByteArray := prog_8_method_10_code
abbrev y_Mod_putRead : MethodName := ⟨"BinnedReadsModel", "putRead", "(I)V"⟩
abbrev w_Mod_putRead : List Cond := Cond.code y_Mod_putRead b_Mod_putRead 5 none :: tb
abbrev b_Mod_store : ByteArray := prog_8_method_11_code
abbrev y_Mod_store : MethodName := ⟨"BinnedReadsModel", "store", "(I)V"⟩
abbrev w_Mod_store : List Cond := Cond.code y_Mod_store b_Mod_store 2 none :: tb
abbrev b_Mod_storeBlock : ByteArray := prog_8_method_12_code
abbrev y_Mod_storeBlock : MethodName := ⟨"BinnedReadsModel", "storeBlock", "(II)V"⟩
abbrev w_Mod_storeBlock : List Cond := Cond.code y_Mod_storeBlock b_Mod_storeBlock 7 none :: tb
abbrev b_Mod_finish : ByteArray := prog_8_method_13_code
abbrev y_Mod_finish : MethodName := ⟨"BinnedReadsModel", "finish", "()I"⟩
abbrev w_Mod_finish : List Cond := Cond.code y_Mod_finish b_Mod_finish 2 (some .int) :: tb
abbrev b_Mod_clear : ByteArray := prog_8_method_14_code
abbrev y_Mod_clear : MethodName := ⟨"BinnedReadsModel", "clear", "()V"⟩
abbrev w_Mod_clear : List Cond := Cond.code y_Mod_clear b_Mod_clear 1 none :: tb
abbrev b_Mod_turn : ByteArray := prog_8_method_15_code
abbrev y_Mod_turn : MethodName := ⟨"BinnedReadsModel", "turn", "(II)Z"⟩
abbrev w_Mod_turn : List Cond := Cond.code y_Mod_turn b_Mod_turn 3 (some .boolean) :: tb
abbrev b_Mod_byteAt : ByteArray := prog_8_method_16_code
abbrev y_Mod_byteAt : MethodName := ⟨"BinnedReadsModel", "byteAt", "(I)I"⟩
abbrev w_Mod_byteAt : List Cond := Cond.code y_Mod_byteAt b_Mod_byteAt 2 (some .int) :: tb
abbrev b_Mod_check : ByteArray := prog_8_method_17_code
abbrev y_Mod_check : MethodName := ⟨"BinnedReadsModel", "check", "()I"⟩
abbrev w_Mod_check : List Cond := Cond.code y_Mod_check b_Mod_check 1 (some .int) :: tb
abbrev b_Mod_touches : ByteArray := prog_8_method_18_code
abbrev y_Mod_touches : MethodName := ⟨"BinnedReadsModel", "touches", "(III)Z"⟩
abbrev w_Mod_touches : List Cond := Cond.code y_Mod_touches b_Mod_touches 5 (some .boolean) :: tb
abbrev b_Mod_hurt : ByteArray := prog_8_method_19_code
abbrev y_Mod_hurt : MethodName := ⟨"BinnedReadsModel", "hurt", "(I)Z"⟩
abbrev w_Mod_hurt : List Cond := Cond.code y_Mod_hurt b_Mod_hurt 3 (some .boolean) :: tb
abbrev b_Mod_firstBehind : ByteArray := prog_8_method_20_code
abbrev y_Mod_firstBehind : MethodName := ⟨"BinnedReadsModel", "firstBehind", "(II)I"⟩
abbrev w_Mod_firstBehind : List Cond := Cond.code y_Mod_firstBehind b_Mod_firstBehind 4 (some .int) :: tb
abbrev b_Mod_query : ByteArray := prog_8_method_21_code
abbrev y_Mod_query : MethodName := ⟨"BinnedReadsModel", "query", "(III)I"⟩
abbrev w_Mod_query : List Cond := Cond.code y_Mod_query b_Mod_query 8 (some .int) :: tb
abbrev b_Mod_looked : ByteArray := prog_8_method_22_code
abbrev y_Mod_looked : MethodName := ⟨"BinnedReadsModel", "looked", "()I"⟩
abbrev w_Mod_looked : List Cond := Cond.code y_Mod_looked b_Mod_looked 1 (some .int) :: tb
abbrev b_Mod_found : ByteArray := prog_8_method_23_code
abbrev y_Mod_found : MethodName := ⟨"BinnedReadsModel", "found", "(II)I"⟩
abbrev w_Mod_found : List Cond := Cond.code y_Mod_found b_Mod_found 4 (some .int) :: tb
abbrev b_Mod_foundOp : ByteArray := prog_8_method_24_code
abbrev y_Mod_foundOp : MethodName := ⟨"BinnedReadsModel", "foundOp", "(II)I"⟩
abbrev w_Mod_foundOp : List Cond := Cond.code y_Mod_foundOp b_Mod_foundOp 3 (some .int) :: tb
abbrev b_Mod_foundBase : ByteArray := prog_8_method_25_code
abbrev y_Mod_foundBase : MethodName := ⟨"BinnedReadsModel", "foundBase", "(II)I"⟩
abbrev w_Mod_foundBase : List Cond := Cond.code y_Mod_foundBase b_Mod_foundBase 3 (some .int) :: tb
abbrev b_Law_law : ByteArray := code
abbrev y_Law_law : MethodName := ⟨"BinnedReadsLaw", "law", "([I)Z"⟩
end
section
/-! base: ints as mathematical integers, rows over them, the shape of every contract, calls -/
-- ints
def iI (a : Int) : Int32 := Int32.ofInt a
theorem iI_ti {a : Int} (h : -2147483648 ≤ a ∧ a < 2147483648) : (iI a).toInt = a := Int32.toInt_ofInt_of_le (by omega) (by omega)
theorem iI_of (x : Int32) : x = iI x.toInt := (Int32.ofInt_toInt x).symm
theorem iI_rg (x : Int32) : -2147483648 ≤ x.toInt ∧ x.toInt < 2147483648 := by
  have h1 := Int32.le_toInt x
  have h2 := Int32.toInt_lt x
  omega
theorem iI_add (a b : Int) : iI a + iI b = iI (a + b) := (Int32.ofInt_add a b).symm
theorem iI_sub (a b : Int) : iI a - iI b = iI (a - b) := (Int32.ofInt_sub a b).symm
theorem iI_mul (a b : Int) : iI a * iI b = iI (a * b) := (Int32.ofInt_mul a b).symm
theorem iI_lt {a b : Int} (ha : -2147483648 ≤ a ∧ a < 2147483648) (hb : -2147483648 ≤ b ∧ b < 2147483648) : iI a < iI b ↔ a < b := by rw [Int32.lt_iff_toInt_lt, iI_ti ha, iI_ti hb]
theorem iI_le {a b : Int} (ha : -2147483648 ≤ a ∧ a < 2147483648) (hb : -2147483648 ≤ b ∧ b < 2147483648) : iI a ≤ iI b ↔ a ≤ b := by rw [Int32.le_iff_toInt_le, iI_ti ha, iI_ti hb]
theorem iI_eq {a b : Int} (ha : -2147483648 ≤ a ∧ a < 2147483648) (hb : -2147483648 ≤ b ∧ b < 2147483648) : iI a = iI b ↔ a = b := by rw [← Int32.toInt_inj, iI_ti ha, iI_ti hb]
theorem iI_0 : (0 : Int32) = iI 0 := by decide
theorem iI_div {a b : Int} (ha : 0 ≤ a ∧ a < 2147483648) (hb : 0 < b ∧ b < 2147483648) : iI a / iI b = iI (a / b) := by
  have h1 : Int32.minValue.toInt = -2147483648 := by decide
  have h2 : Int32.maxValue.toInt = 2147483647 := by decide
  rw [← Int.tdiv_eq_ediv_of_nonneg ha.1]
  exact (Int32.ofInt_tdiv (by omega) (by omega) (by omega) (by omega)).symm
theorem iI_rem {a b : Int} (ha : 0 ≤ a ∧ a < 2147483648) (hb : 0 < b ∧ b < 2147483648) : iI a - iI a / iI b * iI b = iI (a % b) := by
  rw [iI_div ha hb, iI_mul, iI_sub, Int.emod_def, Int.mul_comm b]
theorem iI_cl {a : Int} {j : Nat} (hj : a = j) (h : j < 2147483648) : (iI a).toNatClampNeg = j := by
  rw [← Int32.toNat_toInt, iI_ti (by omega)]
  omega
theorem iI_in {a : Int} {j n : Nat} (hj : a = j) (h : j < n) (hn : n ≤ 2147483647) : vp_in (iI a) n := by
  rw [vp_in_iff, iI_ti (by omega)]
  omega
theorem iI_ne0 {b : Int} (hb : 0 < b ∧ b < 2147483648) : ¬ iI b = 0 := fun h => by
  rw [iI_0, iI_eq (by omega) (by omega)] at h
  omega
/-- truth values -/
def bI (b : Bool) : Int := if b then 1 else 0
theorem bI_rg (b : Bool) : 0 ≤ bI b ∧ bI b ≤ 1 := by cases b <;> decide
theorem bI_nar (b : Bool) : narrow .boolean (.int (iI (bI b))) = .int (iI (bI b)) := by cases b <;> decide +kernel
theorem iI_nar0 : narrow .boolean (.int (iI 0)) = .int (iI 0) := by decide +kernel
theorem iI_nar1 : narrow .boolean (.int (iI 1)) = .int (iI 1) := by decide +kernel
theorem nar01 {r : Int} (h : r = 0 ∨ r = 1) : narrow .boolean (.int (iI r)) = .int (iI r) := by
  rcases h with rfl | rfl
  · exact iI_nar0
  · exact iI_nar1
-- arrays of ints
def bU (F : Nat → Int) (k : Nat) (v : Int) : Nat → Int := fun j => if j = k then v else F j
theorem bU_s {F : Nat → Int} {k : Nat} {v : Int} : bU F k v k = v := if_pos rfl
theorem bU_n {F : Nat → Int} {k j : Nat} {v : Int} (h : j ≠ k) : bU F k v j = F j := if_neg h
theorem bU_upd (F : Nat → Int) (k : Nat) (v : Int) : upd (fun j => iI (F j)) k (iI v) = fun j => iI (bU F k v j) := by
  funext j
  by_cases h : j = k
  · subst h
    simp [upd, bU]
  · simp [upd, bU, h]
abbrev ar (cA : ClassId) (n : Nat) (F : Nat → Int) : va_E := .inl (cA, n, .inl (fun j => iI (F j)))
/-- an array of references -/
abbrev aq (cA : ClassId) (n : Nat) (f : Nat → Option Nat) : va_E := .inl (cA, n, .inr (.inr (.inr (.inr f))))
section BKR
variable {p : Program} {l : Launch} {e : Env} {R : Room} {s : State} {m : MethodId} {args : Array Value} {below : List Frame} {meth : Method} {c : Code} {H : Heap} {locs : List Loc} {cells slots : Nat} {Q : State → Prop}
variable {cc : ByteArray} {pc : Nat} {ls : Array Slot} {rest : List Value} {D : va_G} {cl : List vw_C} {A : Nat → Prop} {q : Nat} {tys : List (ClassId × FieldType)} {ws : va_W} {H0 : Heap} {a b off : Int} {tgt : Nat}
theorem bk_top {x y : Int32} (h : x = y) (k : W p l e R s m args below meth c H locs cells slots Q (F0 m pc ls (.int y :: rest))) : W p l e R s m args below meth c H locs cells slots Q (F0 m pc ls (.int x :: rest)) := by
  rw [h]
  exact k
theorem bk_add (hx : p.tables.exec = Jvm.exec) (hb : c.code = cc) (hdg : decode cc pc = .ok (.iadd, 1)) (k : W p l e R s m args below meth c H locs cells slots Q (F0 m (pc + 1) ls (.int (iI (a + b)) :: rest))) : W p l e R s m args below meth c H locs cells slots Q (F0 m pc ls (.int (iI b) :: .int (iI a) :: rest)) := lv_iadd hx hb hdg (bk_top (iI_add a b) k)
theorem bk_sub (hx : p.tables.exec = Jvm.exec) (hb : c.code = cc) (hdg : decode cc pc = .ok (.isub, 1)) (k : W p l e R s m args below meth c H locs cells slots Q (F0 m (pc + 1) ls (.int (iI (a - b)) :: rest))) : W p l e R s m args below meth c H locs cells slots Q (F0 m pc ls (.int (iI b) :: .int (iI a) :: rest)) := lv_isub hx hb hdg (bk_top (iI_sub a b) k)
theorem bk_mul (hx : p.tables.exec = Jvm.exec) (hb : c.code = cc) (hdg : decode cc pc = .ok (.imul, 1)) (k : W p l e R s m args below meth c H locs cells slots Q (F0 m (pc + 1) ls (.int (iI (a * b)) :: rest))) : W p l e R s m args below meth c H locs cells slots Q (F0 m pc ls (.int (iI b) :: .int (iI a) :: rest)) := lv_imul hx hb hdg (bk_top (iI_mul a b) k)
theorem bk_div (hx : p.tables.exec = Jvm.exec) (hb : c.code = cc) (hdg : decode cc pc = .ok (.idiv, 1)) (h1 : 0 ≤ a ∧ a < 2147483648) (h2 : 0 < b ∧ b < 2147483648) (k : W p l e R s m args below meth c H locs cells slots Q (F0 m (pc + 1) ls (.int (iI (a / b)) :: rest))) : W p l e R s m args below meth c H locs cells slots Q (F0 m pc ls (.int (iI b) :: .int (iI a) :: rest)) := lv_idiv hx hb hdg (iI_ne0 h2) (bk_top (iI_div h1 h2) k)
theorem bk_rem (hx : p.tables.exec = Jvm.exec) (hb : c.code = cc) (hdg : decode cc pc = .ok (.irem, 1)) (h1 : 0 ≤ a ∧ a < 2147483648) (h2 : 0 < b ∧ b < 2147483648) (k : W p l e R s m args below meth c H locs cells slots Q (F0 m (pc + 1) ls (.int (iI (a % b)) :: rest))) : W p l e R s m args below meth c H locs cells slots Q (F0 m pc ls (.int (iI b) :: .int (iI a) :: rest)) := lv_irem hx hb hdg (iI_ne0 h2) (bk_top (iI_rem h1 h2) k)
theorem bk_icmp_lt (hx : p.tables.exec = Jvm.exec) (hb : c.code = cc) (hdg : decode cc pc = .ok (.if_icmp .lt off, 3)) (ht : (pc : Int) + off = (tgt : Int)) (h1 : -2147483648 ≤ a ∧ a < 2147483648) (h2 : -2147483648 ≤ b ∧ b < 2147483648) (kt : a < b → W p l e R s m args below meth c H locs cells slots Q (F0 m tgt ls rest)) (kf : b ≤ a → W p l e R s m args below meth c H locs cells slots Q (F0 m (pc + 3) ls rest)) : W p l e R s m args below meth c H locs cells slots Q (F0 m pc ls (.int (iI b) :: .int (iI a) :: rest)) := lv_icmp_lt hx hb hdg ht (fun h => kt ((iI_lt h1 h2).mp h)) (fun h => kf (Int.not_lt.mp fun q => h ((iI_lt h1 h2).mpr q)))
theorem bk_icmp_ge (hx : p.tables.exec = Jvm.exec) (hb : c.code = cc) (hdg : decode cc pc = .ok (.if_icmp .ge off, 3)) (ht : (pc : Int) + off = (tgt : Int)) (h1 : -2147483648 ≤ a ∧ a < 2147483648) (h2 : -2147483648 ≤ b ∧ b < 2147483648) (kt : b ≤ a → W p l e R s m args below meth c H locs cells slots Q (F0 m tgt ls rest)) (kf : a < b → W p l e R s m args below meth c H locs cells slots Q (F0 m (pc + 3) ls rest)) : W p l e R s m args below meth c H locs cells slots Q (F0 m pc ls (.int (iI b) :: .int (iI a) :: rest)) := lv_icmp_ge hx hb hdg ht (fun h => kt ((iI_le h2 h1).mp h)) (fun h => kf (Int.not_le.mp fun q => h ((iI_le h2 h1).mpr q)))
theorem bk_icmp_gt (hx : p.tables.exec = Jvm.exec) (hb : c.code = cc) (hdg : decode cc pc = .ok (.if_icmp .gt off, 3)) (ht : (pc : Int) + off = (tgt : Int)) (h1 : -2147483648 ≤ a ∧ a < 2147483648) (h2 : -2147483648 ≤ b ∧ b < 2147483648) (kt : b < a → W p l e R s m args below meth c H locs cells slots Q (F0 m tgt ls rest)) (kf : a ≤ b → W p l e R s m args below meth c H locs cells slots Q (F0 m (pc + 3) ls rest)) : W p l e R s m args below meth c H locs cells slots Q (F0 m pc ls (.int (iI b) :: .int (iI a) :: rest)) := lv_icmp_gt hx hb hdg ht (fun h => kt ((iI_lt h2 h1).mp h)) (fun h => kf (Int.not_lt.mp fun q => h ((iI_lt h2 h1).mpr q)))
theorem bk_icmp_le (hx : p.tables.exec = Jvm.exec) (hb : c.code = cc) (hdg : decode cc pc = .ok (.if_icmp .le off, 3)) (ht : (pc : Int) + off = (tgt : Int)) (h1 : -2147483648 ≤ a ∧ a < 2147483648) (h2 : -2147483648 ≤ b ∧ b < 2147483648) (kt : a ≤ b → W p l e R s m args below meth c H locs cells slots Q (F0 m tgt ls rest)) (kf : b < a → W p l e R s m args below meth c H locs cells slots Q (F0 m (pc + 3) ls rest)) : W p l e R s m args below meth c H locs cells slots Q (F0 m pc ls (.int (iI b) :: .int (iI a) :: rest)) := lv_icmp_le hx hb hdg ht (fun h => kt ((iI_le h1 h2).mp h)) (fun h => kf (Int.not_le.mp fun q => h ((iI_le h1 h2).mpr q)))
theorem bk_icmp_eq (hx : p.tables.exec = Jvm.exec) (hb : c.code = cc) (hdg : decode cc pc = .ok (.if_icmp .eq off, 3)) (ht : (pc : Int) + off = (tgt : Int)) (h1 : -2147483648 ≤ a ∧ a < 2147483648) (h2 : -2147483648 ≤ b ∧ b < 2147483648) (kt : a = b → W p l e R s m args below meth c H locs cells slots Q (F0 m tgt ls rest)) (kf : ¬ a = b → W p l e R s m args below meth c H locs cells slots Q (F0 m (pc + 3) ls rest)) : W p l e R s m args below meth c H locs cells slots Q (F0 m pc ls (.int (iI b) :: .int (iI a) :: rest)) := lv_icmp_eq hx hb hdg ht (fun h => kt ((iI_eq h1 h2).mp h)) (fun h => kf (fun q => h ((iI_eq h1 h2).mpr q)))
theorem bk_icmp_ne (hx : p.tables.exec = Jvm.exec) (hb : c.code = cc) (hdg : decode cc pc = .ok (.if_icmp .ne off, 3)) (ht : (pc : Int) + off = (tgt : Int)) (h1 : -2147483648 ≤ a ∧ a < 2147483648) (h2 : -2147483648 ≤ b ∧ b < 2147483648) (kt : ¬ a = b → W p l e R s m args below meth c H locs cells slots Q (F0 m tgt ls rest)) (kf : a = b → W p l e R s m args below meth c H locs cells slots Q (F0 m (pc + 3) ls rest)) : W p l e R s m args below meth c H locs cells slots Q (F0 m pc ls (.int (iI b) :: .int (iI a) :: rest)) := lv_icmp_ne hx hb hdg ht (fun h => kt (fun q => h ((iI_eq h1 h2).mpr q))) (fun h => kf ((iI_eq h1 h2).mp h))
theorem iI_equ {a b : Int} (ha : 0 ≤ a ∧ a < 4294967296) (hb : 0 ≤ b ∧ b < 4294967296) : iI a = iI b ↔ a = b := by
  refine ⟨fun h => ?_, fun h => by rw [h]⟩
  obtain ⟨n, rfl⟩ := Int.eq_ofNat_of_zero_le ha.1
  obtain ⟨k, rfl⟩ := Int.eq_ofNat_of_zero_le hb.1
  have h1 : Int32.ofNat n = Int32.ofNat k := by rw [← Int32.ofInt_eq_ofNat, ← Int32.ofInt_eq_ofNat]; exact h
  have h2 : (nI n).toBitVec.toNat = (nI k).toBitVec.toNat := congrArg (fun x : Int32 => x.toBitVec.toNat) h1
  rw [pk_tn (by omega), pk_tn (by omega)] at h2
  rw [h2]
theorem bk_icmpU_ne (hx : p.tables.exec = Jvm.exec) (hb : c.code = cc) (hdg : decode cc pc = .ok (.if_icmp .ne off, 3)) (ht : (pc : Int) + off = (tgt : Int)) (h1 : 0 ≤ a ∧ a < 4294967296) (h2 : 0 ≤ b ∧ b < 4294967296) (kt : ¬ a = b → W p l e R s m args below meth c H locs cells slots Q (F0 m tgt ls rest)) (kf : a = b → W p l e R s m args below meth c H locs cells slots Q (F0 m (pc + 3) ls rest)) : W p l e R s m args below meth c H locs cells slots Q (F0 m pc ls (.int (iI b) :: .int (iI a) :: rest)) := lv_icmp_ne hx hb hdg ht (fun h => kt (fun q => h ((iI_equ h1 h2).mpr q))) (fun h => kf ((iI_equ h1 h2).mp h))
theorem bk_if_eq (hx : p.tables.exec = Jvm.exec) (hb : c.code = cc) (hdg : decode cc pc = .ok (.ifCond .eq off, 3)) (ht : (pc : Int) + off = (tgt : Int)) (h1 : -2147483648 ≤ a ∧ a < 2147483648) (kt : a = 0 → W p l e R s m args below meth c H locs cells slots Q (F0 m tgt ls rest)) (kf : ¬ a = 0 → W p l e R s m args below meth c H locs cells slots Q (F0 m (pc + 3) ls rest)) : W p l e R s m args below meth c H locs cells slots Q (F0 m pc ls (.int (iI a) :: rest)) := lv_if_eq hx hb hdg ht (fun h => kt ((iI_eq h1 (by omega)).mp h)) (fun h => kf (fun q => h ((iI_eq (b := 0) h1 (by omega)).mpr q)))
theorem bk_if_ne (hx : p.tables.exec = Jvm.exec) (hb : c.code = cc) (hdg : decode cc pc = .ok (.ifCond .ne off, 3)) (ht : (pc : Int) + off = (tgt : Int)) (h1 : -2147483648 ≤ a ∧ a < 2147483648) (kt : ¬ a = 0 → W p l e R s m args below meth c H locs cells slots Q (F0 m tgt ls rest)) (kf : a = 0 → W p l e R s m args below meth c H locs cells slots Q (F0 m (pc + 3) ls rest)) : W p l e R s m args below meth c H locs cells slots Q (F0 m pc ls (.int (iI a) :: rest)) := lv_if_ne hx hb hdg ht (fun h => kt (fun q => h ((iI_eq (b := 0) h1 (by omega)).mpr q))) (fun h => kf ((iI_eq h1 (by omega)).mp h))
theorem bk_if_lt (hx : p.tables.exec = Jvm.exec) (hb : c.code = cc) (hdg : decode cc pc = .ok (.ifCond .lt off, 3)) (ht : (pc : Int) + off = (tgt : Int)) (h1 : -2147483648 ≤ a ∧ a < 2147483648) (kt : a < 0 → W p l e R s m args below meth c H locs cells slots Q (F0 m tgt ls rest)) (kf : 0 ≤ a → W p l e R s m args below meth c H locs cells slots Q (F0 m (pc + 3) ls rest)) : W p l e R s m args below meth c H locs cells slots Q (F0 m pc ls (.int (iI a) :: rest)) := lv_if_lt hx hb hdg ht (fun h => kt ((iI_lt h1 (by omega)).mp h)) (fun h => kf (Int.not_lt.mp fun q => h ((iI_lt (b := 0) h1 (by omega)).mpr q)))
theorem bk_if_ge (hx : p.tables.exec = Jvm.exec) (hb : c.code = cc) (hdg : decode cc pc = .ok (.ifCond .ge off, 3)) (ht : (pc : Int) + off = (tgt : Int)) (h1 : -2147483648 ≤ a ∧ a < 2147483648) (kt : 0 ≤ a → W p l e R s m args below meth c H locs cells slots Q (F0 m tgt ls rest)) (kf : a < 0 → W p l e R s m args below meth c H locs cells slots Q (F0 m (pc + 3) ls rest)) : W p l e R s m args below meth c H locs cells slots Q (F0 m pc ls (.int (iI a) :: rest)) := lv_if_ge hx hb hdg ht (fun h => kt ((iI_le (by omega) h1).mp h)) (fun h => kf (Int.not_le.mp fun q => h ((iI_le (a := 0) (by omega) h1).mpr q)))
theorem bk_if_gt (hx : p.tables.exec = Jvm.exec) (hb : c.code = cc) (hdg : decode cc pc = .ok (.ifCond .gt off, 3)) (ht : (pc : Int) + off = (tgt : Int)) (h1 : -2147483648 ≤ a ∧ a < 2147483648) (kt : 0 < a → W p l e R s m args below meth c H locs cells slots Q (F0 m tgt ls rest)) (kf : a ≤ 0 → W p l e R s m args below meth c H locs cells slots Q (F0 m (pc + 3) ls rest)) : W p l e R s m args below meth c H locs cells slots Q (F0 m pc ls (.int (iI a) :: rest)) := lv_if_gt hx hb hdg ht (fun h => kt ((iI_lt (by omega) h1).mp h)) (fun h => kf (Int.not_lt.mp fun q => h ((iI_lt (a := 0) (by omega) h1).mpr q)))
theorem bk_if_le (hx : p.tables.exec = Jvm.exec) (hb : c.code = cc) (hdg : decode cc pc = .ok (.ifCond .le off, 3)) (ht : (pc : Int) + off = (tgt : Int)) (h1 : -2147483648 ≤ a ∧ a < 2147483648) (kt : a ≤ 0 → W p l e R s m args below meth c H locs cells slots Q (F0 m tgt ls rest)) (kf : 0 < a → W p l e R s m args below meth c H locs cells slots Q (F0 m (pc + 3) ls rest)) : W p l e R s m args below meth c H locs cells slots Q (F0 m pc ls (.int (iI a) :: rest)) := lv_if_le hx hb hdg ht (fun h => kt ((iI_le h1 (by omega)).mp h)) (fun h => kf (Int.not_le.mp fun q => h ((iI_le (b := 0) h1 (by omega)).mpr q)))
theorem bk_iald (hx : p.tables.exec = Jvm.exec) (hb : c.code = cc) (hK : va_K D cl tys s) (hP : va_P D cl ws H) (q0 t0 : Nat) {cA : ClassId} {n : Nat} {F : Nat → Int} (ha : ws[q0]? = some (q, ar cA n F)) (ht : tys[t0]? = some (cA, .int)) (j : Nat) (hj : a = (j : Int) ∧ j < n) (hn : n ≤ 2147483647) (hdg : decode cc pc = .ok (.iaload, 1))
    (k : W p l e R s m args below meth c H locs cells slots Q (F0 m (pc + 1) ls (.int (iI (F j)) :: rest))) : W p l e R s m args below meth c H locs cells slots Q (F0 m pc ls (.int (iI a) :: .ref q :: rest)) := by
  refine va_iald hx hb hK hP q0 t0 ha ht (iI_in hj.1 hj.2 hn) hdg ?_
  rw [iI_cl hj.1 (by omega)]
  exact k
theorem bk_iast (hx : p.tables.exec = Jvm.exec) (hb : c.code = cc) (hK : va_K D cl tys s) (hP : va_P D cl ws H) (hD : va_D A ws) (hS : va_S A H0 H locs) (q0 t0 : Nat) {cA : ClassId} {n : Nat} {F : Nat → Int} (ha : ws[q0]? = some (q, ar cA n F)) (ht : tys[t0]? = some (cA, .int)) (j : Nat) (hj : a = (j : Int) ∧ j < n) (hn : n ≤ 2147483647) (hdg : decode cc pc = .ok (.iastore, 1))
    (kk : ∀ (H1 : Heap) (locs1 : List Loc), va_P D cl (ws.set q0 (q, ar cA n (bU F j b))) H1 → va_D A (ws.set q0 (q, ar cA n (bU F j b))) → va_S A H0 H1 locs1 → W p l e R s m args below meth c H1 locs1 cells slots Q (F0 m (pc + 1) ls rest)) : W p l e R s m args below meth c H locs cells slots Q (F0 m pc ls (.int (iI b) :: .int (iI a) :: .ref q :: rest)) := by
  refine va_iast hx hb hK hP hD hS q0 t0 ha ht (iI_in hj.1 hj.2 hn) hdg (fun H1 locs1 h1 h2 h3 => ?_)
  rw [iI_cl hj.1 (by omega), bU_upd] at h1 h2
  exact kk H1 locs1 h1 h2 h3
/-- a row of an array of arrays -/
theorem bk_aald (hx : p.tables.exec = Jvm.exec) (hb : c.code = cc) (hK : va_K D cl tys s) (hP : va_P D cl ws H) (q0 t0 : Nat) {cA : ClassId} {ty : FieldType} {n : Nat} {f : Nat → Option Nat} (ha : ws[q0]? = some (q, aq cA n f)) (ht : tys[t0]? = some (cA, .array ty)) (j : Nat) (hj : a = (j : Int) ∧ j < n) (hn : n ≤ 2147483647) {r : Nat} (hr : f j = some r) (hdg : decode cc pc = .ok (.aaload, 1))
    (k : W p l e R s m args below meth c H locs cells slots Q (F0 m (pc + 1) ls (.ref r :: rest))) : W p l e R s m args below meth c H locs cells slots Q (F0 m pc ls (.int (iI a) :: .ref q :: rest)) := by
  have hin := iI_in hj.1 hj.2 hn
  have hc := iI_cl hj.1 (by omega)
  refine W.aald (v := .ref r) (ty := .array ty) hx hb (hP q0 _ ha) ((hK.2 t0 _ ht).1 n (fun j => va_rf (f j))) rfl (fun q => by cases q) (by show ¬ (_ ∨ (arrV _ _ _).slots.size ≤ _); rw [arrV_size]; exact hin) (by show (arrV _ _ _).slots[_]? = _; rw [hc, arrV_read _ _ hj.2, hr]; rfl) rfl rfl hdg k
/-- a new array of ints, its class by its name -/
theorem bk_newa (hx : p.tables.exec = Jvm.exec) (hb : c.code = cc) (harr : (Cond.arrayClass .int).before args s = true) (hK : va_K D cl tys s) {cI : ClassId} (t0 : Nat) (ht : tys[t0]? = some (cI, .int)) (hP : va_P D cl ws H) (hD : va_D A ws) (hS : va_S A H0 H locs) (hA : ∀ q, H0.size ≤ q → A q) (N : Nat) (hN : a = (N : Int) ∧ N ≤ 100000) (hcells : cells + 1 ≤ R.cells) (hslots : slots + N ≤ R.slots) (hdg : decode cc pc = .ok (.newarray .int, 2))
    (kk : ∀ (q : Nat) (H1 : Heap), va_P D cl (ws ++ [(q, ar cI N (fun _ => 0))]) H1 → va_D A (ws ++ [(q, ar cI N (fun _ => 0))]) → va_S A H0 H1 locs → W p l e R s m args below meth c H1 locs (cells + 1) (slots + N) Q (F0 m (pc + 2) ls (.ref q :: rest))) : W p l e R s m args below meth c H locs cells slots Q (F0 m pc ls (.int (iI a) :: rest)) := by
  refine va_newa (atype := .int) (ty := .int) (N' := N) (a0 := (N, .inl (fun _ => iI 0))) hx hb harr rfl hK hP hD hS hA (fun cA => by rw [vp_cell_i]; rfl) (fun h => ?_) (iI_cl hN.1 (by omega)) (by show N * 4 ≤ _; omega) hcells hslots hdg (fun q cA H1 hK1 h1 h2 h3 => ?_)
  · rw [iI_0, iI_lt (by omega) (by omega)] at h
    omega
  · have e1 := (hK1.2 tys.length (cA, .int) (by simp)).2
    have e2 := (hK.2 t0 _ ht).2
    have e3 : cA = cI := Option.some.inj (Eq.trans (Eq.symm e1) e2)
    subst e3
    exact kk q H1 h1 h2 h3
end BKR
end
section
/-! the shape of every contract; starts, ends and calls, a row each -/
/-- links to private members of nest mates, as (from, entry, to, host); words that no call carries on -/
def nestQ : List (String × Nat × MethodName × String) := [("BinnedReads", 11, ⟨"BinnedReads$Draft", "<init>", "()V"⟩, "BinnedReads"), ("BinnedReads", 18, ⟨"BinnedReads$Stream", "<init>", "()V"⟩, "BinnedReads"), ("BinnedReads", 25, ⟨"BinnedReads$Index", "<init>", "()V"⟩, "BinnedReads"), ("BinnedReads", 32, ⟨"BinnedReads$Disk", "<init>", "()V"⟩, "BinnedReads"), ("BinnedReads", 39, ⟨"BinnedReads$Finding", "<init>", "()V"⟩, "BinnedReads"), ("BinnedReads$Draft", 25, ⟨"BinnedReads", "spanOf", "([III)I"⟩, "BinnedReads"), ("BinnedReads$Draft", 29, ⟨"BinnedReads", "kindOf", "(I)I"⟩, "BinnedReads"), ("BinnedReads$Draft", 33, ⟨"BinnedReads", "lengthOf", "(I)I"⟩, "BinnedReads"), ("BinnedReads$Index", 45, ⟨"BinnedReads", "binMeets", "(III)Z"⟩, "BinnedReads"), ("BinnedReads$Finding", 48, ⟨"BinnedReads", "spanOf", "([III)I"⟩, "BinnedReads")]
def nestW (q : String × Nat × MethodName × String) : Cond := .methodLinkNest q.1 q.2.1 q.2.2.1 q.2.2.2
theorem nestW_tbl : ∀ q ∈ nestQ, nestW q ∈ lw_tbl := by
  intro q hq
  simp only [nestQ, List.mem_cons, List.not_mem_nil, or_false] at hq
  rcases hq with rfl | rfl | rfl | rfl | rfl | rfl | rfl | rfl | rfl | rfl
  · exact tw_19
  · exact tw_42
  · exact tw_58
  · exact tw_93
  · exact tw_117
  · exact tw_200
  · exact tw_213
  · exact tw_214
  · exact tw_340
  · exact tw_397
def nw (U : State) : Prop := (∀ q ∈ nestQ, va_Nw (nestW q) U) ∧ (Cond.arrayOver (.array .int)).before #[] U = true
theorem nw.warm {s U : State} (hW : s.WarmedH U.vm) (h : nw s) : nw U :=
  ⟨fun q hq => va_Nw.warmM hW (h.1 q hq), Cond.overAtom_setVm (args := #[]) hW.alike (.arrayOver (.array .int)) rfl h.2⟩
theorem nw.same {u U : State} (e : u.vm = U.vm) (h : nw u) : nw U :=
  ⟨fun q hq => va_Nw.same rfl e (h.1 q hq), by
    have h1 : u.setVm U.vm = u := by rw [← e]; rfl
    have h2 := h.2
    rw [← h1] at h2
    exact h2⟩
/-- what a method knows of the tables -/
def kn (D : va_G) (cI cO : ClassId) (U : State) : Prop := va_K D classes [(cI, .int), (cO, .array .int)] U ∧ nw U
/-- a contract's start: the arguments, and the world W0 -/
def Pr (D : va_G) (cI cO : ClassId) (av : List Value) (W0 : va_W) (sz : Nat) : Array Value → State → Prop := va_Pc av (fun U => U.heap.size = sz ∧ va_P D classes W0 U.heap ∧ va_D (fun _ => True) W0 ∧ kn D cI cO U)
theorem Pr.blind {D : va_G} {cI cO : ClassId} {av : List Value} {W0 : va_W} {sz : Nat} : FrameBlind (Pr D cI cO av W0 sz) := fun a U g mk q => by
  obtain ⟨q0, q1, qP, qD, qK⟩ := q
  exact ⟨q0, q1, qP, qD, va_K.moved (u := U) (U := U.calling g mk a) (Vm.Alike.refl U.vm) qK.1, nw.same (u := U) (U := U.calling g mk a) rfl qK.2⟩
abbrev Bw {S : Type} (D : va_G) (W1 : S → va_W) (W0 : va_W) (sz : Nat) : S → State → Prop := fun u t => va_P D classes (W1 u) t.heap ∧ va_D (va_A W0 sz) (W1 u)
abbrev Qi {S : Type} (D : va_G) (post : Int → S → Prop) (W1 : S → va_W) (W0 : va_W) (sz : Nat) : Array Value → State → Outcome → State → Prop := va_Qi (fun r u => ∃ a : Int, r = iI a ∧ post a u) (Bw D W1 W0 sz) (va_A W0 sz)
abbrev Qv {S : Type} (D : va_G) (post : S → Prop) (W1 : S → va_W) (W0 : va_W) (sz : Nat) : Array Value → State → Outcome → State → Prop := va_Qv post (Bw D W1 W0 sz) (va_A W0 sz)
/-- a contract of a method that answers an int (Mi) or nothing (Mv): its world W0 becomes W1 u for some u with 'post' -/
abbrev Mi {S : Type} (l : Launch) (y : MethodName) (b : ByteArray) (maxL : Nat) (rt : FieldType) (rm : Room) (D : va_G) (cI cO : ClassId) (av : List Value) (W0 : va_W) (post : Int → S → Prop) (W1 : S → va_W) (mc ms : Nat) : Prop := ∀ sz : Nat, Met l y (Cond.code y b maxL (some rt) :: tb) rm (Pr D cI cO av W0 sz) (Qi D post W1 W0 sz) mc ms (va_A W0 sz)
abbrev Mv {S : Type} (l : Launch) (y : MethodName) (b : ByteArray) (maxL : Nat) (rm : Room) (D : va_G) (cI cO : ClassId) (av : List Value) (W0 : va_W) (post : S → Prop) (W1 : S → va_W) (mc ms : Nat) : Prop := ∀ sz : Nat, Met l y (Cond.code y b maxL none :: tb) rm (Pr D cI cO av W0 sz) (Qv D post W1 W0 sz) mc ms (va_A W0 sz)
/-- the start of a method's walk -/
theorem bk_start {l : Launch} {y : MethodName} {cc : ByteArray} {maxL : Nat} {ret : Option FieldType} {rm : Room} {D : va_G} {cI cO : ClassId} {av : List Value} {W0 : va_W} {Qc : Nat → Array Value → State → Outcome → State → Prop} {mc ms : Nat} (hy : plainName y.cls = true) (hlen : (lg_sl av).length ≤ maxL)
    (body : ∀ (p : Program) (e : Env) (s : State) (m : MethodId) (args : Array Value) (below : List Frame) (meth : Method) (c : Code) (A : Nat → Prop) (ls : Array Slot) (Q : State → Prop), p.tables.exec = Jvm.exec → c.code = cc → meth.sig.returnType = ret → c.maxLocals = maxL → meth.locks = false → s.vm.findClass y.cls = some m.cls → meth.name = y.name → (∀ w ∈ tb, w.before args s = true) → kn D cI cO s → (∀ q, s.heap.size ≤ q → A q) → A = va_A W0 s.heap.size → Q = MQ below (Qc s.heap.size) args s mc ms (va_A W0 s.heap.size) → va_P D classes W0 s.heap → va_D A W0 → va_S A s.heap s.heap [] → lv_has ls maxL (lv_args 0 av) →
      W p l e rm s m args below meth c s.heap [] 0 0 Q (F0 m 0 ls [])) (sz : Nat) : Met l y (Cond.code y cc maxL ret :: tb) rm (Pr D cI cO av W0 sz) (Qc sz) mc ms (va_A W0 sz) := by
  refine Met.ofW (cc := cc) (maxL := maxL) (ret := ret) hy rfl ?_
  intro p e s m args below meth c s₁ B hml hv
  obtain ⟨hargs, hsz, hP, hD0, hK⟩ := hv
  subst hsz
  have hts := atoms_spec (ws := Cond.code y cc maxL ret :: tb) B.pre
  have hD := hD0.self (sz := s.heap.size)
  have hl := lv_entry av (n := maxL) hlen
  have he : entryFrame m args maxL = F0 m 0 ((lg_sl av ++ List.replicate (maxL - (lg_sl av).length) Slot.unset).toArray) [] := by rw [hargs, lg_entry_eq]
  rw [he]
  generalize (lg_sl av ++ List.replicate (maxL - (lg_sl av).length) Slot.unset).toArray = ls at hl ⊢
  exact body p e s m args below meth c _ ls _ B.exec B.bytes B.returns hml B.notSynchronized (findClass_of_methodNamed B.named) (name_of_methodNamed B.named B.method).1 (fun w h => hts w (List.mem_cons_of_mem _ h)) hK (fun q h => Or.inr h) rfl rfl hP hD va_S.rf hl
/-- parts of a world that has a pool behind it -/
theorem bk_inX {X pl Wc : va_W} (is : List Nat) (hs : is.map (fun i => X[i]?) = Wc.map some) (k : Nat) (q : Nat × va_E) (hk : Wc[k]? = some q) : ∃ i, is[k]? = some i ∧ (X ++ pl)[i]? = some q := by
  obtain ⟨i, h1, h2⟩ := va_in_of is hs hk
  refine ⟨i, h1, ?_⟩
  rw [List.getElem?_append_left (List.getElem?_eq_some_iff.mp h2).1]
  exact h2
theorem bk_subP {D : va_G} {cl : List vw_C} {X pl Wc : va_W} {H : Heap} (h : va_P D cl (X ++ pl) H) (is : List Nat) (hs : is.map (fun i => X[i]?) = Wc.map some) : va_P D cl Wc H := fun k q hk => by
  obtain ⟨i, -, h2⟩ := bk_inX (pl := pl) is hs k q hk
  exact h i q h2
theorem bk_subD {A : Nat → Prop} {X pl Wc : va_W} (h : va_D A (X ++ pl)) (is : List Nat) (hn : va_nd is = true) (hs : is.map (fun i => X[i]?) = Wc.map some) : va_D A Wc := by
  refine (h.part is hn hs).by id (fun k q hq => ?_) (fun i j _ _ e => e)
  show (Wc ++ pl)[k]? = some q
  rw [List.getElem?_append_left (List.getElem?_eq_some_iff.mp hq).1]
  exact hq
theorem bk_freeX {A : Nat → Prop} {X pl Wc : va_W} {H0 H : Heap} {locs : List Loc} (hD : va_D A (X ++ pl)) (hS : va_S A H0 H locs) (hA : ∀ q, H0.size ≤ q → A q) (is : List Nat) (hs : is.map (fun i => X[i]?) = Wc.map some) : ∀ q, va_A Wc H.size q → A q := by
  intro q h
  rcases h with ⟨k, e, h⟩ | h
  · obtain ⟨i, -, h2⟩ := bk_inX (pl := pl) is hs k _ h
    exact hD.2 i _ h2
  · exact hA q (Nat.le_trans hS.1 h)
theorem gd_tb {ws : List Cond} (h : ∀ w ∈ ws, w ∈ tb) : GoodIn tb ws := fun w hw => ⟨h w hw, good_of_word (tb_good w (h w hw))⟩
theorem gd_code {y : MethodName} {b : ByteArray} {n : Nat} {r : Option FieldType} (h : Cond.code y b n r ∈ tb) : GoodIn tb (Cond.code y b n r :: tb) := gd_tb fun w hw => by
  rcases List.mem_cons.mp hw with rfl | hw
  · exact h
  · exact hw
theorem gd_V {own : String} {idx : Nat} {C : String} {y : MethodName} {b : ByteArray} {n : Nat} {r : Option FieldType} (h1 : Cond.methodLink own idx y ∈ tb) (h2 : Cond.instanceMethod y ∈ tb) (h3 : Cond.selects C y y ∈ tb) (h4 : Cond.initialized C ∈ tb) (h5 : Cond.code y b n r ∈ tb) : GoodIn tb (wsV own idx C y (Cond.code y b n r :: tb)) := gd_tb fun w hw => by
  simp only [wsV, List.mem_append, List.mem_cons, List.not_mem_nil, or_false] at hw
  rcases hw with (rfl | rfl | rfl | rfl) | rfl | hw
  · exact h1
  · exact h2
  · exact h3
  · exact h4
  · exact h5
  · exact hw
theorem gd_S {own : String} {idx : Nat} {y : MethodName} {b : ByteArray} {n : Nat} {r : Option FieldType} (h1 : Cond.methodLink own idx y ∈ tb) (h2 : Cond.static y ∈ tb) (h4 : Cond.initialized own ∈ tb) (h5 : Cond.code y b n r ∈ tb) : GoodIn tb (wsS own idx y (Cond.code y b n r :: tb)) := gd_tb fun w hw => by
  simp only [wsS, List.mem_append, List.mem_cons, List.not_mem_nil, or_false] at hw
  rcases hw with (rfl | rfl | rfl) | rfl | hw
  · exact h1
  · exact h2
  · exact h4
  · exact h5
  · exact hw
section BKC
variable {p : Program} {l : Launch} {e : Env} {R : Room} {s : State} {m : MethodId} {args : Array Value} {below : List Frame} {meth : Method} {c : Code} {H : Heap} {locs : List Loc} {cells slots : Nat} {Q : State → Prop}
variable {cc : ByteArray} {pc nL : Nat} {ls : Array Slot} {rest st0 As : List Value} {D : va_G} {cI cO : ClassId} {A : Nat → Prop} {H0 : Heap} {X pl Wc wr rx : va_W} {b mc ms index maxL : Nat} {y : MethodName} {bytes : ByteArray} {ret : Option FieldType} {rm : Room} {Qc : Nat → Array Value → State → Outcome → State → Prop} {own C host : String}
/-- the end of a method that answers an int -/
theorem bk_reti {S : Type} {post : Int → S → Prop} {W1 : S → va_W} {W0 : va_W} {ty : FieldType} {r : Int} (hx : p.tables.exec = Jvm.exec) (hb : c.code = cc) (hr : meth.sig.returnType = some ty) (hn : narrow ty (.int (iI r)) = .int (iI r)) (hlk : meth.locks = false) (hAe : A = va_A W0 s.heap.size) (hQ : Q = MQ below (Qi D post W1 W0 s.heap.size) args s cells slots (va_A W0 s.heap.size)) (hS : va_S A s.heap H locs) (u : S) (hq : post r u) (hP : va_P D classes (W1 u) H) (hD : va_D A (W1 u)) (hdg : decode cc pc = .ok (.ireturn, 1)) :
    W p l e R s m args below meth c H locs cells slots Q (F0 m pc ls [.int (iI r)]) := by
  subst hAe
  subst hQ
  exact W.zret hx hb hr hn (fun t ht hW => ⟨⟨iI r, u, rfl, ⟨r, rfl, hq⟩, by rw [ht]; exact hP, hD⟩, hS.F ht⟩) hS.2.2 hdg hlk
/-- the end of a method that answers nothing -/
theorem bk_retv {S : Type} {post : S → Prop} {W1 : S → va_W} {W0 : va_W} (hx : p.tables.exec = Jvm.exec) (hb : c.code = cc) (hr : meth.sig.returnType = none) (hlk : meth.locks = false) (hAe : A = va_A W0 s.heap.size) (hQ : Q = MQ below (Qv D post W1 W0 s.heap.size) args s cells slots (va_A W0 s.heap.size)) (hS : va_S A s.heap H locs) (u : S) (hq : post u) (hP : va_P D classes (W1 u) H) (hD : va_D A (W1 u)) (hdg : decode cc pc = .ok (.return_, 1)) :
    W p l e R s m args below meth c H locs cells slots Q (F0 m pc ls []) := by
  subst hAe
  subst hQ
  exact W.vret hx hb hr (fun t ht hW => ⟨⟨u, rfl, hq, by rw [ht]; exact hP, hD⟩, hS.F ht⟩) hS.2.2 hdg hlk
/-- what a callee gets -/
theorem bk_pre {av : List Value} (hK : kn D cI cO s) (hP : va_P D classes Wc H) (hD : va_D A Wc) : PreS s H (Pr D cI cO av Wc H.size) av := ⟨Pr.blind, fun U hU hW => ⟨rfl, by rw [hU], by rw [hU]; exact hP, hD.weaken (fun _ _ _ _ => trivial), va_K.moved hW.alike hK.1, hK.2.warm hW⟩⟩
/-- invokevirtual -/
theorem bk_rV (hx : p.tables.exec = Jvm.exec) (hb : c.code = cc) (hml : c.maxLocals = nL) (hown : s.vm.findClass own = some m.cls) (hT : ∀ w ∈ tb, w.before args s = true) (hK : kn D cI cO s) (hM : ∀ sz : Nat, Met l y (Cond.code y bytes maxL ret :: tb) rm (Pr D cI cO (.ref b :: As) Wc sz) (Qc sz) mc ms (va_A Wc sz)) (hP : va_P D classes Wc H) (hD : va_D A Wc) (q0 ci : Nat) {fs : List Value} {cq : vw_C} (he : Wc[q0]? = some (b, .inr (ci, fs))) (hc : classes[ci]? = some cq) (hcq : cq.1 = C)
    (h1 : Cond.methodLink own index y ∈ tb) (h2 : Cond.instanceMethod y ∈ tb) (h3 : Cond.selects C y y ∈ tb) (h4 : Cond.initialized C ∈ tb) (h5 : Cond.code y bytes maxL ret ∈ tb) (hd : y.cls = C ∧ y.cls ≠ "java/lang/invoke/MethodHandle" ∧ y.cls ≠ "java/lang/invoke/VarHandle" ∧ (parseMethodDescriptor y.desc).map (fun d => d.parameters.length) = some As.length) (hrm : rm.cells = mc ∧ rm.slots = ms) (hR : rm.frames + 1 ≤ R.frames ∧ 8 + (maxL + 11) + rm.locals ≤ R.locals)
    (hls : ls.size = nL) (hst : st0 = As.reverse ++ .ref b :: rest) (hW : (rest.map fun v => v.category).sum ≤ 8) (hdg : decode cc pc = .ok (.invokevirtual index, 3)) (hf : cells + mc ≤ R.cells ∧ slots + ms ≤ R.slots) : va_Run p l e R s m args below meth c H locs cells slots mc ms (F0 m pc ls st0) rest (Qc H.size (Value.ref b :: As).toArray) (va_A Wc H.size) := by
  have hpre := bk_pre (av := .ref b :: As) hK hP hD
  have hrec := va_recv hK.1 hP hc he
  rw [hcq] at hrec
  exact va_runV (C := C) (As := As) (rest := rest) ⟨hx, hb, hml, hown, hT⟩ (hM H.size) (cwV As.length hT (gd_V h1 h2 h3 h4 h5) rfl hrm.1 hrm.2 hd hR) ⟨hpre.1, hrec, hpre.2⟩ rfl rfl hls hst (lv_room hW) hdg hf
/-- invokestatic in the own class -/
theorem bk_rS (hx : p.tables.exec = Jvm.exec) (hb : c.code = cc) (hml : c.maxLocals = nL) (hown : s.vm.findClass own = some m.cls) (hT : ∀ w ∈ tb, w.before args s = true) (hK : kn D cI cO s) (hM : ∀ sz : Nat, Met l y (Cond.code y bytes maxL ret :: tb) rm (Pr D cI cO As Wc sz) (Qc sz) mc ms (va_A Wc sz)) (hP : va_P D classes Wc H) (hD : va_D A Wc)
    (h1 : Cond.methodLink own index y ∈ tb) (h2 : Cond.static y ∈ tb) (h4 : Cond.initialized own ∈ tb) (h5 : Cond.code y bytes maxL ret ∈ tb) (hd : y.cls = own ∧ y.cls ≠ "java/lang/invoke/MethodHandle" ∧ y.cls ≠ "java/lang/invoke/VarHandle" ∧ (parseMethodDescriptor y.desc).map (fun d => d.parameters.length) = some As.length) (hrm : rm.cells = mc ∧ rm.slots = ms) (hR : rm.frames + 1 ≤ R.frames ∧ 8 + (maxL + 11) + rm.locals ≤ R.locals)
    (hls : ls.size = nL) (hst : st0 = As.reverse ++ rest) (hW : (rest.map fun v => v.category).sum ≤ 8) (hdg : decode cc pc = .ok (.invokestatic index, 3)) (hf : cells + mc ≤ R.cells ∧ slots + ms ≤ R.slots) : va_Run p l e R s m args below meth c H locs cells slots mc ms (F0 m pc ls st0) rest (Qc H.size As.toArray) (va_A Wc H.size) :=
  va_runS (As := As) (rest := rest) ⟨hx, hb, hml, hown, hT⟩ (hM H.size) (cwS As.length hT (gd_S h1 h2 h4 h5) rfl hrm.1 hrm.2 hd hR) (bk_pre (av := As) hK hP hD) rfl rfl hls hst (lv_room hW) hdg hf
/-- invokestatic of a nest mate's private method -/
theorem bk_rSN (hx : p.tables.exec = Jvm.exec) (hb : c.code = cc) (hml : c.maxLocals = nL) (hown : s.vm.findClass own = some m.cls) (hT : ∀ w ∈ tb, w.before args s = true) (hK : kn D cI cO s) (hM : ∀ sz : Nat, Met l y (Cond.code y bytes maxL ret :: tb) rm (Pr D cI cO As Wc sz) (Qc sz) mc ms (va_A Wc sz)) (hP : va_P D classes Wc H) (hD : va_D A Wc)
    (h1 : (own, index, y, host) ∈ nestQ) (h2 : Cond.static y ∈ tb) (h4 : Cond.initialized y.cls ∈ tb) (h5 : Cond.code y bytes maxL ret ∈ tb) (hd : y.cls ≠ "java/lang/invoke/MethodHandle" ∧ y.cls ≠ "java/lang/invoke/VarHandle" ∧ (parseMethodDescriptor y.desc).map (fun d => d.parameters.length) = some As.length) (hrm : rm.cells = mc ∧ rm.slots = ms) (hR : rm.frames + 1 ≤ R.frames ∧ 8 + (maxL + 11) + rm.locals ≤ R.locals)
    (hls : ls.size = nL) (hst : st0 = As.reverse ++ rest) (hW : (rest.map fun v => v.category).sum ≤ 8) (hdg : decode cc pc = .ok (.invokestatic index, 3)) (hf : cells + mc ≤ R.cells ∧ slots + ms ≤ R.slots) : va_Run p l e R s m args below meth c H locs cells slots mc ms (F0 m pc ls st0) rest (Qc H.size As.toArray) (va_A Wc H.size) :=
  va_runSN (As := As) (rest := rest) ⟨hx, hb, hml, hown, hT⟩ (hM H.size) ⟨va_cnB As.length hT (gd_code h5) rfl hrm.1 hrm.2 (hK.2.1 _ h1) (hT _ h4) hd hR, hT _ h2, trivial⟩ (bk_pre (av := As) hK hP hD) rfl rfl hls hst (lv_room hW) hdg hf
/-- invokespecial of a nest mate's private constructor -/
theorem bk_rIN {y : MethodName} {Qc : Nat → Array Value → State → Outcome → State → Prop} (hx : p.tables.exec = Jvm.exec) (hb : c.code = cc) (hml : c.maxLocals = nL) (hown : s.vm.findClass own = some m.cls) (hT : ∀ w ∈ tb, w.before args s = true) (hK : kn D cI cO s) (hM : ∀ sz : Nat, Met l y (Cond.code y bytes maxL none :: tb) rm (Pr D cI cO [.ref b] Wc sz) (Qc sz) mc ms (va_A Wc sz)) (hP : va_P D classes Wc H) (hD : va_D A Wc)
    (h1 : (own, index, y, host) ∈ nestQ) (h2 : Cond.instanceMethod y ∈ tb) (h4 : Cond.initialized y.cls ∈ tb) (h5 : Cond.code y bytes maxL none ∈ tb) (hd : y.cls ≠ "java/lang/invoke/MethodHandle" ∧ y.cls ≠ "java/lang/invoke/VarHandle" ∧ (parseMethodDescriptor y.desc).map (fun d => d.parameters.length) = some 0) (hyn : y.name = "<init>") (hrm : rm.cells = mc ∧ rm.slots = ms) (hR : rm.frames + 1 ≤ R.frames ∧ 8 + (maxL + 11) + rm.locals ≤ R.locals)
    (hls : ls.size = nL) (hW : (rest.map fun v => v.category).sum ≤ 8) (hdg : decode cc pc = .ok (.invokespecial index, 3)) (hf : cells + mc ≤ R.cells ∧ slots + ms ≤ R.slots) : va_Run p l e R s m args below meth c H locs cells slots mc ms (F0 m pc ls (.ref b :: rest)) rest (Qc H.size [Value.ref b].toArray) (va_A Wc H.size) :=
  va_runIN (As := []) (rest := rest) ⟨hx, hb, hml, hown, hT⟩ (hM H.size) ⟨va_cnB 0 hT (gd_code h5) rfl hrm.1 hrm.2 (hK.2.1 _ h1) (hT _ h4) hd hR, hyn, hT _ h2⟩ (bk_pre (av := [.ref b]) hK hP hD) rfl rfl hls rfl (lv_room hW) hdg hf
/-- invokespecial of a public constructor -/
theorem bk_rI {y : MethodName} {Qc : Nat → Array Value → State → Outcome → State → Prop} (hx : p.tables.exec = Jvm.exec) (hb : c.code = cc) (hml : c.maxLocals = nL) (hown : s.vm.findClass own = some m.cls) (hT : ∀ w ∈ tb, w.before args s = true) (hK : kn D cI cO s) (hM : ∀ sz : Nat, Met l y (Cond.code y bytes maxL none :: tb) rm (Pr D cI cO [.ref b] Wc sz) (Qc sz) mc ms (va_A Wc sz)) (hP : va_P D classes Wc H) (hD : va_D A Wc)
    (h1 : Cond.methodLink own index y ∈ tb) (h2 : Cond.instanceMethod y ∈ tb) (h4 : Cond.initialized y.cls ∈ tb) (h5 : Cond.code y bytes maxL none ∈ tb) (hd : y.cls ≠ "java/lang/invoke/MethodHandle" ∧ y.cls ≠ "java/lang/invoke/VarHandle" ∧ (parseMethodDescriptor y.desc).map (fun d => d.parameters.length) = some 0) (hyn : y.name = "<init>") (hrm : rm.cells = mc ∧ rm.slots = ms) (hR : rm.frames + 1 ≤ R.frames ∧ 8 + (maxL + 11) + rm.locals ≤ R.locals)
    (hls : ls.size = nL) (hW : (rest.map fun v => v.category).sum ≤ 8) (hdg : decode cc pc = .ok (.invokespecial index, 3)) (hf : cells + mc ≤ R.cells ∧ slots + ms ≤ R.slots) : va_Run p l e R s m args below meth c H locs cells slots mc ms (F0 m pc ls (.ref b :: rest)) rest (Qc H.size [Value.ref b].toArray) (va_A Wc H.size) :=
  va_runI (As := []) (rest := rest) ⟨hx, hb, hml, hown, hT⟩ (hM H.size) (cwI 0 hT (gd_code h5) rfl hrm.1 hrm.2 (hT _ h4) (hT _ h1) (hT _ h2) hyn hd hR) (bk_pre (av := [.ref b]) hK hP hD) rfl rfl hls rfl (lv_room hW) hdg hf
/-- behind a call that answers an int; the world X ++ pl (pl may be []), the callee's cells at the places isC of X, the rest at isR -/
theorem bk_fi {S : Type} {post : Int → S → Prop} {W1 : S → va_W} {aa : Array Value} (isC isR : List Nat) (hC : isC.map (fun i => X[i]?) = Wc.map some) (hR : isR.map (fun i => X[i]?) = wr.map some) (hn : va_nd isR = true) (hdis : ∀ i ∈ isR, i ∉ isC) (hP : va_P D classes (X ++ pl) H) (hD : va_D A (X ++ pl)) (hS : va_S A H0 H locs) (hA : ∀ q, H0.size ≤ q → A q)
    (hr : va_Run p l e R s m args below meth c H locs cells slots mc ms (F0 m pc ls st0) rest (Qi D post W1 Wc H.size aa) (va_A Wc H.size))
    (kk : ∀ (r : Int) (u : S) (H1 : Heap) (locs1 : List Loc), post r u → va_P D classes ((wr ++ W1 u) ++ pl) H1 → va_D A ((wr ++ W1 u) ++ pl) → va_S A H0 H1 locs1 → W p l e R s m args below meth c H1 locs1 (cells + mc) (slots + ms) Q (F0 m (pc + 3) ls (.int (iI r) :: rest))) : W p l e R s m args below meth c H locs cells slots Q (F0 m pc ls st0) := by
  have hF := bk_freeX hD hS hA isC hC
  refine va_calli hr hS (fun q _ h => hF q h) hF (fun r u t H1 locs1 ht hvm hp hB hz hk hS1 => ?_)
  obtain ⟨a, rfl, hp⟩ := hp
  obtain ⟨hP1, hD1⟩ := hB
  rw [ht] at hP1
  obtain ⟨hP2, hD2⟩ := va_joinQ hP hD isC isR hC hR hn hdis hk hF hP1 hD1
  exact kk a u H1 locs1 hp hP2 hD2 hS1
theorem bk_fv {S : Type} {post : S → Prop} {W1 : S → va_W} {aa : Array Value} (isC isR : List Nat) (hC : isC.map (fun i => X[i]?) = Wc.map some) (hR : isR.map (fun i => X[i]?) = wr.map some) (hn : va_nd isR = true) (hdis : ∀ i ∈ isR, i ∉ isC) (hP : va_P D classes (X ++ pl) H) (hD : va_D A (X ++ pl)) (hS : va_S A H0 H locs) (hA : ∀ q, H0.size ≤ q → A q)
    (hr : va_Run p l e R s m args below meth c H locs cells slots mc ms (F0 m pc ls st0) rest (Qv D post W1 Wc H.size aa) (va_A Wc H.size))
    (kk : ∀ (u : S) (H1 : Heap) (locs1 : List Loc), post u → va_P D classes ((wr ++ W1 u) ++ pl) H1 → va_D A ((wr ++ W1 u) ++ pl) → va_S A H0 H1 locs1 → W p l e R s m args below meth c H1 locs1 (cells + mc) (slots + ms) Q (F0 m (pc + 3) ls rest)) : W p l e R s m args below meth c H locs cells slots Q (F0 m pc ls st0) := by
  have hF := bk_freeX hD hS hA isC hC
  refine va_callv hr hS (fun q _ h => hF q h) hF (fun u t H1 locs1 ht hvm hp hB hz hk hS1 => ?_)
  obtain ⟨hP1, hD1⟩ := hB
  rw [ht] at hP1
  obtain ⟨hP2, hD2⟩ := va_joinQ hP hD isC isR hC hR hn hdis hk hF hP1 hD1
  exact kk u H1 locs1 hp hP2 hD2 hS1
/-- behind a call that had the pool too: Wc ++ pl became rx u ++ pl1 u -/
theorem bk_fiP {S : Type} {post : Int → S → Prop} {rx pl1 : S → va_W} {aa : Array Value} (isC isR : List Nat) (hC : isC.map (fun i => X[i]?) = Wc.map some) (hR : isR.map (fun i => X[i]?) = wr.map some) (hn : va_nd isR = true) (hdis : ∀ i ∈ isR, i ∉ isC) (hP : va_P D classes (X ++ pl) H) (hD : va_D A (X ++ pl)) (hS : va_S A H0 H locs) (hA : ∀ q, H0.size ≤ q → A q)
    (hr : va_Run p l e R s m args below meth c H locs cells slots mc ms (F0 m pc ls st0) rest (Qi D post (fun u => rx u ++ pl1 u) (Wc ++ pl) H.size aa) (va_A (Wc ++ pl) H.size))
    (kk : ∀ (r : Int) (u : S) (H1 : Heap) (locs1 : List Loc), post r u → va_P D classes ((wr ++ rx u) ++ pl1 u) H1 → va_D A ((wr ++ rx u) ++ pl1 u) → va_S A H0 H1 locs1 → W p l e R s m args below meth c H1 locs1 (cells + mc) (slots + ms) Q (F0 m (pc + 3) ls (.int (iI r) :: rest))) : W p l e R s m args below meth c H locs cells slots Q (F0 m pc ls st0) := by
  have hF := va_freeP hD hS hA isC hC
  refine va_calli hr hS (fun q _ h => hF q h) hF (fun r u t H1 locs1 ht hvm hp hB hz hk hS1 => ?_)
  obtain ⟨a, rfl, hp⟩ := hp
  obtain ⟨hP1, hD1⟩ := hB
  rw [ht] at hP1
  obtain ⟨hP2, hD2⟩ := va_joinP hP hD isC isR hC hR hn hdis hk hF hP1 hD1
  exact kk a u H1 locs1 hp hP2 hD2 hS1
theorem bk_fvP {S : Type} {post : S → Prop} {rx pl1 : S → va_W} {aa : Array Value} (isC isR : List Nat) (hC : isC.map (fun i => X[i]?) = Wc.map some) (hR : isR.map (fun i => X[i]?) = wr.map some) (hn : va_nd isR = true) (hdis : ∀ i ∈ isR, i ∉ isC) (hP : va_P D classes (X ++ pl) H) (hD : va_D A (X ++ pl)) (hS : va_S A H0 H locs) (hA : ∀ q, H0.size ≤ q → A q)
    (hr : va_Run p l e R s m args below meth c H locs cells slots mc ms (F0 m pc ls st0) rest (Qv D post (fun u => rx u ++ pl1 u) (Wc ++ pl) H.size aa) (va_A (Wc ++ pl) H.size))
    (kk : ∀ (u : S) (H1 : Heap) (locs1 : List Loc), post u → va_P D classes ((wr ++ rx u) ++ pl1 u) H1 → va_D A ((wr ++ rx u) ++ pl1 u) → va_S A H0 H1 locs1 → W p l e R s m args below meth c H1 locs1 (cells + mc) (slots + ms) Q (F0 m (pc + 3) ls rest)) : W p l e R s m args below meth c H locs cells slots Q (F0 m pc ls st0) := by
  have hF := va_freeP hD hS hA isC hC
  refine va_callv hr hS (fun q _ h => hF q h) hF (fun u t H1 locs1 ht hvm hp hB hz hk hS1 => ?_)
  obtain ⟨hP1, hD1⟩ := hB
  rw [ht] at hP1
  obtain ⟨hP2, hD2⟩ := va_joinP hP hD isC isR hC hR hn hdis hk hF hP1 hD1
  exact kk u H1 locs1 hp hP2 hD2 hS1
end BKC
/-- where a callee's cells lie in the caller's world -/
theorem bk_hs {X pl Wc : va_W} (is : List Nat) (hs : is.map (fun i => X[i]?) = Wc.map some) (k : Nat) (q : Nat × va_E) (hk : Wc[k]? = some q) : ∃ i : Nat, (X ++ pl)[i]? = some q := (bk_inX (pl := pl) is hs k q hk).elim fun i h => ⟨i, h.2⟩
theorem bk_hsP {X pl Wc : va_W} (is : List Nat) (hs : is.map (fun i => X[i]?) = Wc.map some) (k : Nat) (q : Nat × va_E) (hk : (Wc ++ pl)[k]? = some q) : ∃ i : Nat, (X ++ pl)[i]? = some q := ⟨_, va_part is hs k q hk⟩
theorem bk_hs1 {ws : va_W} {i : Nat} {q0 : Nat × va_E} (h : ws[i]? = some q0) (k : Nat) (q : Nat × va_E) (hk : [q0][k]? = some q) : ∃ i : Nat, ws[i]? = some q := by
  have h0 : k < 1 := (List.getElem?_eq_some_iff.mp hk).1
  rw [show k = 0 by omega] at hk
  cases hk
  exact ⟨i, h⟩
theorem bk_P1 {D : va_G} {cl : List vw_C} {ws : va_W} {H : Heap} {i : Nat} {q0 : Nat × va_E} (hP : va_P D cl ws H) (h : ws[i]? = some q0) : va_P D cl [q0] H := fun k q hk => by
  obtain ⟨i, hi⟩ := bk_hs1 h k q hk
  exact hP i q hi
theorem bk_D1 {A : Nat → Prop} {ws : va_W} {i : Nat} {q0 : Nat × va_E} (hD : va_D A ws) (h : ws[i]? = some q0) : va_D A [q0] := by
  refine ⟨fun a b x y hx hy _ => ?_, fun k q hk => ?_⟩
  · have h1 : a < 1 := (List.getElem?_eq_some_iff.mp hx).1
    have h2 : b < 1 := (List.getElem?_eq_some_iff.mp hy).1
    omega
  · obtain ⟨i, hi⟩ := bk_hs1 h k q hk
    exact hD.2 i q hi
section BKF
variable {p : Program} {l : Launch} {e : Env} {R : Room} {s : State} {m : MethodId} {args : Array Value} {below : List Frame} {meth : Method} {c : Code} {H : Heap} {locs : List Loc} {cells slots : Nat} {Q : State → Prop}
variable {pc : Nat} {ls : Array Slot} {rest st0 : List Value} {D : va_G} {A : Nat → Prop} {H0 : Heap} {ws Wc : va_W} {mc ms : Nat}
/-- behind a call that leaves its world as it was: the caller's world is the same -/
theorem bk_fR {S : Type} {post : Int → S → Prop} {W1 : S → va_W} {aa : Array Value} (h1 : ∀ u, W1 u = Wc) (hsub : ∀ (k : Nat) (q : Nat × va_E), Wc[k]? = some q → ∃ i : Nat, ws[i]? = some q) (hP : va_P D classes ws H) (hD : va_D A ws) (hS : va_S A H0 H locs) (hA : ∀ q, H0.size ≤ q → A q)
    (hr : va_Run p l e R s m args below meth c H locs cells slots mc ms (F0 m pc ls st0) rest (Qi D post W1 Wc H.size aa) (va_A Wc H.size))
    (kk : ∀ (r : Int) (u : S) (H1 : Heap) (locs1 : List Loc), post r u → va_P D classes ws H1 → va_S A H0 H1 locs1 → W p l e R s m args below meth c H1 locs1 (cells + mc) (slots + ms) Q (F0 m (pc + 3) ls (.int (iI r) :: rest))) : W p l e R s m args below meth c H locs cells slots Q (F0 m pc ls st0) := by
  have hF : ∀ q, va_A Wc H.size q → A q := fun q h => by
    rcases h with ⟨k, e, h⟩ | h
    · obtain ⟨i, hi⟩ := hsub k _ h
      exact hD.2 i _ hi
    · exact hA q (Nat.le_trans hS.1 h)
  refine va_calli hr hS (fun q _ h => hF q h) hF (fun r u t H1 locs1 ht hvm hp hB hz hk hS1 => ?_)
  obtain ⟨a, rfl, hp⟩ := hp
  obtain ⟨hP1, hD1⟩ := hB
  rw [ht, h1 u] at hP1
  refine kk a u H1 locs1 hp (fun i q hi => ?_) hS1
  by_cases hq : ∃ (k : Nat) (e : va_E), Wc[k]? = some (q.1, e)
  · obtain ⟨k, e, hke⟩ := hq
    obtain ⟨i2, hi2⟩ := hsub k _ hke
    have e1 := hD.1 i i2 q (q.1, e) hi hi2 rfl
    subst e1
    have e2 : q = (q.1, e) := Option.some.inj (hi.symm.trans hi2)
    rw [e2]
    exact hP1 k _ hke
  · refine (hP i q hi).kept (hk q.1 (hP i q hi).lt (fun h => ?_))
    rcases h with ⟨k, e, h⟩ | h
    · exact hq ⟨k, e, h⟩
    · have := (hP i q hi).lt
      omega
end BKF
/-! the rows of an array of arrays: 24 arrays of 22 ints -/
def rwP (cI : ClassId) (R : Nat → Nat) (G : Nat → Nat → Int) : va_W := (List.range 24).map (fun i => (R i, ar cI 22 (G i)))
def rwF (R : Nat → Nat) : Nat → Option Nat := fun i => if i < 24 then some (R i) else none
def gU (G : Nat → Nat → Int) (k j : Nat) (v : Int) : Nat → Nat → Int := fun i => if i = k then bU (G i) j v else G i
theorem rw_len (cI : ClassId) (R : Nat → Nat) (G : Nat → Nat → Int) : (rwP cI R G).length = 24 := by simp [rwP]
theorem rw_at {cI : ClassId} {R : Nat → Nat} {G : Nat → Nat → Int} {k : Nat} (hk : k < 24) : (rwP cI R G)[k]? = some (R k, ar cI 22 (G k)) := by
  unfold rwP
  rw [List.getElem?_map, List.getElem?_range hk]
  rfl
theorem rw_get {X : va_W} {n : Nat} {cI : ClassId} {R : Nat → Nat} {G : Nat → Nat → Int} {k : Nat} (hn : X.length = n) (hk : k < 24) : (X ++ rwP cI R G)[n + k]? = some (R k, ar cI 22 (G k)) := by
  subst hn
  rw [List.getElem?_append_right (by omega), Nat.add_sub_cancel_left]
  exact rw_at hk
theorem rw_set {X : va_W} {n : Nat} {cI : ClassId} {R : Nat → Nat} {G : Nat → Nat → Int} {k j : Nat} {v : Int} (hn : X.length = n) (hk : k < 24) : (X ++ rwP cI R G).set (n + k) (R k, ar cI 22 (bU (G k) j v)) = X ++ rwP cI R (gU G k j v) := by
  subst hn
  apply List.ext_getElem?
  intro i
  by_cases hi : i < X.length
  · rw [List.getElem?_set_ne (by omega), List.getElem?_append_left hi, List.getElem?_append_left hi]
  · by_cases e : i = X.length + k
    · subst e
      rw [List.getElem?_set_self (by rw [List.length_append, rw_len]; omega), List.getElem?_append_right (by omega), Nat.add_sub_cancel_left, rw_at hk]
      simp [gU]
    · rw [List.getElem?_set_ne (fun q => e q.symm), List.getElem?_append_right (by omega), List.getElem?_append_right (by omega)]
      by_cases h24 : i - X.length < 24
      · rw [rw_at h24, rw_at h24]
        simp [gU, show ¬ i - X.length = k by omega]
      · rw [List.getElem?_eq_none (by rw [rw_len]; omega), List.getElem?_eq_none (by rw [rw_len]; omega)]
section BKP
variable {p : Program} {l : Launch} {e : Env} {R0 : Room} {s : State} {m : MethodId} {args : Array Value} {below : List Frame} {meth : Method} {c : Code} {H : Heap} {locs : List Loc} {cells slots : Nat} {Q : State → Prop}
variable {cc : ByteArray} {pc : Nat} {ls : Array Slot} {rest : List Value} {D : va_G} {A : Nat → Prop} {cI cO : ClassId} {X : va_W} {H0 : Heap} {a b : Int} {R : Nat → Nat} {G : Nat → Nat → Int}
theorem bk_iastP (hx : p.tables.exec = Jvm.exec) (hb : c.code = cc) (hK : va_K D classes [(cI, .int), (cO, .array .int)] s) (hP : va_P D classes (X ++ rwP cI R G) H) (hD : va_D A (X ++ rwP cI R G)) (hS : va_S A H0 H locs) (k : Nat) (hk : k < 24) {n : Nat} (hn : X.length = n) (j : Nat) (hj : a = (j : Int) ∧ j < 22) (hdg : decode cc pc = .ok (.iastore, 1))
    (kk : ∀ (H1 : Heap) (locs1 : List Loc), va_P D classes (X ++ rwP cI R (gU G k j b)) H1 → va_D A (X ++ rwP cI R (gU G k j b)) → va_S A H0 H1 locs1 → W p l e R0 s m args below meth c H1 locs1 cells slots Q (F0 m (pc + 1) ls rest)) : W p l e R0 s m args below meth c H locs cells slots Q (F0 m pc ls (.int (iI b) :: .int (iI a) :: .ref (R k) :: rest)) := by
  refine bk_iast hx hb hK hP hD hS (n + k) 0 (rw_get hn hk) rfl j hj (by decide) hdg (fun H1 locs1 h1 h2 h3 => ?_)
  rw [rw_set hn hk] at h1 h2
  exact kk H1 locs1 h1 h2 h3
end BKP
end
section
/-! the document's words in numbers: span, width, bins -/
def spanN (G : Nat → Int) : Nat → Int
  | 0 => 0
  | n + 1 => spanN G n + (if G n % 4 = 1 then 0 else G n / 4)
theorem spanN_step {G : Nat → Int} {n : Nat} (h : ¬ G n % 4 = 1) : spanN G (n + 1) = spanN G n + G n / 4 := by
  show spanN G n + (if G n % 4 = 1 then 0 else G n / 4) = _
  rw [if_neg h]
theorem spanN_skip {G : Nat → Int} {n : Nat} (h : G n % 4 = 1) : spanN G (n + 1) = spanN G n := by
  show spanN G n + (if G n % 4 = 1 then 0 else G n / 4) = _
  rw [if_pos h, Int.add_zero]
theorem spanN_rg {G : Nat → Int} {k : Nat} (h : ∀ i, i < k → 0 ≤ G i ∧ G i ≤ 255) : 0 ≤ spanN G k ∧ spanN G k ≤ 63 * k := by
  induction k with
  | zero => exact ⟨Int.le_refl _, by show (0 : Int) ≤ _; omega⟩
  | succ k ih =>
    have h1 := ih (fun i hi => h i (by omega))
    have h2 := h k (by omega)
    show 0 ≤ spanN G k + (if G k % 4 = 1 then 0 else G k / 4) ∧ spanN G k + (if G k % 4 = 1 then 0 else G k / 4) ≤ _
    split <;> omega
theorem spanN_congr {G G' : Nat → Int} {k : Nat} (h : ∀ i, i < k → G i = G' i) : spanN G k = spanN G' k := by
  induction k with
  | zero => rfl
  | succ k ih =>
    show spanN G k + (if G k % 4 = 1 then 0 else G k / 4) = spanN G' k + (if G' k % 4 = 1 then 0 else G' k / 4)
    rw [ih (fun i hi => h i (by omega)), h k (by omega)]
def widthN (G : Nat → Int) : Nat → Int
  | 0 => 0
  | n + 1 => widthN G n + (if G n % 4 = 0 ∨ G n % 4 = 1 then G n / 4 else 0)
theorem widthN_step {G : Nat → Int} {n : Nat} (h : G n % 4 = 0 ∨ G n % 4 = 1) : widthN G (n + 1) = widthN G n + G n / 4 := by
  show widthN G n + (if G n % 4 = 0 ∨ G n % 4 = 1 then G n / 4 else 0) = _
  rw [if_pos h]
theorem widthN_skip {G : Nat → Int} {n : Nat} (h : ¬ G n % 4 = 0) (h2 : ¬ G n % 4 = 1) : widthN G (n + 1) = widthN G n := by
  show widthN G n + (if G n % 4 = 0 ∨ G n % 4 = 1 then G n / 4 else 0) = _
  rw [if_neg (by omega), Int.add_zero]
theorem widthN_rg {G : Nat → Int} {k : Nat} (h : ∀ i, i < k → 0 ≤ G i ∧ G i ≤ 255) : 0 ≤ widthN G k ∧ widthN G k ≤ 63 * k := by
  induction k with
  | zero => exact ⟨Int.le_refl _, by show (0 : Int) ≤ _; omega⟩
  | succ k ih =>
    have h1 := ih (fun i hi => h i (by omega))
    have h2 := h k (by omega)
    show 0 ≤ widthN G k + (if G k % 4 = 0 ∨ G k % 4 = 1 then G k / 4 else 0) ∧ widthN G k + (if G k % 4 = 0 ∨ G k % 4 = 1 then G k / 4 else 0) ≤ _
    split <;> omega
/-- the bin of the places from a to before b -/
def binI (a b : Int) : Int := if a / 64 = (b - 1) / 64 then 9 + a / 64 else if a / 512 = (b - 1) / 512 then 1 + a / 512 else 0
theorem binI_rg {a b : Int} (h : 0 ≤ a ∧ a < b ∧ b ≤ 4096) : 0 ≤ binI a b ∧ binI a b ≤ 72 := by
  unfold binI
  split
  · omega
  · split <;> omega
/-- where a bin begins and ends -/
def binB (n : Int) : Int := if 9 ≤ n then 64 * (n - 9) else if 1 ≤ n then 512 * (n - 1) else 0
def binE (n : Int) : Int := if 9 ≤ n then 64 * (n - 9) + 64 else if 1 ≤ n then 512 * (n - 1) + 512 else 4096
theorem binB_rg {n : Int} (h : 0 ≤ n ∧ n ≤ 72) : 0 ≤ binB n ∧ binB n ≤ 4096 := by
  unfold binB
  split
  · omega
  · split <;> omega
theorem binE_rg {n : Int} (h : 0 ≤ n ∧ n ≤ 72) : 0 ≤ binE n ∧ binE n ≤ 4096 := by
  unfold binE
  split
  · omega
  · split <;> omega
/-- Math.max, Math.min -/
theorem bk_max {a b : Int} (ha : -2147483648 ≤ a ∧ a < 2147483648) (hb : -2147483648 ≤ b ∧ b < 2147483648) : (if iI a < iI b then iI b else iI a) = iI (max a b) := by
  by_cases h : a < b
  · rw [if_pos ((iI_lt ha hb).mpr h), Int.max_def, if_pos (by omega)]
  · rw [if_neg (fun q => h ((iI_lt ha hb).mp q)), Int.max_def]
    by_cases h2 : a ≤ b
    · rw [if_pos h2, show a = b by omega]
    · rw [if_neg h2]
theorem bk_min {a b : Int} (ha : -2147483648 ≤ a ∧ a < 2147483648) (hb : -2147483648 ≤ b ∧ b < 2147483648) : (if iI b < iI a then iI b else iI a) = iI (min a b) := by
  by_cases h : b < a
  · rw [if_pos ((iI_lt hb ha).mpr h), Int.min_def, if_neg (by omega)]
  · rw [if_neg (fun q => h ((iI_lt hb ha).mp q)), Int.min_def, if_pos (by omega)]
/-- the numbers from lo to before n that P holds of, in their order -/
def selN (P : Nat → Bool) (lo : Nat) : Nat → List Nat
  | 0 => []
  | n + 1 => selN P lo n ++ (if lo ≤ n ∧ P n = true then [n] else [])
theorem selN_yes {P : Nat → Bool} {lo n : Nat} (h : lo ≤ n) (hp : P n = true) : selN P lo (n + 1) = selN P lo n ++ [n] := by
  show selN P lo n ++ (if lo ≤ n ∧ P n = true then [n] else []) = _
  rw [if_pos ⟨h, hp⟩]
theorem selN_no {P : Nat → Bool} {lo n : Nat} (hp : ¬ P n = true) : selN P lo (n + 1) = selN P lo n := by
  show selN P lo n ++ (if lo ≤ n ∧ P n = true then [n] else []) = _
  rw [if_neg (fun q => hp q.2), List.append_nil]
theorem selN_lo {P : Nat → Bool} {lo n : Nat} (h : n ≤ lo) : selN P lo n = [] := by
  induction n with
  | zero => rfl
  | succ n ih =>
    show selN P lo n ++ (if lo ≤ n ∧ P n = true then [n] else []) = _
    rw [ih (by omega), if_neg (by omega)]
    rfl
theorem selN_len {P : Nat → Bool} {lo n : Nat} : (selN P lo n).length ≤ n := by
  induction n with
  | zero => exact Nat.le_refl _
  | succ n ih =>
    show (selN P lo n ++ (if lo ≤ n ∧ P n = true then [n] else [])).length ≤ _
    rw [List.length_append]
    split
    · show _ + 1 ≤ _
      omega
    · show _ + 0 ≤ _
      omega
theorem selN_mem {P : Nat → Bool} {lo n i : Nat} : i ∈ selN P lo n ↔ lo ≤ i ∧ i < n ∧ P i = true := by
  induction n with
  | zero =>
    constructor
    · intro h
      cases h
    · intro h
      omega
  | succ n ih =>
    show i ∈ selN P lo n ++ (if lo ≤ n ∧ P n = true then [n] else []) ↔ _
    rw [List.mem_append, ih]
    constructor
    · rintro (h | h)
      · exact ⟨h.1, by omega, h.2.2⟩
      · by_cases hc : lo ≤ n ∧ P n = true
        · rw [if_pos hc] at h
          have := List.mem_singleton.mp h
          subst this
          exact ⟨hc.1, by omega, hc.2⟩
        · rw [if_neg hc] at h
          cases h
    · rintro ⟨h1, h2, h3⟩
      by_cases hn : i = n
      · subst hn
        exact Or.inr (by rw [if_pos ⟨h1, h3⟩]; exact List.mem_singleton.mpr rfl)
      · exact Or.inl ⟨h1, by omega, h3⟩
theorem getD_mem {L : List Nat} {i : Nat} (h : i < L.length) : L.getD i 0 ∈ L := by
  rw [List.getD_eq_getElem?_getD, List.getElem?_eq_getElem h]
  exact List.getElem_mem h
theorem mem_getD {L : List Nat} {z : Nat} (h : z ∈ L) : ∃ i, i < L.length ∧ L.getD i 0 = z := by
  obtain ⟨i, hi, e⟩ := List.mem_iff_getElem.mp h
  exact ⟨i, hi, by rw [List.getD_eq_getElem?_getD, List.getElem?_eq_getElem hi]; exact e⟩
theorem getD_app {L L2 : List Nat} {i : Nat} (h : i < L.length) : (L ++ L2).getD i 0 = L.getD i 0 := by
  rw [List.getD_eq_getElem?_getD, List.getD_eq_getElem?_getD, List.getElem?_append_left h]
theorem getD_last {L : List Nat} {n : Nat} : (L ++ [n]).getD L.length 0 = n := by
  rw [List.getD_eq_getElem?_getD, List.getElem?_append_right (Nat.le_refl _), Nat.sub_self]
  rfl
/-- an array holds a list of places -/
def holdsL (F : Nat → Int) (L : List Nat) : Prop := ∀ k, k < L.length → F k = ((L.getD k 0 : Nat) : Int)
theorem holdsL_nil {F : Nat → Int} : holdsL F [] := fun k h => absurd h (Nat.not_lt_zero k)
theorem holdsL_push {F : Nat → Int} {L : List Nat} {n : Nat} (h : holdsL F L) : holdsL (bU F L.length (n : Int)) (L ++ [n]) := fun k hk => by
  rw [List.length_append] at hk
  have hk : k < L.length + 1 := hk
  by_cases e : k = L.length
  · subst e
    rw [bU_s]
    rw [getD_last]
  · rw [bU_n e, h k (by omega)]
    rw [getD_app (by omega)]
/-- bits of small numbers -/
theorem iI_n (n : Nat) : iI (n : Int) = nI n := Int32.ofInt_eq_ofNat
theorem iI_and255 {a : Int} (h : 0 ≤ a ∧ a < 2147483648) : iI a &&& iI 255 = iI (a % 256) := by
  obtain ⟨n, rfl⟩ := Int.eq_ofNat_of_zero_le h.1
  rw [iI_n, pk_andN (by omega) 8 (by decide), ← iI_n]
  exact congrArg iI (by omega)
theorem iI_and15 {a : Int} (h : 0 ≤ a ∧ a < 2147483648) : iI a &&& iI 15 = iI (a % 16) := by
  obtain ⟨n, rfl⟩ := Int.eq_ofNat_of_zero_le h.1
  rw [iI_n, pk_andN (by omega) 4 (by decide), ← iI_n]
  exact congrArg iI (by omega)
theorem iI_ushr8 {a : Int} (h : 0 ≤ a ∧ a < 2147483648) : ((iI a).toUInt32 >>> ((iI 8).toUInt32 &&& Int32.toUInt32 31)).toInt32 = iI (a / 256) := by
  obtain ⟨n, rfl⟩ := Int.eq_ofNat_of_zero_le h.1
  rw [iI_n, pk_ushrN (by omega) _ 8 (by decide), ← iI_n]
  exact congrArg iI (by omega)
theorem iI_ushr4 {a : Int} (h : 0 ≤ a ∧ a < 2147483648) : ((iI a).toUInt32 >>> ((iI 4).toUInt32 &&& Int32.toUInt32 31)).toInt32 = iI (a / 16) := by
  obtain ⟨n, rfl⟩ := Int.eq_ofNat_of_zero_le h.1
  rw [iI_n, pk_ushrN (by omega) _ 4 (by decide), ← iI_n]
  exact congrArg iI (by omega)
theorem iI_shr8 {a : Int} (h : 0 ≤ a ∧ a < 2147483648) : iI a >>> (iI 8 &&& 31) = iI (a / 256) := by
  obtain ⟨n, rfl⟩ := Int.eq_ofNat_of_zero_le h.1
  rw [iI_n, pk_shrN (by omega) _ 8 (by decide), ← iI_n]
  exact congrArg iI (by omega)
/-- byte j of a read's row -/
def rB (ref pos bin : Int) (no nb : Nat) (O B : Nat → Int) (j : Nat) : Int :=
  if j = 0 then ((6 + no + (nb + 1) / 2 : Nat) : Int) else if j = 1 then ref else if j = 2 then pos % 256 else if j = 3 then pos / 256 else if j = 4 then bin else if j = 5 then (no : Int) else if j = 6 then (nb : Int)
  else if j < 7 + no then O (j - 7) else 16 * B (2 * (j - 7 - no)) + (if 2 * (j - 7 - no) + 1 < nb then B (2 * (j - 7 - no) + 1) else 0)
/-- a row's length -/
abbrev rL (no nb : Nat) : Nat := 7 + no + (nb + 1) / 2
end
section
/-! words of 32 bits as iI (c : Int), c < 2^32; the sum of bytes; numbers in bytes -/
theorem bw_xor (a b : Nat) : nI a ^^^ nI b = nI (a ^^^ b) := Int32.toBitVec_inj.1 (BitVec.eq_of_toNat_eq (by
  show (BitVec.ofNat 32 a ^^^ BitVec.ofNat 32 b).toNat = (BitVec.ofNat 32 (a ^^^ b)).toNat
  simp [BitVec.toNat_xor, BitVec.toNat_ofNat, Nat.xor_mod_two_pow]))
theorem bw_or (a b : Nat) : nI a ||| nI b = nI (a ||| b) := Int32.toBitVec_inj.1 (BitVec.eq_of_toNat_eq (by
  show (BitVec.ofNat 32 a ||| BitVec.ofNat 32 b).toNat = (BitVec.ofNat 32 (a ||| b)).toNat
  simp [BitVec.toNat_or, BitVec.toNat_ofNat, Nat.or_mod_two_pow]))
theorem iI_inj32 {a b : Nat} (ha : a < 4294967296) (hb : b < 4294967296) (h : iI (a : Int) = iI (b : Int)) : a = b := by
  rw [iI_n, iI_n] at h
  have h2 : (nI a).toBitVec.toNat = (nI b).toBitVec.toNat := congrArg (fun x : Int32 => x.toBitVec.toNat) h
  rw [pk_tn (by omega), pk_tn (by omega)] at h2
  exact h2
theorem iI_xorN (a b : Nat) : iI (a : Int) ^^^ iI (b : Int) = iI ((a ^^^ b : Nat) : Int) := by rw [iI_n, iI_n, bw_xor, iI_n]
theorem iI_xorV (a : Nat) {v : Int} (hv : 0 ≤ v) : iI (a : Int) ^^^ iI v = iI ((a ^^^ v.toNat : Nat) : Int) := by
  obtain ⟨n, rfl⟩ := Int.eq_ofNat_of_zero_le hv
  exact iI_xorN a n
theorem iI_xorVV {v w : Int} (hv : 0 ≤ v) (hw : 0 ≤ w) : iI v ^^^ iI w = iI ((v.toNat ^^^ w.toNat : Nat) : Int) := by
  obtain ⟨n, rfl⟩ := Int.eq_ofNat_of_zero_le hv
  exact iI_xorV n hw
theorem iI_m1 : iI (-1) = iI ((4294967295 : Nat) : Int) := by decide
theorem iI_mask : iI (-306674912) = iI ((3988292384 : Nat) : Int) := by decide
theorem iI_xorM (a : Nat) : iI (a : Int) ^^^ iI (-306674912) = iI ((a ^^^ 3988292384 : Nat) : Int) := by rw [iI_mask, iI_xorN]
theorem iI_not (a : Nat) : iI (a : Int) ^^^ iI (-1) = iI ((a ^^^ 4294967295 : Nat) : Int) := by rw [iI_m1, iI_xorN]
theorem iI_and1 {a : Nat} (h : a < 4294967296) : iI (a : Int) &&& iI 1 = iI ((a % 2 : Nat) : Int) := by
  rw [iI_n, pk_andN (by omega) 1 (by decide), iI_n]
theorem iI_andB {a : Nat} (h : a < 4294967296) : iI (a : Int) &&& iI 255 = iI ((a % 256 : Nat) : Int) := by
  rw [iI_n, pk_andN (by omega) 8 (by decide), iI_n]
theorem iI_andW {a : Nat} (h : a < 4294967296) : iI (a : Int) &&& iI 65535 = iI ((a % 65536 : Nat) : Int) := by
  rw [iI_n, pk_andN (by omega) 16 (by decide), iI_n]
theorem iI_andm1 : iI (-1) &&& iI 255 = iI 255 := by decide
theorem iI_ushr1 {a : Nat} (h : a < 4294967296) : ((iI (a : Int)).toUInt32 >>> ((iI 1).toUInt32 &&& Int32.toUInt32 31)).toInt32 = iI ((a / 2 : Nat) : Int) := by
  rw [iI_n, pk_ushrN (by omega) _ 1 (by decide), iI_n]
/-- a word's byte i, 0 to 3 -/
theorem iI_ushrB {a i : Nat} (h : a < 4294967296) (hi : i < 4) : ((iI (a : Int)).toUInt32 >>> ((iI ((8 * i : Nat) : Int)).toUInt32 &&& Int32.toUInt32 31)).toInt32 = iI ((a / 256 ^ i : Nat) : Int) := by
  have hk : ∀ j, j < 4 → (((iI ((8 * j : Nat) : Int)).toUInt32 &&& Int32.toUInt32 31).toBitVec % 32).toNat = 8 * j := by decide
  rw [iI_n a, pk_ushrN (by omega) _ (8 * i) (hk i hi), iI_n, Nat.pow_mul]
theorem iI_shlB {a i : Nat} (h : a < 256) (hi : i < 4) : iI (a : Int) <<< (iI ((8 * i : Nat) : Int) &&& 31) = iI ((a * 256 ^ i : Nat) : Int) := by
  have hk : ∀ j, j < 4 → ((iI ((8 * j : Nat) : Int) &&& 31).toBitVec.smod 32).toNat = 8 * j := by decide
  have hp : (2 : Nat) ^ (8 * i) = 256 ^ i := by rw [Nat.pow_mul]
  have hb : (256 : Nat) ^ i ≤ 16777216 := by
    have h4 : ∀ j, j < 4 → 256 ^ j ≤ 16777216 := by decide
    exact h4 i hi
  rw [iI_n a, pk_shlN _ (8 * i) (hk i hi) (by rw [hp]; exact Nat.lt_of_le_of_lt (Nat.mul_le_mul (show a ≤ 255 by omega) hb) (by decide)), hp, iI_n]
theorem iI_shl1 {i : Int} (hi : 0 ≤ i ∧ i ≤ 7) : iI 1 <<< (iI i &&& 31) = iI ((2 ^ i.toNat : Nat) : Int) := by
  have hk : ∀ j, j < 8 → iI 1 <<< (iI ((j : Nat) : Int) &&& 31) = iI ((2 ^ j : Nat) : Int) := by decide
  obtain ⟨n, rfl⟩ := Int.eq_ofNat_of_zero_le hi.1
  exact hk n (by omega)
/-- one step of the sum; k steps; a byte; n bytes of F from f on -/
def crc1 (c : Nat) : Nat := if c % 2 = 1 then (c / 2) ^^^ 3988292384 else c / 2
def crcK (c : Nat) : Nat → Nat
  | 0 => c
  | k + 1 => crc1 (crcK c k)
def crcN (F : Nat → Int) (f : Nat) : Nat → Nat
  | 0 => 4294967295
  | n + 1 => crcK (crcN F f n ^^^ (F (f + n)).toNat) 8
theorem crcK_odd {c k : Nat} (h : crcK c k % 2 = 1) : crcK c (k + 1) = (crcK c k / 2) ^^^ 3988292384 := by
  show (if crcK c k % 2 = 1 then _ else _) = _
  rw [if_pos h]
theorem crcK_even {c k : Nat} (h : ¬ crcK c k % 2 = 1) : crcK c (k + 1) = crcK c k / 2 := by
  show (if crcK c k % 2 = 1 then _ else _) = _
  rw [if_neg h]
theorem xor32 {a b : Nat} (ha : a < 4294967296) (hb : b < 4294967296) : a ^^^ b < 4294967296 := Nat.xor_lt_two_pow (n := 32) ha hb
theorem crc1_lt {c : Nat} (h : c < 4294967296) : crc1 c < 4294967296 := by
  unfold crc1
  split
  · exact xor32 (by omega) (by decide)
  · omega
theorem crcK_lt {c k : Nat} (h : c < 4294967296) : crcK c k < 4294967296 := by
  induction k with
  | zero => exact h
  | succ k ih => exact crc1_lt ih
theorem crcN_lt {F : Nat → Int} {f n : Nat} (h : ∀ j, j < n → 0 ≤ F (f + j) ∧ F (f + j) ≤ 255) : crcN F f n < 4294967296 := by
  induction n with
  | zero => exact (by decide : (4294967295 : Nat) < 4294967296)
  | succ n ih =>
    have h1 := h n (by omega)
    exact crcK_lt (xor32 (ih (fun j hj => h j (by omega))) (by omega))
theorem crcN_congr {F F' : Nat → Int} {f f' n : Nat} (h : ∀ j, j < n → F (f + j) = F' (f' + j)) : crcN F f n = crcN F' f' n := by
  induction n with
  | zero => rfl
  | succ n ih =>
    show crcK (crcN F f n ^^^ (F (f + n)).toNat) 8 = crcK (crcN F' f' n ^^^ (F' (f' + n)).toNat) 8
    rw [ih (fun j hj => h j (by omega)), h n (by omega)]
/-- a step loses nothing -/
theorem crc1_inj {a b : Nat} (ha : a < 4294967296) (hb : b < 4294967296) (h : crc1 a = crc1 b) : a = b := by
  have top : ∀ x : Nat, x < 2147483648 → (x ^^^ 3988292384).testBit 31 = true := fun x hx => by
    rw [Nat.testBit_xor, Nat.testBit_lt_two_pow (show x < 2 ^ 31 from hx)]
    decide
  have low : ∀ x : Nat, x < 2147483648 → x.testBit 31 = false := fun x hx => Nat.testBit_lt_two_pow (show x < 2 ^ 31 from hx)
  unfold crc1 at h
  by_cases h1 : a % 2 = 1 <;> by_cases h2 : b % 2 = 1
  · rw [if_pos h1, if_pos h2] at h
    have h3 : a / 2 = b / 2 := by
      have := congrArg (fun z => z ^^^ 3988292384) h
      simpa [Nat.xor_assoc] using this
    omega
  · rw [if_pos h1, if_neg h2] at h
    have h3 := top (a / 2) (by omega)
    rw [h, low (b / 2) (by omega)] at h3
    cases h3
  · rw [if_neg h1, if_pos h2] at h
    have h3 := top (b / 2) (by omega)
    rw [← h, low (a / 2) (by omega)] at h3
    cases h3
  · rw [if_neg h1, if_neg h2] at h
    omega
theorem crcK_inj {a b k : Nat} (ha : a < 4294967296) (hb : b < 4294967296) (h : crcK a k = crcK b k) : a = b := by
  induction k with
  | zero => exact h
  | succ k ih => exact ih (crc1_inj (crcK_lt ha) (crcK_lt hb) h)
theorem xor_can {a b c : Nat} (h : a ^^^ c = b ^^^ c) : a = b := by
  have := congrArg (fun z => z ^^^ c) h
  simpa [Nat.xor_assoc] using this
theorem xor_can2 {a b c : Nat} (h : c ^^^ a = c ^^^ b) : a = b := by
  rw [Nat.xor_comm c a, Nat.xor_comm c b] at h
  exact xor_can h
/-- one byte that differs is noticed -/
theorem crcN_one {F F' : Nat → Int} {f n i : Nat} (hF : ∀ j, j < n → 0 ≤ F (f + j) ∧ F (f + j) ≤ 255) (hF' : ∀ j, j < n → 0 ≤ F' (f + j) ∧ F' (f + j) ≤ 255) (hi : i < n) (hne : F (f + i) ≠ F' (f + i)) (hsame : ∀ j, j < n → j ≠ i → F (f + j) = F' (f + j)) : crcN F f n ≠ crcN F' f n := by
  induction n with
  | zero => omega
  | succ n ih =>
    intro h
    have h1 := crcN_lt (F := F) (f := f) (n := n) (fun j hj => hF j (by omega))
    have h2 := crcN_lt (F := F') (f := f) (n := n) (fun j hj => hF' j (by omega))
    have h3 := hF n (by omega)
    have h4 := hF' n (by omega)
    have h5 : crcN F f n ^^^ (F (f + n)).toNat = crcN F' f n ^^^ (F' (f + n)).toNat := crcK_inj (xor32 h1 (by omega)) (xor32 h2 (by omega)) h
    by_cases e : i = n
    · subst e
      rw [crcN_congr (F := F) (F' := F') (f := f) (f' := f) (fun j hj => hsame j (by omega) (by omega))] at h5
      have h6 := xor_can2 h5
      exact hne (by omega)
    · rw [hsame n (by omega) (fun q => e q.symm)] at h5
      exact ih (fun j hj => hF j (by omega)) (fun j hj => hF' j (by omega)) (by omega) (fun j hj => hsame j (by omega)) (xor_can h5)
/-- the number in n bytes of F from f on, the lowest first -/
def numN (F : Nat → Int) (f : Nat) : Nat → Nat
  | 0 => 0
  | n + 1 => numN F f n + (F (f + n)).toNat * 256 ^ n
theorem numN_lt {F : Nat → Int} {f n : Nat} (h : ∀ j, j < n → 0 ≤ F (f + j) ∧ F (f + j) ≤ 255) : numN F f n < 256 ^ n := by
  induction n with
  | zero => exact (by decide : (0 : Nat) < 1)
  | succ n ih =>
    have h1 := ih (fun j hj => h j (by omega))
    have h2 := h n (by omega)
    show numN F f n + (F (f + n)).toNat * 256 ^ n < 256 ^ (n + 1)
    rw [Nat.pow_succ]
    have h3 : (F (f + n)).toNat * 256 ^ n ≤ 255 * 256 ^ n := Nat.mul_le_mul_right _ (by omega)
    omega
theorem or_add {a b n : Nat} (h : a < 256 ^ n) : a ||| b * 256 ^ n = a + b * 256 ^ n := by
  have hp : (256 : Nat) ^ n = 2 ^ (8 * n) := by rw [Nat.pow_mul]
  rw [hp] at h ⊢
  rw [Nat.or_comm, Nat.mul_comm, ← Nat.two_pow_add_eq_or_of_lt h, Nat.add_comm]
theorem iI_orB {a b n : Nat} (h : a < 256 ^ n) : iI (a : Int) ||| iI ((b * 256 ^ n : Nat) : Int) = iI ((a + b * 256 ^ n : Nat) : Int) := by
  rw [iI_n, iI_n, bw_or, or_add h, iI_n]
/-- bytes of c appended at z -/
def apN (F : Nat → Int) (z c k : Nat) : Nat → Int := fun j => if z ≤ j ∧ j < z + k then ((c / 256 ^ (j - z) % 256 : Nat) : Int) else F j
theorem apN_0 (F : Nat → Int) (z c : Nat) : apN F z c 0 = F := funext fun j => if_neg (by omega)
theorem apN_s (F : Nat → Int) (z c k : Nat) : bU (apN F z c k) (z + k) ((c / 256 ^ k % 256 : Nat) : Int) = apN F z c (k + 1) := by
  funext j
  unfold bU apN
  by_cases e : j = z + k
  · subst e
    rw [if_pos rfl, if_pos (by omega), Nat.add_sub_cancel_left]
  · rw [if_neg e]
    by_cases h : z ≤ j ∧ j < z + k
    · rw [if_pos h, if_pos (by omega)]
    · rw [if_neg h, if_neg (by omega)]
/-- byte t of the block of cnt bytes of F from f on -/
def blkB (F : Nat → Int) (f cnt t : Nat) : Int :=
  if t = 0 then 31 else if t = 1 then 139 else if t = 2 then 1 else if t < 5 then ((cnt / 256 ^ (t - 3) % 256 : Nat) : Int) else if t < 7 then (((cnt ^^^ 4294967295) / 256 ^ (t - 5) % 256 : Nat) : Int)
  else if t < 7 + cnt then F (f + (t - 7)) else (((crcN F f cnt ^^^ 4294967295) / 256 ^ (t - 7 - cnt) % 256 : Nat) : Int)
/-- SB from f on, t bytes of it, copied into F at z -/
def cpN (F : Nat → Int) (z : Nat) (SB : Nat → Int) (f t : Nat) : Nat → Int := fun j => if z ≤ j ∧ j < z + t then SB (f + (j - z)) else F j
theorem cpN_0 (F : Nat → Int) (z : Nat) (SB : Nat → Int) (f : Nat) : cpN F z SB f 0 = F := funext fun j => if_neg (by omega)
theorem cpN_s (F : Nat → Int) (z : Nat) (SB : Nat → Int) (f t : Nat) : bU (cpN F z SB f t) (z + t) (SB (f + t)) = cpN F z SB f (t + 1) := by
  funext j
  unfold bU cpN
  by_cases e : j = z + t
  · subst e
    rw [if_pos rfl, if_pos (by omega), Nat.add_sub_cancel_left]
  · rw [if_neg e]
    by_cases h : z ≤ j ∧ j < z + t
    · rw [if_pos h, if_pos (by omega)]
    · rw [if_neg h, if_neg (by omega)]
theorem cpN_in {F SB : Nat → Int} {z f t j : Nat} (h : j < t) : cpN F z SB f t (z + j) = SB (f + j) := by
  unfold cpN
  rw [if_pos (by omega), Nat.add_sub_cancel_left]
/-- what a disk is once a block is appended, in the steps in which it is written -/
def hdN (DB : Nat → Int) (sz k : Nat) : Nat → Int := apN (apN (bU (bU (bU DB sz 31) (sz + 1) 139) (sz + 1 + 1) 1) (sz + 1 + 1 + 1) k 2) (sz + 1 + 1 + 1 + 2) (k ^^^ 4294967295) 2
def bkN (DB SB : Nat → Int) (sz f k : Nat) : Nat → Int := apN (cpN (hdN DB sz k) (sz + 7) SB f k) (sz + 7 + k) (crcN SB f k ^^^ 4294967295) 4
theorem hdN_lo {DB : Nat → Int} {sz k j : Nat} (h : j < sz) : hdN DB sz k j = DB j := by
  unfold hdN apN bU
  rw [if_neg (by omega), if_neg (by omega), if_neg (by omega), if_neg (by omega), if_neg (by omega)]
theorem hdN_hi {DB : Nat → Int} {sz k t : Nat} (h : t < 7) : hdN DB sz k (sz + t) = blkB DB 0 k t := by
  unfold hdN apN bU blkB
  rcases (show t = 0 ∨ t = 1 ∨ t = 2 ∨ t = 3 ∨ t = 4 ∨ t = 5 ∨ t = 6 by omega) with rfl | rfl | rfl | rfl | rfl | rfl | rfl
  · rw [if_neg (by omega), if_neg (by omega), if_neg (by omega), if_neg (by omega), if_pos (by omega), if_pos rfl]
  · rw [if_neg (by omega), if_neg (by omega), if_neg (by omega), if_pos (by omega), if_neg (by omega), if_pos rfl]
  · rw [if_neg (by omega), if_neg (by omega), if_pos (by omega), if_neg (by omega), if_neg (by omega), if_pos rfl]
  · rw [if_neg (by omega), if_pos (by omega), if_neg (by omega), if_neg (by omega), if_neg (by omega), if_pos (by omega), show sz + 3 - (sz + 1 + 1 + 1) = 3 - 3 by omega]
  · rw [if_neg (by omega), if_pos (by omega), if_neg (by omega), if_neg (by omega), if_neg (by omega), if_pos (by omega), show sz + 4 - (sz + 1 + 1 + 1) = 4 - 3 by omega]
  · rw [if_pos (by omega), if_neg (by omega), if_neg (by omega), if_neg (by omega), if_neg (by omega), if_pos (by omega), show sz + 5 - (sz + 1 + 1 + 1 + 2) = 5 - 5 by omega]
  · rw [if_pos (by omega), if_neg (by omega), if_neg (by omega), if_neg (by omega), if_neg (by omega), if_pos (by omega), show sz + 6 - (sz + 1 + 1 + 1 + 2) = 6 - 5 by omega]
theorem blkB_head {F F' : Nat → Int} {f f' k t : Nat} (h : t < 7) : blkB F f k t = blkB F' f' k t := by
  unfold blkB
  rcases (show t = 0 ∨ t = 1 ∨ t = 2 ∨ t = 3 ∨ t = 4 ∨ t = 5 ∨ t = 6 by omega) with rfl | rfl | rfl | rfl | rfl | rfl | rfl <;> rfl
theorem blkB_rg {F : Nat → Int} {f k t : Nat} (hF : ∀ j, j < k → 0 ≤ F (f + j) ∧ F (f + j) ≤ 255) : 0 ≤ blkB F f k t ∧ blkB F f k t ≤ 255 := by
  unfold blkB
  split
  · omega
  · split
    · omega
    · split
      · omega
      · split
        · omega
        · split
          · omega
          · split
            · exact hF (t - 7) (by omega)
            · omega
theorem blk_cp {DB SB : Nat → Int} {sz sl f k n : Nat} (hDB : ∀ j, j < sz → 0 ≤ DB j ∧ DB j ≤ 255) (hSB : ∀ j, j < sl → 0 ≤ SB j ∧ SB j ≤ 255) (hfk : f + k ≤ sl) (hn : n ≤ sz + 7 + k) : ∀ j, j < n → 0 ≤ cpN (hdN DB sz k) (sz + 7) SB f k j ∧ cpN (hdN DB sz k) (sz + 7) SB f k j ≤ 255 := by
  intro j hj
  unfold cpN
  by_cases h : sz + 7 ≤ j ∧ j < sz + 7 + k
  · rw [if_pos h]
    exact hSB _ (by omega)
  · rw [if_neg h]
    by_cases h2 : j < sz
    · rw [hdN_lo h2]
      exact hDB j h2
    · obtain ⟨t, rfl⟩ : ∃ t, j = sz + t := ⟨j - sz, by omega⟩
      rw [hdN_hi (show t < 7 by omega), blkB_head (F' := SB) (f' := f) (show t < 7 by omega)]
      exact blkB_rg (fun j hj => hSB _ (by omega))
theorem bkN_lo {DB SB : Nat → Int} {sz f k j : Nat} (h : j < sz) : bkN DB SB sz f k j = DB j := by
  unfold bkN apN cpN
  rw [if_neg (by omega), if_neg (by omega), hdN_lo h]
theorem bkN_hi {DB SB : Nat → Int} {sz f k t : Nat} (h : t < k + 11) : bkN DB SB sz f k (sz + t) = blkB SB f k t := by
  by_cases h7 : t < 7
  · unfold bkN apN cpN
    rw [if_neg (by omega), if_neg (by omega), hdN_hi h7]
    exact blkB_head h7
  · unfold bkN apN cpN blkB
    rw [if_neg (show ¬ t = 0 by omega), if_neg (show ¬ t = 1 by omega), if_neg (show ¬ t = 2 by omega), if_neg (show ¬ t < 5 by omega), if_neg h7]
    by_cases hk : t < 7 + k
    · rw [if_neg (by omega), if_pos (by omega), if_pos hk, show sz + t - (sz + 7) = t - 7 by omega]
    · rw [if_pos (by omega), if_neg hk, show sz + t - (sz + 7 + k) = t - 7 - k by omega]
/-- the check of the block that begins at st -/
def sndN (DB : Nat → Int) (sz st : Nat) : Prop := DB st = 31 ∧ DB (st + 1) = 139 ∧ DB (st + 2) = 1 ∧ numN DB (st + 5) 2 = (numN DB (st + 3) 2 ^^^ 4294967295) % 65536 ∧ st + 7 + numN DB (st + 3) 2 + 4 ≤ sz ∧ numN DB (st + 7 + numN DB (st + 3) 2) 4 = crcN DB (st + 7) (numN DB (st + 3) 2) ^^^ 4294967295
/-- byte j of the stream, as it lies on the disk -/
def sbD (DB KS : Nat → Int) (j : Nat) : Int := DB ((KS (j / 40)).toNat + 7 + j % 40)
theorem rwF_some {R : Nat → Nat} {j : Nat} (h : j < 24) : rwF R j = some (R j) := if_pos h
theorem gU_ne {G : Nat → Nat → Int} {k j z : Nat} {v : Int} (h : z ≠ k) : gU G k j v z = G z := if_neg h
theorem gU_row {G : Nat → Nat → Int} {S : Nat → Int} {k i t : Nat} (h : ∀ t, t < i → G k t = S t) (ht : t < i + 1) : gU G k i (S i) k t = S t := by
  unfold gU
  rw [if_pos rfl]
  by_cases e : t = i
  · subst e
    exact bU_s
  · rw [bU_n e]
    exact h t (by omega)
/-- the reference's sum of the lengths of ops of three kinds -/
def sumK (K L : Nat → Int) (x y z : Int) : Nat → Int
  | 0 => 0
  | n + 1 => sumK K L x y z n + (if K n = x ∨ K n = y ∨ K n = z then L n else 0)
theorem sumK_yes {K L : Nat → Int} {x y z : Int} {n : Nat} (h : K n = x ∨ K n = y ∨ K n = z) : sumK K L x y z (n + 1) = sumK K L x y z n + L n := by
  show sumK K L x y z n + (if K n = x ∨ K n = y ∨ K n = z then L n else 0) = _
  rw [if_pos h]
theorem sumK_no {K L : Nat → Int} {x y z : Int} {n : Nat} (h : ¬ (K n = x ∨ K n = y ∨ K n = z)) : sumK K L x y z (n + 1) = sumK K L x y z n := by
  show sumK K L x y z n + (if K n = x ∨ K n = y ∨ K n = z then L n else 0) = _
  rw [if_neg h, Int.add_zero]
theorem sumK_rg {K L : Nat → Int} {x y z : Int} {n : Nat} (h : ∀ t, t < n → 1 ≤ L t ∧ L t ≤ 63) : 0 ≤ sumK K L x y z n ∧ sumK K L x y z n ≤ 63 * n := by
  induction n with
  | zero => exact ⟨Int.le_refl _, by show (0 : Int) ≤ _; omega⟩
  | succ n ih =>
    have h1 := ih (fun t ht => h t (by omega))
    have h2 := h n (by omega)
    show 0 ≤ sumK K L x y z n + (if K n = x ∨ K n = y ∨ K n = z then L n else 0) ∧ sumK K L x y z n + (if K n = x ∨ K n = y ∨ K n = z then L n else 0) ≤ _
    split <;> omega
/-- byte k of a disk of which the bit u (8 * byte + bit, or -1) is turned -/
def byN (Dk : Nat → Int) (u k : Int) : Int := if 0 ≤ u ∧ u / 8 = k then (((Dk k.toNat).toNat ^^^ ((2 ^ (u % 8).toNat : Nat) : Int).toNat : Nat) : Int) else Dk k.toNat
theorem byN_yes {Dk : Nat → Int} {u k : Int} (h : 0 ≤ u ∧ u / 8 = k) : byN Dk u k = (((Dk k.toNat).toNat ^^^ ((2 ^ (u % 8).toNat : Nat) : Int).toNat : Nat) : Int) := if_pos h
theorem byN_no {Dk : Nat → Int} {u k : Int} (h : ¬ (0 ≤ u ∧ u / 8 = k)) : byN Dk u k = Dk k.toNat := if_neg h
theorem bin_facts (n : Int) : (9 ≤ n → binB n = 64 * (n - 9) ∧ binE n = 64 * (n - 9) + 64) ∧ (1 ≤ n → n < 9 → binB n = 512 * (n - 1) ∧ binE n = 512 * (n - 1) + 512) ∧ (n < 1 → binB n = 0 ∧ binE n = 4096) := by
  unfold binB binE
  refine ⟨fun h => ?_, fun h1 h2 => ?_, fun h => ?_⟩
  · rw [if_pos h, if_pos h]
    exact ⟨rfl, rfl⟩
  · rw [if_neg (by omega), if_pos h1, if_neg (by omega), if_pos h1]
    exact ⟨rfl, rfl⟩
  · rw [if_neg (by omega), if_neg (by omega), if_neg (by omega), if_neg (by omega)]
    exact ⟨rfl, rfl⟩
/-- what found tells of read r -/
def fndN (Bg Ps En Oc Bc : Nat → Int) (r : Nat) (v : Int) : Int := if v = 0 then 3264 * (Bg r / 40) + Bg r % 40 else if v = 1 then Ps r else if v = 2 then binI (Ps r) (En r) else if v = 3 then En r else if v = 4 then Oc r else if v = 5 then Bc r else -1
/-- a row's first seven bytes, as they are appended -/
def r7N (v0 : Int) (SB : Nat → Int) (sl : Nat) (x y b : Int) (no nb : Nat) : Nat → Int := bU (bU (bU (bU (bU (bU (bU SB sl v0) (sl + 1) x) (sl + 1 + 1) (y % 256)) (sl + 1 + 1 + 1) (y / 256)) (sl + 1 + 1 + 1 + 1) b) (sl + 1 + 1 + 1 + 1 + 1) (no : Int)) (sl + 1 + 1 + 1 + 1 + 1 + 1) (nb : Int)
theorem r7_lo {v0 : Int} {SB : Nat → Int} {sl : Nat} {x y b : Int} {no nb j : Nat} (h : j < sl) : r7N v0 SB sl x y b no nb j = SB j := by
  unfold r7N
  rw [bU_n (by omega), bU_n (by omega), bU_n (by omega), bU_n (by omega), bU_n (by omega), bU_n (by omega), bU_n (by omega)]
theorem r7_hi {v0 : Int} {SB : Nat → Int} {sl : Nat} {x y b : Int} {no nb j : Nat} {O B : Nat → Int} (h1 : 1 ≤ j) (h2 : j < 7) : r7N v0 SB sl x y b no nb (sl + j) = rB x y b no nb O B j := by
  unfold r7N rB bU
  rcases (show j = 1 ∨ j = 2 ∨ j = 3 ∨ j = 4 ∨ j = 5 ∨ j = 6 by omega) with rfl | rfl | rfl | rfl | rfl | rfl
  · rw [if_neg (by omega), if_neg (by omega), if_neg (by omega), if_neg (by omega), if_neg (by omega), if_pos (by omega)]
    rfl
  · rw [if_neg (by omega), if_neg (by omega), if_neg (by omega), if_neg (by omega), if_pos (by omega)]
    rfl
  · rw [if_neg (by omega), if_neg (by omega), if_neg (by omega), if_pos (by omega)]
    rfl
  · rw [if_neg (by omega), if_neg (by omega), if_pos (by omega)]
    rfl
  · rw [if_neg (by omega), if_pos (by omega)]
    rfl
  · rw [if_pos (by omega)]
    rfl
theorem rB_op {x y b : Int} {no nb i : Nat} {O B : Nat → Int} (h : i < no) : rB x y b no nb O B (7 + i) = O i := by
  unfold rB
  rw [if_neg (by omega), if_neg (by omega), if_neg (by omega), if_neg (by omega), if_neg (by omega), if_neg (by omega), if_neg (by omega), if_pos (by omega), Nat.add_sub_cancel_left]
theorem rB_pair {x y b : Int} {no nb t : Nat} {O B : Nat → Int} : rB x y b no nb O B (7 + no + t) = 16 * B (2 * t) + (if 2 * t + 1 < nb then B (2 * t + 1) else 0) := by
  unfold rB
  rw [if_neg (by omega), if_neg (by omega), if_neg (by omega), if_neg (by omega), if_neg (by omega), if_neg (by omega), if_neg (by omega), if_neg (by omega), show 7 + no + t - 7 - no = t by omega]
theorem row_up {S2 f : Nat → Int} {sl n : Nat} {v : Int} (h : ∀ j, 1 ≤ j → j < n → S2 (sl + j) = f j) (hv : v = f n) : ∀ j, 1 ≤ j → j < n + 1 → bU S2 (sl + n) v (sl + j) = f j := fun j h1 h2 => by
  by_cases e : j = n
  · subst e
    rw [bU_s, hv]
  · rw [bU_n (by omega)]
    exact h j h1 (by omega)
theorem r7_hi0 {SB : Nat → Int} {sl : Nat} {x y b : Int} {no nb j : Nat} {O B : Nat → Int} (h2 : j < 7) : r7N ((6 + no + (nb + 1) / 2 : Nat) : Int) SB sl x y b no nb (sl + j) = rB x y b no nb O B j := by
  by_cases h : j = 0
  · subst h
    unfold r7N rB bU
    rw [if_neg (by omega), if_neg (by omega), if_neg (by omega), if_neg (by omega), if_neg (by omega), if_neg (by omega), if_pos (by omega), if_pos rfl]
  · exact r7_hi (by omega) h2
theorem row_up0 {S2 f : Nat → Int} {sl n : Nat} {v : Int} (h : ∀ j, j < n → S2 (sl + j) = f j) (hv : v = f n) : ∀ j, j < n + 1 → bU S2 (sl + n) v (sl + j) = f j := fun j h2 => by
  by_cases e : j = n
  · subst e
    rw [bU_s, hv]
  · rw [bU_n (by omega)]
    exact h j (by omega)
theorem lo_up {S2 SB : Nat → Int} {sl n : Nat} {v : Int} (h : ∀ j, j < sl → S2 j = SB j) : ∀ j, j < sl → bU S2 (sl + n) v j = SB j := fun j hj => (bU_n (by omega)).trans (h j hj)
/-- a byte of a word, by an arithmetic shift -/
theorem sarB {c i : Nat} (h : c < 4294967296) (hi : i < 4) : (iI (c : Int) >>> (iI ((8 * i : Nat) : Int) &&& 31)) &&& iI 255 = iI ((c / 256 ^ i % 256 : Nat) : Int) := by
  have hk : ∀ j, j < 4 → ((iI ((8 * j : Nat) : Int) &&& 31).toBitVec.smod 32).toNat = 8 * j := by decide
  have h1 := pk_shr (iI (c : Int)) (iI ((8 * i : Nat) : Int) &&& 31) (8 * i) (hk i hi)
  have hm : (iI 255).toBitVec.toNat = 2 ^ 8 - 1 := by decide
  generalize (iI (c : Int) >>> (iI ((8 * i : Nat) : Int) &&& 31)) = x at h1 ⊢
  rw [pk_and _ 8 hm, iI_n]
  refine congrArg nI ?_
  have e1 : (iI (c : Int)).toBitVec.toNat = c := by rw [iI_n]; exact pk_tn h
  have e2 : (iI (c : Int)).toInt = if 2 * c < 4294967296 then (c : Int) else (c : Int) - 4294967296 := by
    show (iI (c : Int)).toBitVec.toInt = _
    rw [BitVec.toInt_eq_toNat_cond, e1]
    rfl
  have e3 : x.toInt = if 2 * x.toBitVec.toNat < 4294967296 then (x.toBitVec.toNat : Int) else (x.toBitVec.toNat : Int) - 4294967296 := by
    show x.toBitVec.toInt = _
    rw [BitVec.toInt_eq_toNat_cond]
    rfl
  rw [Int.shiftRight_eq_div_pow, e2, e3] at h1
  have hx := x.toBitVec.isLt
  generalize x.toBitVec.toNat = y at h1 hx ⊢
  rcases (show i = 0 ∨ i = 1 ∨ i = 2 ∨ i = 3 by omega) with rfl | rfl | rfl | rfl
  · have h2 : (if 2 * y < 4294967296 then (y : Int) else (y : Int) - 4294967296) = (if 2 * c < 4294967296 then (c : Int) else (c : Int) - 4294967296) / 1 := h1
    show y % 256 = c / 1 % 256
    split at h2 <;> split at h2 <;> omega
  · have h2 : (if 2 * y < 4294967296 then (y : Int) else (y : Int) - 4294967296) = (if 2 * c < 4294967296 then (c : Int) else (c : Int) - 4294967296) / 256 := h1
    show y % 256 = c / 256 % 256
    split at h2 <;> split at h2 <;> omega
  · have h2 : (if 2 * y < 4294967296 then (y : Int) else (y : Int) - 4294967296) = (if 2 * c < 4294967296 then (c : Int) else (c : Int) - 4294967296) / 65536 := h1
    show y % 256 = c / 65536 % 256
    split at h2 <;> split at h2 <;> omega
  · have h2 : (if 2 * y < 4294967296 then (y : Int) else (y : Int) - 4294967296) = (if 2 * c < 4294967296 then (c : Int) else (c : Int) - 4294967296) / 16777216 := h1
    show y % 256 = c / 16777216 % 256
    split at h2 <;> split at h2 <;> omega
theorem and255s {a : Int} (h : 0 ≤ a ∧ a ≤ 255) : iI a &&& iI 255 = iI ((a.toNat : Nat) : Int) := by
  rw [iI_and255 (by omega)]
  exact congrArg iI (by omega)
/-- a block's first seven bytes, as the reference stores them -/
def m7N (Dk : Nat → Int) (mz n : Nat) : Nat → Int := bU (bU (bU (bU (bU (bU (bU Dk mz ((31 : Nat) : Int)) (mz + 1) ((139 : Nat) : Int)) (mz + 1 + 1) ((1 : Nat) : Int)) (mz + 1 + 1 + 1) ((n % 256 : Nat) : Int)) (mz + 1 + 1 + 1 + 1) ((n / 256 ^ 1 % 256 : Nat) : Int)) (mz + 1 + 1 + 1 + 1 + 1) (((n ^^^ 4294967295) % 256 : Nat) : Int)) (mz + 1 + 1 + 1 + 1 + 1 + 1) (((n ^^^ 4294967295) / 256 ^ 1 % 256 : Nat) : Int)
theorem m7_lo {Dk : Nat → Int} {mz n j : Nat} (h : j < mz) : m7N Dk mz n j = Dk j := by
  unfold m7N
  rw [bU_n (by omega), bU_n (by omega), bU_n (by omega), bU_n (by omega), bU_n (by omega), bU_n (by omega), bU_n (by omega)]
theorem m7_hi {Dk Sm : Nat → Int} {mz f n j : Nat} (h : j < 7) : m7N Dk mz n (mz + j) = blkB Sm f n j := by
  unfold m7N blkB bU
  rcases (show j = 0 ∨ j = 1 ∨ j = 2 ∨ j = 3 ∨ j = 4 ∨ j = 5 ∨ j = 6 by omega) with rfl | rfl | rfl | rfl | rfl | rfl | rfl
  · rw [if_neg (by omega), if_neg (by omega), if_neg (by omega), if_neg (by omega), if_neg (by omega), if_neg (by omega), if_pos (by omega)]
    rfl
  · rw [if_neg (by omega), if_neg (by omega), if_neg (by omega), if_neg (by omega), if_neg (by omega), if_pos (by omega)]
    rfl
  · rw [if_neg (by omega), if_neg (by omega), if_neg (by omega), if_neg (by omega), if_pos (by omega)]
    rfl
  · rw [if_neg (by omega), if_neg (by omega), if_neg (by omega), if_pos (by omega)]
    show _ = ((n / 1 % 256 : Nat) : Int)
    rw [Nat.div_one]
  · rw [if_neg (by omega), if_neg (by omega), if_pos (by omega)]
    rfl
  · rw [if_neg (by omega), if_pos (by omega)]
    show _ = (((n ^^^ 4294967295) / 1 % 256 : Nat) : Int)
    rw [Nat.div_one]
  · rw [if_pos (by omega)]
    rfl
theorem blkB_piece {F : Nat → Int} {f n t : Nat} (h : t < n) : blkB F f n (7 + t) = F (f + t) := by
  unfold blkB
  rw [if_neg (by omega), if_neg (by omega), if_neg (by omega), if_neg (by omega), if_neg (by omega), if_pos (by omega), Nat.add_sub_cancel_left]
theorem blkB_tail {F : Nat → Int} {f n k : Nat} : blkB F f n (7 + n + k) = (((crcN F f n ^^^ 4294967295) / 256 ^ k % 256 : Nat) : Int) := by
  unfold blkB
  rw [if_neg (by omega), if_neg (by omega), if_neg (by omega), if_neg (by omega), if_neg (by omega), if_neg (by omega), show 7 + n + k - 7 - n = k by omega]
/-- blocks written one behind the other -/
theorem wr_blk {D2 SB : Nat → Int} {sl b zz : Nat} (h : ∀ z, z < b → ∀ t, t < (min 40 (sl - 40 * z)) + 11 → D2 (51 * z + t) = blkB SB (40 * z) (min 40 (sl - 40 * z)) t) (hz : zz = 51 * b) : ∀ z, z < b + 1 → ∀ t, t < (min 40 (sl - 40 * z)) + 11 → bkN D2 SB zz (40 * b) (min 40 (sl - 40 * b)) (51 * z + t) = blkB SB (40 * z) (min 40 (sl - 40 * z)) t := by
  intro z hzb t ht
  subst hz
  by_cases e : z = b
  · subst e
    exact bkN_hi ht
  · rw [bkN_lo (by omega)]
    exact h z (by omega) t ht
theorem wr_ks {K2 : Nat → Int} {b zz : Nat} (h : ∀ z, z < b → K2 z = ((51 * z : Nat) : Int)) (hz : zz = 51 * b) : ∀ z, z < b + 1 → bU K2 b (zz : Int) z = ((51 * z : Nat) : Int) := by
  intro z hzb
  subst hz
  by_cases e : z = b
  · subst e
    exact bU_s
  · rw [bU_n e]
    exact h z (by omega)
theorem wr_rg {D2 SB : Nat → Int} {zz sl f k : Nat} (h : ∀ j, j < zz → 0 ≤ D2 j ∧ D2 j ≤ 255) (hS : ∀ j, j < sl → 0 ≤ SB j ∧ SB j ≤ 255) (hk : f + k ≤ sl) : ∀ j, j < zz + 7 + k + 4 → 0 ≤ bkN D2 SB zz f k j ∧ bkN D2 SB zz f k j ≤ 255 := by
  intro j hj
  by_cases e : j < zz
  · rw [bkN_lo e]
    exact h j e
  · obtain ⟨t, rfl⟩ : ∃ t, j = zz + t := ⟨j - zz, by omega⟩
    rw [bkN_hi (by omega)]
    exact blkB_rg (fun i hi => hS _ (by omega))
theorem wr_end {D2 K2 SB : Nat → Int} {sl : Nat} (hb : ∀ z, z < (sl + 39) / 40 → ∀ t, t < (min 40 (sl - 40 * z)) + 11 → D2 (51 * z + t) = blkB SB (40 * z) (min 40 (sl - 40 * z)) t) (hk : ∀ z, z < (sl + 39) / 40 → K2 z = ((51 * z : Nat) : Int)) (hr : ∀ j, j < sl + 11 * ((sl + 39) / 40) → 0 ≤ D2 j ∧ D2 j ≤ 255) (hS : ∀ j, j < sl → 0 ≤ SB j ∧ SB j ≤ 255) :
    (∀ z, z < (sl + 39) / 40 → ∀ t, t < (min 40 (sl - 40 * z)) + 11 → bkN D2 SB (sl + 11 * ((sl + 39) / 40)) sl 0 (51 * z + t) = blkB SB (40 * z) (min 40 (sl - 40 * z)) t) ∧ (∀ t, t < 11 → bkN D2 SB (sl + 11 * ((sl + 39) / 40)) sl 0 (sl + 11 * ((sl + 39) / 40) + t) = blkB SB sl 0 t) ∧ (∀ z, z < (sl + 39) / 40 → bU K2 ((sl + 39) / 40) ((sl + 11 * ((sl + 39) / 40) : Nat) : Int) z = ((51 * z : Nat) : Int)) ∧ bU K2 ((sl + 39) / 40) ((sl + 11 * ((sl + 39) / 40) : Nat) : Int) ((sl + 39) / 40) = ((sl + 11 * ((sl + 39) / 40) : Nat) : Int) ∧ (∀ j, j < sl + 11 * ((sl + 39) / 40) + 11 → 0 ≤ bkN D2 SB (sl + 11 * ((sl + 39) / 40)) sl 0 j ∧ bkN D2 SB (sl + 11 * ((sl + 39) / 40)) sl 0 j ≤ 255) := by
  refine ⟨fun z hz t ht => ?_, fun t ht => bkN_hi (by omega), fun z hz => ?_, bU_s, fun j hj => ?_⟩
  · rw [bkN_lo (by omega)]
    exact hb z hz t ht
  · rw [bU_n (by omega)]
    exact hk z hz
  · exact wr_rg (f := sl) (k := 0) hr hS (by omega) j (by omega)
/-- the reference's rows: lengths, starts, bytes -/
def rLI (Oc Bc : Nat → Int) (i : Nat) : Nat := 7 + (Oc i).toNat + ((Bc i).toNat + 1) / 2
def stN (Oc Bc : Nat → Int) : Nat → Nat
  | 0 => 0
  | i + 1 => stN Oc Bc i + rLI Oc Bc i
def rowN (Rf Ps En Oc Ob Bc Bd : Nat → Int) (i : Nat) : Nat → Int := rB (Rf i) (Ps i) (binI (Ps i) (En i)) (Oc i).toNat (Bc i).toNat (fun z => Ob (3 * i + z)) (fun z => Bd (24 * i + z))
theorem stN_le {Oc Bc : Nat → Int} {n : Nat} (h : ∀ i, i < n → (0 ≤ Oc i ∧ Oc i ≤ 3) ∧ (0 ≤ Bc i ∧ Bc i ≤ 24)) {i : Nat} (hi : i ≤ n) : stN Oc Bc i ≤ 22 * i := by
  induction i with
  | zero => exact Nat.le_refl _
  | succ i ih =>
    have h1 := ih (by omega)
    have h2 := h i (by omega)
    show stN Oc Bc i + (7 + (Oc i).toNat + ((Bc i).toNat + 1) / 2) ≤ _
    omega
theorem stN_mono {Oc Bc : Nat → Int} {i j : Nat} (h : i ≤ j) : stN Oc Bc i + 7 * (j - i) ≤ stN Oc Bc j := by
  induction j with
  | zero =>
    rw [show i = 0 by omega]
    exact Nat.le_refl _
  | succ j ih =>
    by_cases e : i = j + 1
    · subst e
      omega
    · have h1 := ih (by omega)
      show _ ≤ stN Oc Bc j + (7 + (Oc j).toNat + ((Bc j).toNat + 1) / 2)
      omega
theorem stN_congr {Oc Bc Oc' Bc' : Nat → Int} {n : Nat} (h : ∀ i, i < n → Oc i = Oc' i ∧ Bc i = Bc' i) : stN Oc Bc n = stN Oc' Bc' n := by
  induction n with
  | zero => rfl
  | succ n ih =>
    show stN Oc Bc n + (7 + (Oc n).toNat + ((Bc n).toNat + 1) / 2) = stN Oc' Bc' n + (7 + (Oc' n).toNat + ((Bc' n).toNat + 1) / 2)
    rw [ih (fun i hi => h i (by omega)), (h n (by omega)).1, (h n (by omega)).2]
/-- every byte of the stream is a byte of some row -/
theorem st_in {Oc Bc : Nat → Int} {n j : Nat} (h : j < stN Oc Bc n) : ∃ i k, i < n ∧ k < rLI Oc Bc i ∧ j = stN Oc Bc i + k := by
  induction n with
  | zero => exact absurd h (Nat.not_lt_zero j)
  | succ n ih =>
    by_cases e : j < stN Oc Bc n
    · obtain ⟨i, k, h1, h2, h3⟩ := ih e
      exact ⟨i, k, by omega, h2, h3⟩
    · have h1 : j < stN Oc Bc n + rLI Oc Bc n := h
      exact ⟨n, j - stN Oc Bc n, by omega, by omega, by omega⟩
/-- a row more: starts and bytes -/
theorem fin_bg {Oc Bc B2 : Nat → Int} {i : Nat} (h : ∀ z, z < i → B2 z = (stN Oc Bc z : Int) ∧ B2 (z + 1) = (stN Oc Bc (z + 1) : Int)) {v w : Int} (hv : v = (stN Oc Bc i : Int)) (hw : w = (stN Oc Bc (i + 1) : Int)) : ∀ z, z < i + 1 → bU (bU B2 i v) (i + 1) w z = (stN Oc Bc z : Int) ∧ bU (bU B2 i v) (i + 1) w (z + 1) = (stN Oc Bc (z + 1) : Int) := by
  intro z hz
  by_cases e : z = i
  · subst e
    rw [bU_n (by omega), bU_s, bU_s]
    exact ⟨hv, hw⟩
  · rw [bU_n (by omega), bU_n e]
    refine ⟨(h z (by omega)).1, ?_⟩
    rw [bU_n (by omega)]
    by_cases e2 : z + 1 = i
    · rw [e2, bU_s, hv]
    · rw [bU_n e2]
      exact (h z (by omega)).2
theorem fin_row {Oc Bc S2 S4 : Nat → Int} {f : Nat → Nat → Int} {i : Nat} (h : ∀ z, z < i → ∀ j, j < rLI Oc Bc z → S2 (stN Oc Bc z + j) = f z j) (h0 : ∀ j, j < stN Oc Bc i → S4 j = S2 j) (h1 : ∀ j, j < rLI Oc Bc i → S4 (stN Oc Bc i + j) = f i j) : ∀ z, z < i + 1 → ∀ j, j < rLI Oc Bc z → S4 (stN Oc Bc z + j) = f z j := by
  intro z hz j hj
  by_cases e : z = i
  · subst e
    exact h1 j hj
  · have h2 := stN_mono (Oc := Oc) (Bc := Bc) (show z + 1 ≤ i by omega)
    have h3 : stN Oc Bc (z + 1) = stN Oc Bc z + rLI Oc Bc z := rfl
    rw [h0 _ (by omega)]
    exact h z (by omega) j hj
/-- a block more on the reference's disk -/
theorem fin_blk {D2 D4 SB : Nat → Int} {sl b zz : Nat} (h : ∀ z, z < b → ∀ t, t < (min 40 (sl - 40 * z)) + 11 → D2 (51 * z + t) = blkB SB (40 * z) (min 40 (sl - 40 * z)) t) (hz : zz = 51 * b) (h0 : ∀ j, j < zz → D4 j = D2 j) (h1 : ∀ t, t < 7 + min 40 (sl - 40 * b) + 4 → D4 (zz + t) = blkB SB (40 * b) (min 40 (sl - 40 * b)) t) : ∀ z, z < b + 1 → ∀ t, t < (min 40 (sl - 40 * z)) + 11 → D4 (51 * z + t) = blkB SB (40 * z) (min 40 (sl - 40 * z)) t := by
  intro z hzb t ht
  subst hz
  by_cases e : z = b
  · subst e
    exact h1 t (by omega)
  · rw [h0 _ (by omega)]
    exact h z (by omega) t ht
/-- what add answers -/
def addC (w : Int) (n no : Nat) (sp wd : Int) (nb : Nat) (x y lr lp : Int) : Int :=
  if w = 1 ∨ 24 ≤ n then -1 else if no = 0 ∨ sp = 0 ∨ wd ≠ (nb : Int) then -2 else if ¬ (0 ≤ x ∧ x ≤ 1 ∧ 0 ≤ y ∧ y ≤ 4095 ∧ y + sp ≤ 4096) then -3 else if 0 < n ∧ (x < lr ∨ (x = lr ∧ y < lp)) then -4 else (n : Int)
theorem addC_1 {w : Int} {n no : Nat} {sp wd : Int} {nb : Nat} {x y lr lp : Int} (h : w = 1 ∨ 24 ≤ n) : addC w n no sp wd nb x y lr lp = -1 := if_pos h
theorem addC_2 {w : Int} {n no : Nat} {sp wd : Int} {nb : Nat} {x y lr lp : Int} (h : ¬ (w = 1 ∨ 24 ≤ n)) (h2 : no = 0 ∨ sp = 0 ∨ wd ≠ (nb : Int)) : addC w n no sp wd nb x y lr lp = -2 := (if_neg h).trans (if_pos h2)
theorem addC_3 {w : Int} {n no : Nat} {sp wd : Int} {nb : Nat} {x y lr lp : Int} (h : ¬ (w = 1 ∨ 24 ≤ n)) (h2 : ¬ (no = 0 ∨ sp = 0 ∨ wd ≠ (nb : Int))) (h3 : ¬ (0 ≤ x ∧ x ≤ 1 ∧ 0 ≤ y ∧ y ≤ 4095 ∧ y + sp ≤ 4096)) : addC w n no sp wd nb x y lr lp = -3 := (if_neg h).trans ((if_neg h2).trans (if_pos h3))
theorem addC_4 {w : Int} {n no : Nat} {sp wd : Int} {nb : Nat} {x y lr lp : Int} (h : ¬ (w = 1 ∨ 24 ≤ n)) (h2 : ¬ (no = 0 ∨ sp = 0 ∨ wd ≠ (nb : Int))) (h3 : 0 ≤ x ∧ x ≤ 1 ∧ 0 ≤ y ∧ y ≤ 4095 ∧ y + sp ≤ 4096) (h4 : 0 < n ∧ (x < lr ∨ (x = lr ∧ y < lp))) : addC w n no sp wd nb x y lr lp = -4 := (if_neg h).trans ((if_neg h2).trans ((if_neg (fun q => q h3)).trans (if_pos h4)))
theorem addC_5 {w : Int} {n no : Nat} {sp wd : Int} {nb : Nat} {x y lr lp : Int} (h : ¬ (w = 1 ∨ 24 ≤ n)) (h2 : ¬ (no = 0 ∨ sp = 0 ∨ wd ≠ (nb : Int))) (h3 : 0 ≤ x ∧ x ≤ 1 ∧ 0 ≤ y ∧ y ≤ 4095 ∧ y + sp ≤ 4096) (h4 : ¬ (0 < n ∧ (x < lr ∨ (x = lr ∧ y < lp)))) : addC w n no sp wd nb x y lr lp = (n : Int) := (if_neg h).trans ((if_neg h2).trans ((if_neg (fun q => q h3)).trans (if_neg h4)))
/-- the read i is in a damaged block -/
def hurtN (mu : Int) (mz : Nat) (Bg : Nat → Int) (i : Nat) : Prop := 0 ≤ mu ∧ mu / 8 < (mz : Int) - 11 ∧ Bg i / 40 ≤ mu / 8 / 51 ∧ mu / 8 / 51 ≤ (Bg (i + 1) - 1) / 40
theorem q_bd {L : List Nat} {i : Nat} {h : Nat → Prop} {b b2 : Int} (hb : (b = 1 ∧ ∃ z, z ∈ L ∧ h z) ∨ (b = 0 ∧ ∀ z, z ∈ L → ¬ h z)) (h2 : (b2 = 1 ∧ (¬ b = 0 ∨ h i)) ∨ (b2 = 0 ∧ b = 0 ∧ ¬ h i)) : (b2 = 1 ∧ ∃ z, z ∈ L ++ [i] ∧ h z) ∨ (b2 = 0 ∧ ∀ z, z ∈ L ++ [i] → ¬ h z) := by
  rcases h2 with ⟨h3, h4⟩ | ⟨h3, h4, h5⟩
  · refine Or.inl ⟨h3, ?_⟩
    rcases h4 with h4 | h4
    · rcases hb with ⟨_, z, q1, q2⟩ | ⟨q, _⟩
      · exact ⟨z, List.mem_append.mpr (Or.inl q1), q2⟩
      · exact absurd q h4
    · exact ⟨i, List.mem_append.mpr (Or.inr (List.mem_singleton.mpr rfl)), h4⟩
  · refine Or.inr ⟨h3, fun z hz => ?_⟩
    rcases hb with ⟨q, _⟩ | ⟨_, q⟩
    · rw [h4] at q
      exact absurd q (by decide)
    · rcases List.mem_append.mp hz with hz | hz
      · exact q z hz
      · rw [List.mem_singleton.mp hz]
        exact h5
end
section
def va_AOA (t : FieldType) (U : State) : Prop := (Cond.arrayOver (.array t)).before #[] U = true
theorem va_AOA.use {t : FieldType} {A : Array Value} {U : State} (h : va_AOA t U) : (Cond.arrayOver (.array t)).before A U = true := h
/-! ===== BEGIN new T[n][m]: the outer array a place, the inner ones among the pooled ===== -/
/-- f, but v at every address of l -/
def vr_up {α : Type} (f : Nat → α) (l : List Nat) (v : α) : Nat → α := fun a => if a ∈ l then v else f a
theorem vr_up_in {α : Type} {f : Nat → α} {l : List Nat} {v : α} {a : Nat} (h : a ∈ l) : vr_up f l v a = v := if_pos h
theorem vr_up_ne {α : Type} {f : Nat → α} {l : List Nat} {v : α} {a : Nat} (h : a ∉ l) : vr_up f l v a = f a := if_neg h
theorem vr_rows {L l : List Nat} {f : Nat → va_E} {e : va_E} (h : ∀ a, a ∈ l → a ∉ L) : va_pl L f ++ l.map (fun a => (a, e)) = va_pl (L ++ l) (vr_up f l e) := by
  unfold va_pl
  rw [List.map_append]
  congr 1
  · apply List.map_congr_left
    intro a ha
    rw [vr_up_ne (fun q => h a q ha)]
  · apply List.map_congr_left
    intro a ha
    rw [vr_up_in ha]
theorem vr_lay {X rows : va_W} {x : Nat × va_E} {pl : va_W} {D : va_G} {cl : List vw_C} {H : Heap} (hP : va_P D cl (((X ++ pl) ++ [x]) ++ rows) H) : va_P D cl ((X ++ [x]) ++ (pl ++ rows)) H := by
  rw [List.append_assoc (X ++ pl)] at hP
  have h := va_P.swap hP
  rw [← List.append_assoc X] at h
  have h2 := va_P.swap h
  rw [List.append_assoc (X ++ [x])] at h2
  exact h2
theorem vr_layD {X rows : va_W} {x : Nat × va_E} {pl : va_W} {A : Nat → Prop} (hD : va_D A (((X ++ pl) ++ [x]) ++ rows)) : va_D A ((X ++ [x]) ++ (pl ++ rows)) := by
  rw [List.append_assoc (X ++ pl)] at hD
  have h := va_D.swap hD
  rw [← List.append_assoc X] at h
  have h2 := va_D.swap h
  rw [List.append_assoc (X ++ [x])] at h2
  exact h2
theorem vr_outer (c : ClassId) (N h0 : Nat) : ∀ i : Nat, Jvm.Free.Multi.outerC c N h0 i = arrV c N (fun j => va_rf (if j < i then some (h0 + 1 + j) else none))
  | 0 => by
    show ({ cls := c, slots := Array.replicate N .null, vm := .none } : Cell) = _
    rw [arrV_new]
    refine congrArg (arrV c N) (funext fun j => ?_)
    simp [va_rf]
  | i + 1 => by
    show (Jvm.Free.Multi.outerC c N h0 i).setSlot i (.ref (h0 + 1 + i)) = _
    rw [vr_outer c N h0 i, arrV_store]
    refine congrArg (arrV c N) (funext fun j => ?_)
    by_cases e : j = i
    · subst e
      simp [updV, va_rf]
    · by_cases h : j < i
      · simp [updV, e, h, Nat.lt_succ_of_lt h]
      · simp [updV, e, h, show ¬ j < i + 1 by omega]
section VGM
variable {p : Program} {l : Launch} {e : Env} {R : Room} {s : State} {m : MethodId} {args : Array Value} {below : List Frame} {meth : Method} {c : Code} {H : Heap} {locs : List Loc} {cells slots : Nat} {Q : State → Prop}
variable {cc : ByteArray} {pc : Nat} {ls : Array Slot} {rest : List Value} {D : va_G} {cl : List vw_C} {A : Nat → Prop} {a : Nat} {tys : List (ClassId × FieldType)} {ws : va_W} {H0 : Heap}
theorem va_mna {X : va_W} {L : List Nat} {f : Nat → va_E} {cc : ByteArray} (hexec : p.tables.exec = Jvm.exec) (hb : c.code = cc) {own : String} {index : Nat} {ty : FieldType} {cy : ClassId} (hown : s.vm.findClass own = some m.cls) (hclink : (Cond.classLink own index ("[" ++ (FieldType.array ty).toString)).before args s = true) (hover : va_AOA ty s) (harr : (Cond.arrayClass ty).before args s = true) (hcy : s.vm.findClass (FieldType.array ty).toString = some cy)
    (hK : va_K D cl tys s) (hP : va_P D cl (X ++ va_pl L f) H) (hD : va_D A (X ++ va_pl L f)) (hS : va_S A H0 H locs) (hA : ∀ q, H0.size ≤ q → A q) {n k : Int32} {N' K' : Nat} {z : vp_A} (hn : ¬ n < 0) (hk : ¬ k < 0) (hN : n.toNatClampNeg = N') (hM : k.toNatClampNeg = K')
    (hb1 : N' * 4 ≤ 536870912) (hb2 : K' * componentBytes ty ≤ 536870912) (hb3 : K' ≤ 536870912) (hdf : fits ty (defaultValue ty) = true) (hdd : (defaultValue ty).isDefault = true) (hcells : cells + (1 + N') ≤ R.cells) (hslots : slots + (N' + N' * K') ≤ R.slots) (hz : ∀ c : ClassId, Jvm.Free.Multi.innerC c K' (defaultValue ty) = vp_cell c z) (hdg : decode cc pc = .ok (.multianewarray index 2, 4))
    (kk : ∀ (q : Nat) (r : Nat → Nat) (cA : ClassId) (H1 : Heap), (∀ i j : Nat, i < N' → j < N' → r i = r j → i = j) → (∀ i : Nat, i < N' → r i ∉ L) → va_K D cl (tys ++ [(cA, .array ty)]) s →
      va_P D cl ((X ++ [(q, .inl (cA, N', .inr (.inr (.inr (.inr (fun i => if i < N' then some (r i) else none))))))]) ++ va_pl (L ++ (List.range N').map r) (vr_up f ((List.range N').map r) (.inl (cy, z)))) H1 → va_D A ((X ++ [(q, .inl (cA, N', .inr (.inr (.inr (.inr (fun i => if i < N' then some (r i) else none))))))]) ++ va_pl (L ++ (List.range N').map r) (vr_up f ((List.range N').map r) (.inl (cy, z)))) → va_S A H0 H1 locs →
      W p l e R s m args below meth c H1 locs (cells + 1 + N') (slots + N' + N' * K') Q (F0 m (pc + 4) ls (.ref q :: rest))) : W p l e R s m args below meth c H locs cells slots Q (F0 m pc ls (.int k :: .int n :: rest)) := by
  subst hN
  subst hM
  intro T hT Xs
  obtain ⟨vm₁, cA, comp, -, fA, fC, hO, -, X', step⟩ := Xs.multianewarray2F hexec hown hclink (va_AOA.use hover) harr (g := F0 m pc ls (.int k :: .int n :: rest)) rfl (by rw [hb]; exact hdg) rfl hn hk hb1 hb2 hb3 hdf hdd hcells hslots
  have ec : some cy = some comp := hcy.symm.trans fC
  cases ec
  generalize hF : Jvm.Free.Multi.fill (T.setVm vm₁) cA cy n.toNatClampNeg k.toNatClampNeg (defaultValue ty) n.toNatClampNeg = F at X' step
  have hTh : (T.setVm vm₁).heap = H := hT
  obtain ⟨f1, f2, -, -⟩ := Jvm.Free.Multi.fill_facts (T.setVm vm₁) cA cy n.toNatClampNeg k.toNatClampNeg (defaultValue ty) n.toNatClampNeg
  rw [hF, hTh] at f1 f2
  have hold : ∀ x : Nat, x < H.size → F.heap[x]? = H[x]? := fun x hx => by
    have := Jvm.Free.Multi.fill_old (T.setVm vm₁) cA cy n.toNatClampNeg k.toNatClampNeg (defaultValue ty) (a := x) (by rw [hTh]; exact hx) n.toNatClampNeg
    rw [hF, hTh] at this
    exact this
  have hrow : ∀ j : Nat, j < n.toNatClampNeg → F.heap[H.size + 1 + j]? = some (vp_cell cy z) := fun j hj => by
    have := Jvm.Free.Multi.fill_inner (T.setVm vm₁) cA cy n.toNatClampNeg k.toNatClampNeg (defaultValue ty) n.toNatClampNeg j hj
    rw [hF, hTh, hz] at this
    exact this
  have hout : Jvm.Free.Multi.outerC cA n.toNatClampNeg H.size n.toNatClampNeg = vp_cell cA (n.toNatClampNeg, .inr (.inr (.inr (.inr (fun i => if i < n.toNatClampNeg then some (H.size + 1 + i) else none))))) := by
    rw [vp_cell_q]
    exact vr_outer cA n.toNatClampNeg H.size n.toNatClampNeg
  rw [hout] at f2
  have hlt : ∀ a, a ∈ L → a < H.size := fun a ha => by
    obtain ⟨k9, hk9⟩ := va_pl_get (X := X) (f := f) ha
    exact (hP k9 _ hk9).lt
  have hnl : ∀ i : Nat, i < n.toNatClampNeg → H.size + 1 + i ∉ L := fun i _ h => by
    have := hlt _ h
    omega
  have hnm : ∀ a, a ∈ (List.range n.toNatClampNeg).map (fun i => H.size + 1 + i) → a ∉ L := fun a ha h => by
    obtain ⟨i, -, rfl⟩ := List.mem_map.mp ha
    have := hlt _ h
    omega
  have hP0 : va_P D cl (X ++ va_pl L f) F.heap := hP.kept (fun k9 x hx => hold x.1 ((hP k9 x hx).lt))
  have hP1 : va_P D cl ((X ++ va_pl L f) ++ [(H.size, .inl (cA, n.toNatClampNeg, .inr (.inr (.inr (.inr (fun i => if i < n.toNatClampNeg then some (H.size + 1 + i) else none))))))]) F.heap := hP0.app (fun k9 x hx => by
    have h0 : k9 < 1 := (List.getElem?_eq_some_iff.mp hx).1
    rw [show k9 = 0 by omega] at hx
    cases hx
    exact f2)
  have hP2 : va_P D cl (((X ++ va_pl L f) ++ [(H.size, .inl (cA, n.toNatClampNeg, .inr (.inr (.inr (.inr (fun i => if i < n.toNatClampNeg then some (H.size + 1 + i) else none))))))]) ++ ((List.range n.toNatClampNeg).map (fun i => H.size + 1 + i)).map (fun a => (a, .inl (cy, z)))) F.heap := hP1.app (fun k9 x hx => by
    obtain ⟨a, ha, rfl⟩ := List.mem_map.mp (List.mem_of_getElem? hx)
    obtain ⟨i, hi, rfl⟩ := List.mem_map.mp ha
    exact hrow i (List.mem_range.mp hi))
  have hD2 : va_D A (((X ++ va_pl L f) ++ [(H.size, .inl (cA, n.toNatClampNeg, .inr (.inr (.inr (.inr (fun i => if i < n.toNatClampNeg then some (H.size + 1 + i) else none))))))]) ++ ((List.range n.toNatClampNeg).map (fun i => H.size + 1 + i)).map (fun a => (a, .inl (cy, z)))) := by
    have hD1 := hD.push (e := .inl (cA, n.toNatClampNeg, .inr (.inr (.inr (.inr (fun i => if i < n.toNatClampNeg then some (H.size + 1 + i) else none)))))) hP rfl (hA _ hS.1)
    generalize hW1 : (X ++ va_pl L f) ++ [(H.size, .inl (cA, n.toNatClampNeg, .inr (.inr (.inr (.inr (fun i => if i < n.toNatClampNeg then some (H.size + 1 + i) else none))))))] = W1 at hD1 hP1 ⊢
    have hle : ∀ (k9 : Nat) (x : Nat × va_E), W1[k9]? = some x → x.1 ≤ H.size := fun k9 x hx => by
      rw [← hW1] at hx
      by_cases hl : k9 < (X ++ va_pl L f).length
      · rw [List.getElem?_append_left hl] at hx
        exact Nat.le_of_lt ((hP k9 x hx).lt)
      · rw [List.getElem?_append_right (by omega)] at hx
        have h0 : k9 - (X ++ va_pl L f).length < 1 := (List.getElem?_eq_some_iff.mp hx).1
        rw [show k9 - (X ++ va_pl L f).length = 0 by omega] at hx
        cases hx
        exact Nat.le_refl _
    have hr : ∀ (k9 : Nat) (x : Nat × va_E), (((List.range n.toNatClampNeg).map (fun i => H.size + 1 + i)).map (fun a => ((a, .inl (cy, z)) : Nat × va_E)))[k9]? = some x → x.1 = H.size + 1 + k9 := fun k9 x hx => by
      rw [List.getElem?_map, List.getElem?_map] at hx
      by_cases h9 : k9 < n.toNatClampNeg
      · rw [List.getElem?_range h9] at hx
        cases hx
        rfl
      · have hn0 : (List.range n.toNatClampNeg)[k9]? = none := List.getElem?_eq_none (by rw [List.length_range]; omega)
        rw [hn0] at hx
        cases hx
    refine ⟨fun i j x y hi hj hxy => ?_, fun k9 x hx => ?_⟩
    · by_cases h1 : i < W1.length <;> by_cases h2 : j < W1.length
      · rw [List.getElem?_append_left h1] at hi
        rw [List.getElem?_append_left h2] at hj
        exact hD1.1 i j x y hi hj hxy
      · rw [List.getElem?_append_left h1] at hi
        rw [List.getElem?_append_right (by omega)] at hj
        have := hle _ _ hi
        have := hr _ _ hj
        omega
      · rw [List.getElem?_append_right (by omega)] at hi
        rw [List.getElem?_append_left h2] at hj
        have := hle _ _ hj
        have := hr _ _ hi
        omega
      · rw [List.getElem?_append_right (by omega)] at hi hj
        have := hr _ _ hi
        have := hr _ _ hj
        omega
    · by_cases h1 : k9 < W1.length
      · rw [List.getElem?_append_left h1] at hx
        exact hD1.2 k9 x hx
      · rw [List.getElem?_append_right (by omega)] at hx
        have := hr _ _ hx
        exact hA _ (by have := hS.1; omega)
  have hAr : ArrOfT s cA (.array ty) := fun N9 z9 => by
    obtain ⟨-, k9, hk9, cm9, hkk9⟩ := (hO 0 0 0).1
    exact ⟨(fun q hq => by cases hq), k9, hk9, cm9, hkk9⟩
  have hK2 : va_K D cl (tys ++ [(cA, .array ty)]) s := ⟨hK.1, fun k9 x hx => by
    by_cases hl : k9 < tys.length
    · rw [List.getElem?_append_left hl] at hx
      exact hK.2 k9 x hx
    · rw [List.getElem?_append_right (by omega)] at hx
      have h0 : k9 - tys.length < 1 := (List.getElem?_eq_some_iff.mp hx).1
      rw [show k9 - tys.length = 0 by omega] at hx
      cases hx
      exact ⟨hAr, fA⟩⟩
  obtain ⟨t, a1, b1⟩ := kk H.size (fun i => H.size + 1 + i) cA F.heap (fun i j _ _ h => by have h9 : H.size + 1 + i = H.size + 1 + j := h; omega) hnl hK2 (by rw [← vr_rows hnm]; exact vr_lay hP2) (by rw [← vr_rows hnm]; exact vr_layD hD2) ⟨by rw [f1]; have := hS.1; omega, fun x h1 h2 => (hold x (Nat.lt_of_lt_of_le h1 hS.1)).trans (hS.2.1 x h1 h2), hS.2.2⟩ F rfl X'
  refine ⟨t, step t ?_, b1⟩
  have e : T.heap.size = H.size := by rw [hT]
  rw [e]
  exact a1
end VGM
/-! ===== END ===== -/
end
section
/-! what a query looks at and finds: lists of reads -/
/-- the list is in order -/
theorem selN_up {P : Nat → Bool} {lo n i : Nat} (h : i + 1 < (selN P lo n).length) : (selN P lo n).getD i 0 < (selN P lo n).getD (i + 1) 0 := by
  induction n with
  | zero => exact absurd h (Nat.not_lt_zero _)
  | succ n ih =>
    by_cases hc : lo ≤ n ∧ P n = true
    · rw [selN_yes hc.1 hc.2] at h ⊢
      rw [List.length_append] at h
      have h : i + 1 < (selN P lo n).length + 1 := h
      by_cases e : i + 1 < (selN P lo n).length
      · rw [getD_app (by omega), getD_app e]
        exact ih e
      · rw [getD_app (by omega), show i + 1 = (selN P lo n).length by omega, getD_last]
        have h1 := selN_mem.mp (getD_mem (L := selN P lo n) (i := i) (by omega))
        exact h1.2.1
    · have e1 : selN P lo (n + 1) = selN P lo n := by
        show selN P lo n ++ (if lo ≤ n ∧ P n = true then [n] else []) = _
        rw [if_neg hc, List.append_nil]
      rw [e1] at h ⊢
      exact ih h
theorem selN_congr {P P' : Nat → Bool} {lo n : Nat} (h : ∀ i, lo ≤ i → i < n → P i = P' i) : selN P lo n = selN P' lo n := by
  induction n with
  | zero => rfl
  | succ n ih =>
    show selN P lo n ++ (if lo ≤ n ∧ P n = true then [n] else []) = selN P' lo n ++ (if lo ≤ n ∧ P' n = true then [n] else [])
    rw [ih (fun i h1 h2 => h i h1 (by omega))]
    by_cases hl : lo ≤ n
    · rw [h n hl (by omega)]
    · rw [if_neg (fun q => hl q.1), if_neg (fun q => hl q.1)]
/-- the first n of L of which ov holds -/
def fndL (L : List Nat) (ov : Nat → Bool) : Nat → List Nat
  | 0 => []
  | n + 1 => fndL L ov n ++ (if ov (L.getD n 0) = true then [L.getD n 0] else [])
theorem fndL_yes {L : List Nat} {ov : Nat → Bool} {n : Nat} (h : ov (L.getD n 0) = true) : fndL L ov (n + 1) = fndL L ov n ++ [L.getD n 0] := by
  show fndL L ov n ++ (if ov (L.getD n 0) = true then [L.getD n 0] else []) = _
  rw [if_pos h]
theorem fndL_no {L : List Nat} {ov : Nat → Bool} {n : Nat} (h : ¬ ov (L.getD n 0) = true) : fndL L ov (n + 1) = fndL L ov n := by
  show fndL L ov n ++ (if ov (L.getD n 0) = true then [L.getD n 0] else []) = _
  rw [if_neg h, List.append_nil]
theorem fndL_len {L : List Nat} {ov : Nat → Bool} {n : Nat} : (fndL L ov n).length ≤ n := by
  induction n with
  | zero => exact Nat.le_refl _
  | succ n ih =>
    by_cases h : ov (L.getD n 0) = true
    · rw [fndL_yes h, List.length_append]
      show _ + 1 ≤ _
      omega
    · rw [fndL_no h]
      omega
theorem fndL_app {L L2 : List Nat} {ov : Nat → Bool} {n : Nat} (h : n ≤ L.length) : fndL (L ++ L2) ov n = fndL L ov n := by
  induction n with
  | zero => rfl
  | succ n ih =>
    show fndL (L ++ L2) ov n ++ _ = fndL L ov n ++ _
    rw [ih (by omega), getD_app (by omega)]
theorem fndL_sel {P ov : Nat → Bool} {lo n : Nat} : fndL (selN P lo n) ov (selN P lo n).length = selN (fun z => P z && ov z) lo n := by
  induction n with
  | zero => rfl
  | succ n ih =>
    by_cases hc : lo ≤ n ∧ P n = true
    · rw [selN_yes hc.1 hc.2, List.length_append]
      show fndL (selN P lo n ++ [n]) ov ((selN P lo n).length + 1) = _
      by_cases h : ov n = true
      · rw [fndL_yes (by rw [getD_last]; exact h), getD_last, fndL_app (Nat.le_refl _), ih, selN_yes hc.1 (by show (P n && ov n) = true; rw [hc.2, h]; rfl)]
      · rw [fndL_no (by rw [getD_last]; exact h), fndL_app (Nat.le_refl _), ih, selN_no (fun q => h (by have q : (P n && ov n) = true := q; rw [hc.2] at q; exact q))]
    · have e1 : selN P lo (n + 1) = selN P lo n := by
        show selN P lo n ++ (if lo ≤ n ∧ P n = true then [n] else []) = _
        rw [if_neg hc, List.append_nil]
      have e2 : selN (fun z => P z && ov z) lo (n + 1) = selN (fun z => P z && ov z) lo n := by
        show selN (fun z => P z && ov z) lo n ++ (if lo ≤ n ∧ (P n && ov n) = true then [n] else []) = _
        rw [if_neg (fun q => hc ⟨q.1, (Bool.and_eq_true _ _ ▸ q.2).1⟩), List.append_nil]
      rw [e1, e2]
      exact ih
/-- starts of rows: one behind the other -/
theorem sN_mono {sN : Nat → Nat} {cn : Nat} (h : ∀ z, z < cn → sN z < sN (z + 1)) {z z' : Nat} (hz : z < z') (hc : z' ≤ cn) : sN (z + 1) ≤ sN z' := by
  induction z' with
  | zero => omega
  | succ w ih =>
    by_cases e : z = w
    · rw [e]
      exact Nat.le_refl _
    · have h1 := ih (by omega) (by omega)
      have h2 := h w (by omega)
      omega
theorem acs_step {S : Nat → Prop} {L : List Nat} {sN : Nat → Nat} {cn i nx : Nat} (hmo : ∀ z, z < cn → sN z < sN (z + 1)) (hL : ∀ q, q ≤ i → L.getD q 0 < cn) (hLs : ∀ q, q + 1 ≤ i → L.getD q 0 < L.getD (q + 1) 0) (hal : ∀ q, q < i → ∀ k, sN (L.getD q 0) / 40 ≤ k → k ≤ (sN (L.getD q 0 + 1) - 1) / 40 → S k) (hnx : nx = 0 ∨ (0 < i ∧ nx = (sN (L.getD (i - 1) 0 + 1) - 1) / 40 + 1)) (h68 : ∀ z : Nat, max nx (sN (L.getD i 0) / 40) ≤ z → (z : Int) ≤ (((sN (L.getD i 0 + 1) - 1) / 40 : Nat) : Int) → S z) : ∀ q, q < i + 1 → ∀ k, sN (L.getD q 0) / 40 ≤ k → k ≤ (sN (L.getD q 0 + 1) - 1) / 40 → S k := by
  intro q hq k h1 h2
  by_cases e : q = i
  · subst e
    by_cases h3 : nx ≤ k
    · exact h68 k (by omega) (by omega)
    · rcases hnx with hnx | ⟨hi0, hnx⟩
      · omega
      · obtain ⟨w, rfl⟩ : ∃ w, q = w + 1 := ⟨q - 1, by omega⟩
        rw [Nat.add_sub_cancel] at hnx
        have h4 := hLs w (by omega)
        have h5 := sN_mono hmo h4 (Nat.le_of_lt (hL (w + 1) (by omega)))
        have h6 := hmo (L.getD w 0) (hL w (by omega))
        exact hal w (by omega) k (by omega) (by omega)
  · exact hal q (by omega) k h1 h2
/-- the first of its kind is one -/
theorem first_one {C : Nat → Prop} {n i j : Nat} (hi : i ≤ n) (hi1 : ∀ z, z < i → ¬ C z) (hi2 : i < n → C i) (hj : j ≤ n) (hj1 : ∀ z, z < j → ¬ C z) (hj2 : j < n → C j) : i = j := by
  rcases Nat.lt_trichotomy i j with h | h | h
  · exact absurd (hi2 (by omega)) (hj1 i h)
  · exact h
  · exact absurd (hj2 (by omega)) (hi1 j h)
/-- a read more in the finding -/
theorem qry_push {F : List Nat} {n : Nat} {G2 G4 : Nat → Nat → Int} {O2 SB KS : Nat → Int} {sN : Nat → Nat} {v : Int} (h : ∀ q, q < F.length → (∀ t, t < sN (F.getD q 0 + 1) - sN (F.getD q 0) → G2 q t = SB (sN (F.getD q 0) + t)) ∧ O2 q = ((64 * (KS (sN (F.getD q 0) / 40)).toNat + sN (F.getD q 0) % 40 : Nat) : Int)) (h1 : ∀ z, z ≠ F.length → G4 z = G2 z) (h2 : ∀ t, t < sN (n + 1) - sN n → G4 F.length t = SB (sN n + t)) (hv : v = ((64 * (KS (sN n / 40)).toNat + sN n % 40 : Nat) : Int)) : ∀ q, q < (F ++ [n]).length → (∀ t, t < sN ((F ++ [n]).getD q 0 + 1) - sN ((F ++ [n]).getD q 0) → G4 q t = SB (sN ((F ++ [n]).getD q 0) + t)) ∧ bU O2 F.length v q = ((64 * (KS (sN ((F ++ [n]).getD q 0) / 40)).toNat + sN ((F ++ [n]).getD q 0) % 40 : Nat) : Int) := by
  intro q hq
  rw [List.length_append] at hq
  have hq : q < F.length + 1 := hq
  by_cases e : q = F.length
  · subst e
    rw [getD_last, bU_s]
    exact ⟨h2, hv⟩
  · rw [getD_app (by omega), bU_n e, h1 q e]
    exact h q (by omega)
end
section
/-! new int[24][22]: its rows are the pool; over va_mna (of the kit's printed names, laid ahead of this part by gen/make.py) -/
section MNA
variable {p : Program} {l : Launch} {e : Env} {R : Room} {s : State} {m : MethodId} {args : Array Value} {below : List Frame} {meth : Method} {c : Code} {H : Heap} {locs : List Loc} {cells slots : Nat} {Q : State → Prop}
variable {cc : ByteArray} {pc : Nat} {ls : Array Slot} {rest : List Value} {D : va_G} {A : Nat → Prop} {cI cO : ClassId} {X : va_W} {H0 : Heap}
theorem mna_rows {cI : ClassId} {r : Nat → Nat} {f : Nat → va_E} : va_pl ([] ++ (List.range 24).map r) (vr_up f ((List.range 24).map r) (.inl (cI, 22, .inl (fun _ => iI 0)))) = rwP cI r (fun _ _ => 0) := by
  unfold va_pl rwP
  rw [List.nil_append, List.map_map]
  apply List.map_congr_left
  intro i hi
  show (r i, vr_up f ((List.range 24).map r) (.inl (cI, 22, .inl (fun _ => iI 0))) (r i)) = _
  rw [vr_up_in (List.mem_map.mpr ⟨i, hi, rfl⟩)]
theorem bk_mna (hx : p.tables.exec = Jvm.exec) (hb : c.code = cc) {own : String} {index : Nat} (hown : s.vm.findClass own = some m.cls) (hclink : (Cond.classLink own index "[[I").before args s = true) (hover : (Cond.arrayOver (.array .int)).before #[] s = true) (harr : (Cond.arrayClass .int).before args s = true) (hK : va_K D classes [(cI, .int), (cO, .array .int)] s) (hP : va_P D classes X H) (hD : va_D A X) (hS : va_S A H0 H locs) (hA : ∀ q, H0.size ≤ q → A q) (hcells : cells + 25 ≤ R.cells) (hslots : slots + 552 ≤ R.slots) (hdg : decode cc pc = .ok (.multianewarray index 2, 4))
    (kk : ∀ (q : Nat) (r : Nat → Nat) (H1 : Heap), va_P D classes ((X ++ [(q, aq cO 24 (rwF r))]) ++ rwP cI r (fun _ _ => 0)) H1 → va_D A ((X ++ [(q, aq cO 24 (rwF r))]) ++ rwP cI r (fun _ _ => 0)) → va_S A H0 H1 locs → W p l e R s m args below meth c H1 locs (cells + 25) (slots + 552) Q (F0 m (pc + 4) ls (.ref q :: rest))) : W p l e R s m args below meth c H locs cells slots Q (F0 m pc ls (.int (iI 22) :: .int (iI 24) :: rest)) := by
  have hP0 : va_P D classes (X ++ va_pl [] (fun _ => .inl (cI, 22, .inl (fun _ => iI 0)))) H := by
    show va_P D classes (X ++ []) H
    rw [List.append_nil]
    exact hP
  have hD0 : va_D A (X ++ va_pl [] (fun _ => .inl (cI, 22, .inl (fun _ => iI 0)))) := by
    show va_D A (X ++ [])
    rw [List.append_nil]
    exact hD
  refine va_mna (X := X) (L := []) (ty := .int) (cy := cI) (N' := 24) (K' := 22) (z := (22, .inl (fun _ => iI 0))) hx hb hown hclink hover harr (hK.2 0 _ rfl).2 hK hP0 hD0 hS hA (by decide) (by decide) (by decide) (by decide) (by decide) (by decide) (by decide) (by decide) (by decide) hcells hslots (fun c => ?_) hdg (fun q r cA H1 _ _ hK1 hP1 hD1 hS1 => ?_)
  · rw [vp_cell_i, ← iI_0]
    exact arrV_new c 22 (.int 0)
  · have e1 := (hK1.2 2 (cA, .array .int) rfl).2
    have e2 := (hK.2 1 _ rfl).2
    have e3 : cA = cO := Option.some.inj (Eq.trans (Eq.symm e1) e2)
    subst e3
    rw [mna_rows] at hP1 hD1
    exact kk q r H1 hP1 hD1 hS1
end MNA
end
