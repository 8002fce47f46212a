/-! printed by wip/gen -/
theorem k_9 : (Jvm.Cond.initialized "PipelineBelt$Grouper") ∈ lw_g := lw_gm (List.mem_append_right _ (List.mem_of_getElem? (i := 9) (by decide +kernel))) rfl
theorem k_212 : (Jvm.Cond.fieldLink "PipelineBelt$Grouper" (30 : Nat) "PipelineBelt$Grouper" "store" "LPipelineBelt$Store;") ∈ lw_g := lw_gm (List.mem_append_right _ (List.mem_of_getElem? (i := 212) (by decide +kernel))) rfl
theorem k_213 : (Jvm.Cond.fieldLink "PipelineBelt$Grouper" (34 : Nat) "PipelineBelt$Grouper" "belts" "LPipelineBelt$Belts;") ∈ lw_g := lw_gm (List.mem_append_right _ (List.mem_of_getElem? (i := 213) (by decide +kernel))) rfl
theorem k_214 : (Jvm.Cond.fieldLink "PipelineBelt$Grouper" (38 : Nat) "PipelineBelt$Grouper" "path" "LPipelineBelt$Path;") ∈ lw_g := lw_gm (List.mem_append_right _ (List.mem_of_getElem? (i := 214) (by decide +kernel))) rfl
theorem k_215 : (Jvm.Cond.fieldLink "PipelineBelt$Grouper" (9 : Nat) "PipelineBelt$Grouper" "keys" "[I") ∈ lw_g := lw_gm (List.mem_append_right _ (List.mem_of_getElem? (i := 215) (by decide +kernel))) rfl
theorem k_216 : (Jvm.Cond.fieldLink "PipelineBelt$Grouper" (15 : Nat) "PipelineBelt$Grouper" "hashes" "[I") ∈ lw_g := lw_gm (List.mem_append_right _ (List.mem_of_getElem? (i := 216) (by decide +kernel))) rfl
theorem k_217 : (Jvm.Cond.fieldLink "PipelineBelt$Grouper" (18 : Nat) "PipelineBelt$Grouper" "firsts" "[I") ∈ lw_g := lw_gm (List.mem_append_right _ (List.mem_of_getElem? (i := 217) (by decide +kernel))) rfl
theorem k_218 : (Jvm.Cond.fieldLink "PipelineBelt$Grouper" (21 : Nat) "PipelineBelt$Grouper" "lasts" "[I") ∈ lw_g := lw_gm (List.mem_append_right _ (List.mem_of_getElem? (i := 218) (by decide +kernel))) rfl
theorem k_219 : (Jvm.Cond.fieldLink "PipelineBelt$Grouper" (24 : Nat) "PipelineBelt$Grouper" "nexts" "[I") ∈ lw_g := lw_gm (List.mem_append_right _ (List.mem_of_getElem? (i := 219) (by decide +kernel))) rfl
theorem k_220 : (Jvm.Cond.fieldLink "PipelineBelt$Grouper" (62 : Nat) "PipelineBelt$Grouper" "groups" "I") ∈ lw_g := lw_gm (List.mem_append_right _ (List.mem_of_getElem? (i := 220) (by decide +kernel))) rfl
theorem k_221 : (Jvm.Cond.fieldLink "PipelineBelt$Grouper" (27 : Nat) "PipelineBelt$Grouper" "values" "[I") ∈ lw_g := lw_gm (List.mem_append_right _ (List.mem_of_getElem? (i := 221) (by decide +kernel))) rfl
theorem k_222 : (Jvm.Cond.fieldLink "PipelineBelt$Grouper" (167 : Nat) "PipelineBelt$Grouper" "held" "I") ∈ lw_g := lw_gm (List.mem_append_right _ (List.mem_of_getElem? (i := 222) (by decide +kernel))) rfl
theorem k_223 : (Jvm.Cond.fieldLink "PipelineBelt$Grouper" (180 : Nat) "PipelineBelt$Grouper" "sum" "J") ∈ lw_g := lw_gm (List.mem_append_right _ (List.mem_of_getElem? (i := 223) (by decide +kernel))) rfl
theorem k_711 : (Jvm.Cond.methodLink "PipelineBelt$Grouper" (76 : Nat) ({ cls := "PipelineBelt$Store", name := "kindOf", desc := "(I)I" } : Jvm.MethodName)) ∈ lw_g := lw_gm (List.mem_append_right _ (List.mem_of_getElem? (i := 711) (by decide +kernel))) rfl
theorem k_713 : (Jvm.Cond.methodLink "PipelineBelt$Grouper" (82 : Nat) ({ cls := "PipelineBelt$Store", name := "endOf", desc := "(I)I" } : Jvm.MethodName)) ∈ lw_g := lw_gm (List.mem_append_right _ (List.mem_of_getElem? (i := 713) (by decide +kernel))) rfl
theorem k_714 : (Jvm.Cond.methodLink "PipelineBelt$Grouper" (46 : Nat) ({ cls := "PipelineBelt$Store", name := "placeOf", desc := "(I)I" } : Jvm.MethodName)) ∈ lw_g := lw_gm (List.mem_append_right _ (List.mem_of_getElem? (i := 714) (by decide +kernel))) rfl
theorem k_715 : (Jvm.Cond.methodLink "PipelineBelt$Grouper" (51 : Nat) ({ cls := "PipelineBelt$Store", name := "valueOf", desc := "(I)I" } : Jvm.MethodName)) ∈ lw_g := lw_gm (List.mem_append_right _ (List.mem_of_getElem? (i := 715) (by decide +kernel))) rfl
theorem k_722 : (Jvm.Cond.methodLink "PipelineBelt$Grouper" (98 : Nat) ({ cls := "PipelineBelt$Path", name := "readExpression", desc := "(I)Z" } : Jvm.MethodName)) ∈ lw_g := lw_gm (List.mem_append_right _ (List.mem_of_getElem? (i := 722) (by decide +kernel))) rfl
theorem k_728 : (Jvm.Cond.methodLink "PipelineBelt$Grouper" (107 : Nat) ({ cls := "PipelineBelt$Grouper", name := "toldBy", desc := "(I)I" } : Jvm.MethodName)) ∈ lw_g := lw_gm (List.mem_append_right _ (List.mem_of_getElem? (i := 728) (by decide +kernel))) rfl
theorem k_730 : (Jvm.Cond.instanceMethod ({ cls := "PipelineBelt$Grouper", name := "toldBy", desc := "(I)I" } : Jvm.MethodName)) ∈ lw_g := lw_gm (List.mem_append_right _ (List.mem_of_getElem? (i := 730) (by decide +kernel))) rfl
theorem k_748 : (Jvm.Cond.constant "PipelineBelt$Grouper" (129 : Nat) (122000 : Int32)) ∈ lw_g := lw_gm (List.mem_append_right _ (List.mem_of_getElem? (i := 748) (by decide +kernel))) rfl
theorem k_749 : (Jvm.Cond.methodLink "PipelineBelt$Grouper" (130 : Nat) ({ cls := "PipelineBelt$Path", name := "makeRowsAt", desc := "(I)V" } : Jvm.MethodName)) ∈ lw_g := lw_gm (List.mem_append_right _ (List.mem_of_getElem? (i := 749) (by decide +kernel))) rfl
theorem k_750 : (Jvm.Cond.methodLink "PipelineBelt$Grouper" (142 : Nat) ({ cls := "PipelineBelt$Belts", name := "document", desc := "(I)I" } : Jvm.MethodName)) ∈ lw_g := lw_gm (List.mem_append_right _ (List.mem_of_getElem? (i := 750) (by decide +kernel))) rfl
theorem k_751 : (Jvm.Cond.methodLink "PipelineBelt$Grouper" (145 : Nat) ({ cls := "PipelineBelt$Path", name := "value", desc := "(II)I" } : Jvm.MethodName)) ∈ lw_g := lw_gm (List.mem_append_right _ (List.mem_of_getElem? (i := 751) (by decide +kernel))) rfl
theorem k_752 : (Jvm.Cond.methodLink "PipelineBelt$Grouper" (149 : Nat) ({ cls := "PipelineBelt$Grouper", name := "gatherOne", desc := "(II)V" } : Jvm.MethodName)) ∈ lw_g := lw_gm (List.mem_append_right _ (List.mem_of_getElem? (i := 752) (by decide +kernel))) rfl
theorem k_754 : (Jvm.Cond.instanceMethod ({ cls := "PipelineBelt$Grouper", name := "gatherOne", desc := "(II)V" } : Jvm.MethodName)) ∈ lw_g := lw_gm (List.mem_append_right _ (List.mem_of_getElem? (i := 754) (by decide +kernel))) rfl
theorem k_756 : (Jvm.Cond.methodLink "PipelineBelt$Grouper" (152 : Nat) ({ cls := "PipelineBelt$Store", name := "hash", desc := "(II)I" } : Jvm.MethodName)) ∈ lw_g := lw_gm (List.mem_append_right _ (List.mem_of_getElem? (i := 756) (by decide +kernel))) rfl
theorem k_783 : (Jvm.Cond.methodLink "PipelineBelt$Grouper" (155 : Nat) ({ cls := "PipelineBelt$Store", name := "compare", desc := "(III)I" } : Jvm.MethodName)) ∈ lw_g := lw_gm (List.mem_append_right _ (List.mem_of_getElem? (i := 783) (by decide +kernel))) rfl
theorem k_795 : (Jvm.Cond.methodLink "PipelineBelt$Grouper" (158 : Nat) ({ cls := "PipelineBelt$Grouper", name := "join", desc := "(II)V" } : Jvm.MethodName)) ∈ lw_g := lw_gm (List.mem_append_right _ (List.mem_of_getElem? (i := 795) (by decide +kernel))) rfl
theorem k_797 : (Jvm.Cond.instanceMethod ({ cls := "PipelineBelt$Grouper", name := "join", desc := "(II)V" } : Jvm.MethodName)) ∈ lw_g := lw_gm (List.mem_append_right _ (List.mem_of_getElem? (i := 797) (by decide +kernel))) rfl
theorem k_807 : (Jvm.Cond.constant "PipelineBelt$Grouper" (170 : Nat) (162000 : Int32)) ∈ lw_g := lw_gm (List.mem_append_right _ (List.mem_of_getElem? (i := 807) (by decide +kernel))) rfl
theorem k_808 : (Jvm.Cond.methodLink "PipelineBelt$Grouper" (164 : Nat) ({ cls := "PipelineBelt$Grouper", name := "addUp", desc := "()Z" } : Jvm.MethodName)) ∈ lw_g := lw_gm (List.mem_append_right _ (List.mem_of_getElem? (i := 808) (by decide +kernel))) rfl
theorem k_810 : (Jvm.Cond.instanceMethod ({ cls := "PipelineBelt$Grouper", name := "addUp", desc := "()Z" } : Jvm.MethodName)) ∈ lw_g := lw_gm (List.mem_append_right _ (List.mem_of_getElem? (i := 810) (by decide +kernel))) rfl
theorem k_812 : (Jvm.Cond.methodLink "PipelineBelt$Grouper" (171 : Nat) ({ cls := "PipelineBelt$Store", name := "classOf", desc := "(I)I" } : Jvm.MethodName)) ∈ lw_g := lw_gm (List.mem_append_right _ (List.mem_of_getElem? (i := 812) (by decide +kernel))) rfl
theorem k_813 : (Jvm.Cond.methodLink "PipelineBelt$Grouper" (174 : Nat) ({ cls := "PipelineBelt$Store", name := "number", desc := "(I)J" } : Jvm.MethodName)) ∈ lw_g := lw_gm (List.mem_append_right _ (List.mem_of_getElem? (i := 813) (by decide +kernel))) rfl
theorem k_814 : (Jvm.Cond.constantLong "PipelineBelt$Grouper" (178 : Nat) (4294967295 : Int64)) ∈ lw_g := lw_gm (List.mem_append_right _ (List.mem_of_getElem? (i := 814) (by decide +kernel))) rfl
theorem k_820 : (Jvm.Cond.methodLink "PipelineBelt$Grouper" (188 : Nat) ({ cls := "PipelineBelt$Writer", name := "open", desc := "()I" } : Jvm.MethodName)) ∈ lw_g := lw_gm (List.mem_append_right _ (List.mem_of_getElem? (i := 820) (by decide +kernel))) rfl
theorem k_821 : (Jvm.Cond.methodLink "PipelineBelt$Grouper" (194 : Nat) ({ cls := "PipelineBelt$Writer", name := "name", desc := "(III)V" } : Jvm.MethodName)) ∈ lw_g := lw_gm (List.mem_append_right _ (List.mem_of_getElem? (i := 821) (by decide +kernel))) rfl
theorem k_822 : (Jvm.Cond.methodLink "PipelineBelt$Grouper" (198 : Nat) ({ cls := "PipelineBelt$Writer", name := "copy", desc := "(II)V" } : Jvm.MethodName)) ∈ lw_g := lw_gm (List.mem_append_right _ (List.mem_of_getElem? (i := 822) (by decide +kernel))) rfl
theorem k_827 : (Jvm.Cond.methodLink "PipelineBelt$Grouper" (208 : Nat) ({ cls := "PipelineBelt$Writer", name := "whole64", desc := "(J)V" } : Jvm.MethodName)) ∈ lw_g := lw_gm (List.mem_append_right _ (List.mem_of_getElem? (i := 827) (by decide +kernel))) rfl
theorem k_828 : (Jvm.Cond.instanceMethod ({ cls := "PipelineBelt$Writer", name := "whole64", desc := "(J)V" } : Jvm.MethodName)) ∈ lw_g := lw_gm (List.mem_append_right _ (List.mem_of_getElem? (i := 828) (by decide +kernel))) rfl
theorem k_829 : (Jvm.Cond.selects "PipelineBelt$Writer" ({ cls := "PipelineBelt$Writer", name := "whole64", desc := "(J)V" } : Jvm.MethodName) ({ cls := "PipelineBelt$Writer", name := "whole64", desc := "(J)V" } : Jvm.MethodName)) ∈ lw_g := lw_gm (List.mem_append_right _ (List.mem_of_getElem? (i := 829) (by decide +kernel))) rfl
theorem k_831 : (Jvm.Cond.methodLink "PipelineBelt$Grouper" (212 : Nat) ({ cls := "PipelineBelt$Grouper", name := "dropTwins", desc := "()V" } : Jvm.MethodName)) ∈ lw_g := lw_gm (List.mem_append_right _ (List.mem_of_getElem? (i := 831) (by decide +kernel))) rfl
theorem k_833 : (Jvm.Cond.instanceMethod ({ cls := "PipelineBelt$Grouper", name := "dropTwins", desc := "()V" } : Jvm.MethodName)) ∈ lw_g := lw_gm (List.mem_append_right _ (List.mem_of_getElem? (i := 833) (by decide +kernel))) rfl
theorem k_835 : (Jvm.Cond.methodLink "PipelineBelt$Grouper" (215 : Nat) ({ cls := "PipelineBelt$Grouper", name := "writeRow", desc := "(LPipelineBelt$Writer;)V" } : Jvm.MethodName)) ∈ lw_g := lw_gm (List.mem_append_right _ (List.mem_of_getElem? (i := 835) (by decide +kernel))) rfl
theorem k_837 : (Jvm.Cond.instanceMethod ({ cls := "PipelineBelt$Grouper", name := "writeRow", desc := "(LPipelineBelt$Writer;)V" } : Jvm.MethodName)) ∈ lw_g := lw_gm (List.mem_append_right _ (List.mem_of_getElem? (i := 837) (by decide +kernel))) rfl
theorem k_839 : (Jvm.Cond.methodLink "PipelineBelt$Grouper" (226 : Nat) ({ cls := "PipelineBelt$Writer", name := "index", desc := "(II)V" } : Jvm.MethodName)) ∈ lw_g := lw_gm (List.mem_append_right _ (List.mem_of_getElem? (i := 839) (by decide +kernel))) rfl
theorem k_840 : (Jvm.Cond.methodLink "PipelineBelt$Grouper" (205 : Nat) ({ cls := "PipelineBelt$Writer", name := "close", desc := "(I)V" } : Jvm.MethodName)) ∈ lw_g := lw_gm (List.mem_append_right _ (List.mem_of_getElem? (i := 840) (by decide +kernel))) rfl
theorem k_841 : (Jvm.Cond.methodLink "PipelineBelt$Grouper" (219 : Nat) ({ cls := "PipelineBelt$Grouper", name := "least", desc := "(I)I" } : Jvm.MethodName)) ∈ lw_g := lw_gm (List.mem_append_right _ (List.mem_of_getElem? (i := 841) (by decide +kernel))) rfl
theorem k_843 : (Jvm.Cond.instanceMethod ({ cls := "PipelineBelt$Grouper", name := "least", desc := "(I)I" } : Jvm.MethodName)) ∈ lw_g := lw_gm (List.mem_append_right _ (List.mem_of_getElem? (i := 843) (by decide +kernel))) rfl
theorem k_845 : (Jvm.Cond.methodLink "PipelineBelt$Grouper" (222 : Nat) ({ cls := "PipelineBelt$Grouper", name := "outermost", desc := "(Z)I" } : Jvm.MethodName)) ∈ lw_g := lw_gm (List.mem_append_right _ (List.mem_of_getElem? (i := 845) (by decide +kernel))) rfl
theorem k_847 : (Jvm.Cond.instanceMethod ({ cls := "PipelineBelt$Grouper", name := "outermost", desc := "(Z)I" } : Jvm.MethodName)) ∈ lw_g := lw_gm (List.mem_append_right _ (List.mem_of_getElem? (i := 847) (by decide +kernel))) rfl
abbrev b_GR_toldBy : ByteArray := prog_6_method_11_code
def y_GR_toldBy : MethodName := ⟨R_GR, "toldBy", "(I)I"⟩
theorem kc_GR_toldBy : Cond.code y_GR_toldBy b_GR_toldBy 2 (some .int) ∈ lw_g := lw_gm (List.mem_append_right _ (List.mem_of_getElem? (i := 731) (by decide +kernel))) rfl
abbrev mw_GR_toldBy : List Cond := Cond.code y_GR_toldBy b_GR_toldBy 2 (some .int) :: lw_g
theorem hd_GR_toldBy : y_GR_toldBy.cls = R_GR ∧ y_GR_toldBy.cls ≠ "java/lang/invoke/MethodHandle" ∧ y_GR_toldBy.cls ≠ "java/lang/invoke/VarHandle" ∧ (parseMethodDescriptor y_GR_toldBy.desc).map (fun d => d.parameters.length) = some 1 := by decide +kernel
theorem kp_GR_toldBy : Cond.selects R_GR y_GR_toldBy y_GR_toldBy ∈ lw_g := lw_gm (List.mem_append_left _ (by decide +kernel)) rfl
theorem d_GR_toldBy_0 : decode b_GR_toldBy 0 = .ok (.aload_n 0, 1) := by decide +kernel
theorem d_GR_toldBy_1 : decode b_GR_toldBy 1 = .ok (.getfield 30, 3) := by decide +kernel
theorem d_GR_toldBy_4 : decode b_GR_toldBy 4 = .ok (.iload_n 1, 1) := by decide +kernel
theorem d_GR_toldBy_5 : decode b_GR_toldBy 5 = .ok (.invokestatic 46, 3) := by decide +kernel
theorem d_GR_toldBy_8 : decode b_GR_toldBy 8 = .ok (.iconst 4, 1) := by decide +kernel
theorem d_GR_toldBy_9 : decode b_GR_toldBy 9 = .ok (.iadd, 1) := by decide +kernel
theorem d_GR_toldBy_10 : decode b_GR_toldBy 10 = .ok (.invokevirtual 51, 3) := by decide +kernel
theorem d_GR_toldBy_13 : decode b_GR_toldBy 13 = .ok (.ireturn, 1) := by decide +kernel
abbrev b_GR_join : ByteArray := prog_6_method_9_code
def y_GR_join : MethodName := ⟨R_GR, "join", "(II)V"⟩
theorem kc_GR_join : Cond.code y_GR_join b_GR_join 4 none ∈ lw_g := lw_gm (List.mem_append_right _ (List.mem_of_getElem? (i := 798) (by decide +kernel))) rfl
abbrev mw_GR_join : List Cond := Cond.code y_GR_join b_GR_join 4 none :: lw_g
theorem hd_GR_join : y_GR_join.cls = R_GR ∧ y_GR_join.cls ≠ "java/lang/invoke/MethodHandle" ∧ y_GR_join.cls ≠ "java/lang/invoke/VarHandle" ∧ (parseMethodDescriptor y_GR_join.desc).map (fun d => d.parameters.length) = some 2 := by decide +kernel
theorem kp_GR_join : Cond.selects R_GR y_GR_join y_GR_join ∈ lw_g := lw_gm (List.mem_append_left _ (by decide +kernel)) rfl
theorem d_GR_join_0 : decode b_GR_join 0 = .ok (.aload_n 0, 1) := by decide +kernel
theorem d_GR_join_1 : decode b_GR_join 1 = .ok (.getfield 21, 3) := by decide +kernel
theorem d_GR_join_4 : decode b_GR_join 4 = .ok (.iload_n 2, 1) := by decide +kernel
theorem d_GR_join_5 : decode b_GR_join 5 = .ok (.iaload, 1) := by decide +kernel
theorem d_GR_join_6 : decode b_GR_join 6 = .ok (.istore_n 3, 1) := by decide +kernel
theorem d_GR_join_7 : decode b_GR_join 7 = .ok (.iload_n 3, 1) := by decide +kernel
theorem d_GR_join_8 : decode b_GR_join 8 = .ok (.ifCond .lt 17, 3) := by decide +kernel
theorem d_GR_join_11 : decode b_GR_join 11 = .ok (.iload_n 3, 1) := by decide +kernel
theorem d_GR_join_12 : decode b_GR_join 12 = .ok (.sipush 200, 3) := by decide +kernel
theorem d_GR_join_15 : decode b_GR_join 15 = .ok (.if_icmp .ge 10, 3) := by decide +kernel
theorem d_GR_join_18 : decode b_GR_join 18 = .ok (.aload_n 0, 1) := by decide +kernel
theorem d_GR_join_19 : decode b_GR_join 19 = .ok (.getfield 24, 3) := by decide +kernel
theorem d_GR_join_22 : decode b_GR_join 22 = .ok (.iload_n 3, 1) := by decide +kernel
theorem d_GR_join_23 : decode b_GR_join 23 = .ok (.iload_n 1, 1) := by decide +kernel
theorem d_GR_join_24 : decode b_GR_join 24 = .ok (.iastore, 1) := by decide +kernel
theorem d_GR_join_25 : decode b_GR_join 25 = .ok (.aload_n 0, 1) := by decide +kernel
theorem d_GR_join_26 : decode b_GR_join 26 = .ok (.getfield 21, 3) := by decide +kernel
theorem d_GR_join_29 : decode b_GR_join 29 = .ok (.iload_n 2, 1) := by decide +kernel
theorem d_GR_join_30 : decode b_GR_join 30 = .ok (.iload_n 1, 1) := by decide +kernel
theorem d_GR_join_31 : decode b_GR_join 31 = .ok (.iastore, 1) := by decide +kernel
theorem d_GR_join_32 : decode b_GR_join 32 = .ok (.return_, 1) := by decide +kernel
abbrev b_GR_gatherOne : ByteArray := prog_6_method_8_code
def y_GR_gatherOne : MethodName := ⟨R_GR, "gatherOne", "(II)V"⟩
theorem kc_GR_gatherOne : Cond.code y_GR_gatherOne b_GR_gatherOne 5 none ∈ lw_g := lw_gm (List.mem_append_right _ (List.mem_of_getElem? (i := 755) (by decide +kernel))) rfl
abbrev mw_GR_gatherOne : List Cond := Cond.code y_GR_gatherOne b_GR_gatherOne 5 none :: lw_g
theorem hd_GR_gatherOne : y_GR_gatherOne.cls = R_GR ∧ y_GR_gatherOne.cls ≠ "java/lang/invoke/MethodHandle" ∧ y_GR_gatherOne.cls ≠ "java/lang/invoke/VarHandle" ∧ (parseMethodDescriptor y_GR_gatherOne.desc).map (fun d => d.parameters.length) = some 2 := by decide +kernel
theorem kp_GR_gatherOne : Cond.selects R_GR y_GR_gatherOne y_GR_gatherOne ∈ lw_g := lw_gm (List.mem_append_left _ (by decide +kernel)) rfl
theorem d_GR_gatherOne_0 : decode b_GR_gatherOne 0 = .ok (.aload_n 0, 1) := by decide +kernel
theorem d_GR_gatherOne_1 : decode b_GR_gatherOne 1 = .ok (.getfield 30, 3) := by decide +kernel
theorem d_GR_gatherOne_4 : decode b_GR_gatherOne 4 = .ok (.iload_n 2, 1) := by decide +kernel
theorem d_GR_gatherOne_5 : decode b_GR_gatherOne 5 = .ok (.iconst 0, 1) := by decide +kernel
theorem d_GR_gatherOne_6 : decode b_GR_gatherOne 6 = .ok (.invokevirtual 152, 3) := by decide +kernel
theorem d_GR_gatherOne_9 : decode b_GR_gatherOne 9 = .ok (.istore_n 3, 1) := by decide +kernel
theorem d_GR_gatherOne_10 : decode b_GR_gatherOne 10 = .ok (.iconst 0, 1) := by decide +kernel
theorem d_GR_gatherOne_11 : decode b_GR_gatherOne 11 = .ok (.istore 4, 2) := by decide +kernel
theorem d_GR_gatherOne_13 : decode b_GR_gatherOne 13 = .ok (.iload 4, 2) := by decide +kernel
theorem d_GR_gatherOne_15 : decode b_GR_gatherOne 15 = .ok (.aload_n 0, 1) := by decide +kernel
theorem d_GR_gatherOne_16 : decode b_GR_gatherOne 16 = .ok (.getfield 62, 3) := by decide +kernel
theorem d_GR_gatherOne_19 : decode b_GR_gatherOne 19 = .ok (.if_icmp .ge 47, 3) := by decide +kernel
theorem d_GR_gatherOne_22 : decode b_GR_gatherOne 22 = .ok (.aload_n 0, 1) := by decide +kernel
theorem d_GR_gatherOne_23 : decode b_GR_gatherOne 23 = .ok (.getfield 15, 3) := by decide +kernel
theorem d_GR_gatherOne_26 : decode b_GR_gatherOne 26 = .ok (.iload 4, 2) := by decide +kernel
theorem d_GR_gatherOne_28 : decode b_GR_gatherOne 28 = .ok (.iaload, 1) := by decide +kernel
theorem d_GR_gatherOne_29 : decode b_GR_gatherOne 29 = .ok (.iload_n 3, 1) := by decide +kernel
theorem d_GR_gatherOne_30 : decode b_GR_gatherOne 30 = .ok (.if_icmp .ne 30, 3) := by decide +kernel
theorem d_GR_gatherOne_33 : decode b_GR_gatherOne 33 = .ok (.aload_n 0, 1) := by decide +kernel
theorem d_GR_gatherOne_34 : decode b_GR_gatherOne 34 = .ok (.getfield 30, 3) := by decide +kernel
theorem d_GR_gatherOne_37 : decode b_GR_gatherOne 37 = .ok (.aload_n 0, 1) := by decide +kernel
theorem d_GR_gatherOne_38 : decode b_GR_gatherOne 38 = .ok (.getfield 9, 3) := by decide +kernel
theorem d_GR_gatherOne_41 : decode b_GR_gatherOne 41 = .ok (.iload 4, 2) := by decide +kernel
theorem d_GR_gatherOne_43 : decode b_GR_gatherOne 43 = .ok (.iaload, 1) := by decide +kernel
theorem d_GR_gatherOne_44 : decode b_GR_gatherOne 44 = .ok (.iload_n 2, 1) := by decide +kernel
theorem d_GR_gatherOne_45 : decode b_GR_gatherOne 45 = .ok (.iconst 0, 1) := by decide +kernel
theorem d_GR_gatherOne_46 : decode b_GR_gatherOne 46 = .ok (.invokevirtual 155, 3) := by decide +kernel
theorem d_GR_gatherOne_49 : decode b_GR_gatherOne 49 = .ok (.ifCond .ne 11, 3) := by decide +kernel
theorem d_GR_gatherOne_52 : decode b_GR_gatherOne 52 = .ok (.aload_n 0, 1) := by decide +kernel
theorem d_GR_gatherOne_53 : decode b_GR_gatherOne 53 = .ok (.iload_n 1, 1) := by decide +kernel
theorem d_GR_gatherOne_54 : decode b_GR_gatherOne 54 = .ok (.iload 4, 2) := by decide +kernel
theorem d_GR_gatherOne_56 : decode b_GR_gatherOne 56 = .ok (.invokevirtual 158, 3) := by decide +kernel
theorem d_GR_gatherOne_59 : decode b_GR_gatherOne 59 = .ok (.return_, 1) := by decide +kernel
theorem d_GR_gatherOne_60 : decode b_GR_gatherOne 60 = .ok (.iinc 4 1, 3) := by decide +kernel
theorem d_GR_gatherOne_63 : decode b_GR_gatherOne 63 = .ok (.goto (-50), 3) := by decide +kernel
theorem d_GR_gatherOne_66 : decode b_GR_gatherOne 66 = .ok (.aload_n 0, 1) := by decide +kernel
theorem d_GR_gatherOne_67 : decode b_GR_gatherOne 67 = .ok (.getfield 62, 3) := by decide +kernel
theorem d_GR_gatherOne_70 : decode b_GR_gatherOne 70 = .ok (.sipush 200, 3) := by decide +kernel
theorem d_GR_gatherOne_73 : decode b_GR_gatherOne 73 = .ok (.if_icmp .ge 53, 3) := by decide +kernel
theorem d_GR_gatherOne_76 : decode b_GR_gatherOne 76 = .ok (.aload_n 0, 1) := by decide +kernel
theorem d_GR_gatherOne_77 : decode b_GR_gatherOne 77 = .ok (.getfield 9, 3) := by decide +kernel
theorem d_GR_gatherOne_80 : decode b_GR_gatherOne 80 = .ok (.aload_n 0, 1) := by decide +kernel
theorem d_GR_gatherOne_81 : decode b_GR_gatherOne 81 = .ok (.getfield 62, 3) := by decide +kernel
theorem d_GR_gatherOne_84 : decode b_GR_gatherOne 84 = .ok (.iload_n 2, 1) := by decide +kernel
theorem d_GR_gatherOne_85 : decode b_GR_gatherOne 85 = .ok (.iastore, 1) := by decide +kernel
theorem d_GR_gatherOne_86 : decode b_GR_gatherOne 86 = .ok (.aload_n 0, 1) := by decide +kernel
theorem d_GR_gatherOne_87 : decode b_GR_gatherOne 87 = .ok (.getfield 15, 3) := by decide +kernel
theorem d_GR_gatherOne_90 : decode b_GR_gatherOne 90 = .ok (.aload_n 0, 1) := by decide +kernel
theorem d_GR_gatherOne_91 : decode b_GR_gatherOne 91 = .ok (.getfield 62, 3) := by decide +kernel
theorem d_GR_gatherOne_94 : decode b_GR_gatherOne 94 = .ok (.iload_n 3, 1) := by decide +kernel
theorem d_GR_gatherOne_95 : decode b_GR_gatherOne 95 = .ok (.iastore, 1) := by decide +kernel
theorem d_GR_gatherOne_96 : decode b_GR_gatherOne 96 = .ok (.aload_n 0, 1) := by decide +kernel
theorem d_GR_gatherOne_97 : decode b_GR_gatherOne 97 = .ok (.getfield 18, 3) := by decide +kernel
theorem d_GR_gatherOne_100 : decode b_GR_gatherOne 100 = .ok (.aload_n 0, 1) := by decide +kernel
theorem d_GR_gatherOne_101 : decode b_GR_gatherOne 101 = .ok (.getfield 62, 3) := by decide +kernel
theorem d_GR_gatherOne_104 : decode b_GR_gatherOne 104 = .ok (.iload_n 1, 1) := by decide +kernel
theorem d_GR_gatherOne_105 : decode b_GR_gatherOne 105 = .ok (.iastore, 1) := by decide +kernel
theorem d_GR_gatherOne_106 : decode b_GR_gatherOne 106 = .ok (.aload_n 0, 1) := by decide +kernel
theorem d_GR_gatherOne_107 : decode b_GR_gatherOne 107 = .ok (.getfield 21, 3) := by decide +kernel
theorem d_GR_gatherOne_110 : decode b_GR_gatherOne 110 = .ok (.aload_n 0, 1) := by decide +kernel
theorem d_GR_gatherOne_111 : decode b_GR_gatherOne 111 = .ok (.getfield 62, 3) := by decide +kernel
theorem d_GR_gatherOne_114 : decode b_GR_gatherOne 114 = .ok (.iload_n 1, 1) := by decide +kernel
theorem d_GR_gatherOne_115 : decode b_GR_gatherOne 115 = .ok (.iastore, 1) := by decide +kernel
theorem d_GR_gatherOne_116 : decode b_GR_gatherOne 116 = .ok (.aload_n 0, 1) := by decide +kernel
theorem d_GR_gatherOne_117 : decode b_GR_gatherOne 117 = .ok (.dup, 1) := by decide +kernel
theorem d_GR_gatherOne_118 : decode b_GR_gatherOne 118 = .ok (.getfield 62, 3) := by decide +kernel
theorem d_GR_gatherOne_121 : decode b_GR_gatherOne 121 = .ok (.iconst 1, 1) := by decide +kernel
theorem d_GR_gatherOne_122 : decode b_GR_gatherOne 122 = .ok (.iadd, 1) := by decide +kernel
theorem d_GR_gatherOne_123 : decode b_GR_gatherOne 123 = .ok (.putfield 62, 3) := by decide +kernel
theorem d_GR_gatherOne_126 : decode b_GR_gatherOne 126 = .ok (.return_, 1) := by decide +kernel
abbrev b_GR_gather : ByteArray := prog_6_method_7_code
def y_GR_gather : MethodName := ⟨R_GR, "gather", "(I)V"⟩
theorem kc_GR_gather : Cond.code y_GR_gather b_GR_gather 4 none ∈ lw_g := lw_gm (List.mem_append_right _ (List.mem_of_getElem? (i := 747) (by decide +kernel))) rfl
abbrev mw_GR_gather : List Cond := Cond.code y_GR_gather b_GR_gather 4 none :: lw_g
theorem hd_GR_gather : y_GR_gather.cls = R_GR ∧ y_GR_gather.cls ≠ "java/lang/invoke/MethodHandle" ∧ y_GR_gather.cls ≠ "java/lang/invoke/VarHandle" ∧ (parseMethodDescriptor y_GR_gather.desc).map (fun d => d.parameters.length) = some 1 := by decide +kernel
theorem kp_GR_gather : Cond.selects R_GR y_GR_gather y_GR_gather ∈ lw_g := lw_gm (List.mem_append_left _ (by decide +kernel)) rfl
theorem d_GR_gather_0 : decode b_GR_gather 0 = .ok (.aload_n 0, 1) := by decide +kernel
theorem d_GR_gather_1 : decode b_GR_gather 1 = .ok (.iconst 0, 1) := by decide +kernel
theorem d_GR_gather_2 : decode b_GR_gather 2 = .ok (.putfield 62, 3) := by decide +kernel
theorem d_GR_gather_5 : decode b_GR_gather 5 = .ok (.aload_n 0, 1) := by decide +kernel
theorem d_GR_gather_6 : decode b_GR_gather 6 = .ok (.getfield 38, 3) := by decide +kernel
theorem d_GR_gather_9 : decode b_GR_gather 9 = .ok (.ldc 129, 2) := by decide +kernel
theorem d_GR_gather_11 : decode b_GR_gather 11 = .ok (.invokevirtual 130, 3) := by decide +kernel
theorem d_GR_gather_14 : decode b_GR_gather 14 = .ok (.aload_n 0, 1) := by decide +kernel
theorem d_GR_gather_15 : decode b_GR_gather 15 = .ok (.getfield 38, 3) := by decide +kernel
theorem d_GR_gather_18 : decode b_GR_gather 18 = .ok (.iload_n 1, 1) := by decide +kernel
theorem d_GR_gather_19 : decode b_GR_gather 19 = .ok (.invokevirtual 98, 3) := by decide +kernel
theorem d_GR_gather_22 : decode b_GR_gather 22 = .ok (.ifCond .ne 4, 3) := by decide +kernel
theorem d_GR_gather_25 : decode b_GR_gather 25 = .ok (.return_, 1) := by decide +kernel
theorem d_GR_gather_26 : decode b_GR_gather 26 = .ok (.iconst 0, 1) := by decide +kernel
theorem d_GR_gather_27 : decode b_GR_gather 27 = .ok (.istore_n 2, 1) := by decide +kernel
theorem d_GR_gather_28 : decode b_GR_gather 28 = .ok (.iload_n 2, 1) := by decide +kernel
theorem d_GR_gather_29 : decode b_GR_gather 29 = .ok (.aload_n 0, 1) := by decide +kernel
theorem d_GR_gather_30 : decode b_GR_gather 30 = .ok (.getfield 34, 3) := by decide +kernel
theorem d_GR_gather_33 : decode b_GR_gather 33 = .ok (.getfield 133, 3) := by decide +kernel
theorem d_GR_gather_36 : decode b_GR_gather 36 = .ok (.getfield 137, 3) := by decide +kernel
theorem d_GR_gather_39 : decode b_GR_gather 39 = .ok (.if_icmp .ge 55, 3) := by decide +kernel
theorem d_GR_gather_42 : decode b_GR_gather 42 = .ok (.iload_n 2, 1) := by decide +kernel
theorem d_GR_gather_43 : decode b_GR_gather 43 = .ok (.sipush 200, 3) := by decide +kernel
theorem d_GR_gather_46 : decode b_GR_gather 46 = .ok (.if_icmp .ge 48, 3) := by decide +kernel
theorem d_GR_gather_49 : decode b_GR_gather 49 = .ok (.aload_n 0, 1) := by decide +kernel
theorem d_GR_gather_50 : decode b_GR_gather 50 = .ok (.getfield 38, 3) := by decide +kernel
theorem d_GR_gather_53 : decode b_GR_gather 53 = .ok (.aload_n 0, 1) := by decide +kernel
theorem d_GR_gather_54 : decode b_GR_gather 54 = .ok (.getfield 34, 3) := by decide +kernel
theorem d_GR_gather_57 : decode b_GR_gather 57 = .ok (.iload_n 2, 1) := by decide +kernel
theorem d_GR_gather_58 : decode b_GR_gather 58 = .ok (.invokevirtual 142, 3) := by decide +kernel
theorem d_GR_gather_61 : decode b_GR_gather 61 = .ok (.iconst 0, 1) := by decide +kernel
theorem d_GR_gather_62 : decode b_GR_gather 62 = .ok (.invokevirtual 145, 3) := by decide +kernel
theorem d_GR_gather_65 : decode b_GR_gather 65 = .ok (.istore_n 3, 1) := by decide +kernel
theorem d_GR_gather_66 : decode b_GR_gather 66 = .ok (.aload_n 0, 1) := by decide +kernel
theorem d_GR_gather_67 : decode b_GR_gather 67 = .ok (.getfield 24, 3) := by decide +kernel
theorem d_GR_gather_70 : decode b_GR_gather 70 = .ok (.iload_n 2, 1) := by decide +kernel
theorem d_GR_gather_71 : decode b_GR_gather 71 = .ok (.iconst (-1), 1) := by decide +kernel
theorem d_GR_gather_72 : decode b_GR_gather 72 = .ok (.iastore, 1) := by decide +kernel
theorem d_GR_gather_73 : decode b_GR_gather 73 = .ok (.aload_n 0, 1) := by decide +kernel
theorem d_GR_gather_74 : decode b_GR_gather 74 = .ok (.iload_n 2, 1) := by decide +kernel
theorem d_GR_gather_75 : decode b_GR_gather 75 = .ok (.iload_n 3, 1) := by decide +kernel
theorem d_GR_gather_76 : decode b_GR_gather 76 = .ok (.ifCond .ne 8, 3) := by decide +kernel
theorem d_GR_gather_79 : decode b_GR_gather 79 = .ok (.bipush 10, 2) := by decide +kernel
theorem d_GR_gather_81 : decode b_GR_gather 81 = .ok (.goto 4, 3) := by decide +kernel
theorem d_GR_gather_84 : decode b_GR_gather 84 = .ok (.iload_n 3, 1) := by decide +kernel
theorem d_GR_gather_85 : decode b_GR_gather 85 = .ok (.invokevirtual 149, 3) := by decide +kernel
theorem d_GR_gather_88 : decode b_GR_gather 88 = .ok (.iinc 2 1, 3) := by decide +kernel
theorem d_GR_gather_91 : decode b_GR_gather 91 = .ok (.goto (-63), 3) := by decide +kernel
theorem d_GR_gather_94 : decode b_GR_gather 94 = .ok (.return_, 1) := by decide +kernel
abbrev b_GR_collect : ByteArray := prog_6_method_12_code
def y_GR_collect : MethodName := ⟨R_GR, "collect", "(II)V"⟩
theorem kc_GR_collect : Cond.code y_GR_collect b_GR_collect 5 none ∈ lw_g := lw_gm (List.mem_append_right _ (List.mem_of_getElem? (i := 806) (by decide +kernel))) rfl
abbrev mw_GR_collect : List Cond := Cond.code y_GR_collect b_GR_collect 5 none :: lw_g
theorem hd_GR_collect : y_GR_collect.cls = R_GR ∧ y_GR_collect.cls ≠ "java/lang/invoke/MethodHandle" ∧ y_GR_collect.cls ≠ "java/lang/invoke/VarHandle" ∧ (parseMethodDescriptor y_GR_collect.desc).map (fun d => d.parameters.length) = some 2 := by decide +kernel
theorem kp_GR_collect : Cond.selects R_GR y_GR_collect y_GR_collect ∈ lw_g := lw_gm (List.mem_append_left _ (by decide +kernel)) rfl
theorem d_GR_collect_0 : decode b_GR_collect 0 = .ok (.aload_n 0, 1) := by decide +kernel
theorem d_GR_collect_1 : decode b_GR_collect 1 = .ok (.iconst 0, 1) := by decide +kernel
theorem d_GR_collect_2 : decode b_GR_collect 2 = .ok (.putfield 167, 3) := by decide +kernel
theorem d_GR_collect_5 : decode b_GR_collect 5 = .ok (.aload_n 0, 1) := by decide +kernel
theorem d_GR_collect_6 : decode b_GR_collect 6 = .ok (.getfield 38, 3) := by decide +kernel
theorem d_GR_collect_9 : decode b_GR_collect 9 = .ok (.ldc 170, 2) := by decide +kernel
theorem d_GR_collect_11 : decode b_GR_collect 11 = .ok (.invokevirtual 130, 3) := by decide +kernel
theorem d_GR_collect_14 : decode b_GR_collect 14 = .ok (.aload_n 0, 1) := by decide +kernel
theorem d_GR_collect_15 : decode b_GR_collect 15 = .ok (.getfield 38, 3) := by decide +kernel
theorem d_GR_collect_18 : decode b_GR_collect 18 = .ok (.aload_n 0, 1) := by decide +kernel
theorem d_GR_collect_19 : decode b_GR_collect 19 = .ok (.iload_n 1, 1) := by decide +kernel
theorem d_GR_collect_20 : decode b_GR_collect 20 = .ok (.invokevirtual 107, 3) := by decide +kernel
theorem d_GR_collect_23 : decode b_GR_collect 23 = .ok (.invokevirtual 98, 3) := by decide +kernel
theorem d_GR_collect_26 : decode b_GR_collect 26 = .ok (.ifCond .ne 4, 3) := by decide +kernel
theorem d_GR_collect_29 : decode b_GR_collect 29 = .ok (.return_, 1) := by decide +kernel
theorem d_GR_collect_30 : decode b_GR_collect 30 = .ok (.aload_n 0, 1) := by decide +kernel
theorem d_GR_collect_31 : decode b_GR_collect 31 = .ok (.getfield 18, 3) := by decide +kernel
theorem d_GR_collect_34 : decode b_GR_collect 34 = .ok (.iload_n 2, 1) := by decide +kernel
theorem d_GR_collect_35 : decode b_GR_collect 35 = .ok (.iaload, 1) := by decide +kernel
theorem d_GR_collect_36 : decode b_GR_collect 36 = .ok (.istore_n 3, 1) := by decide +kernel
theorem d_GR_collect_37 : decode b_GR_collect 37 = .ok (.iconst 0, 1) := by decide +kernel
theorem d_GR_collect_38 : decode b_GR_collect 38 = .ok (.istore 4, 2) := by decide +kernel
theorem d_GR_collect_40 : decode b_GR_collect 40 = .ok (.iload 4, 2) := by decide +kernel
theorem d_GR_collect_42 : decode b_GR_collect 42 = .ok (.sipush 200, 3) := by decide +kernel
theorem d_GR_collect_45 : decode b_GR_collect 45 = .ok (.if_icmp .ge 60, 3) := by decide +kernel
theorem d_GR_collect_48 : decode b_GR_collect 48 = .ok (.iload_n 3, 1) := by decide +kernel
theorem d_GR_collect_49 : decode b_GR_collect 49 = .ok (.ifCond .lt 56, 3) := by decide +kernel
theorem d_GR_collect_52 : decode b_GR_collect 52 = .ok (.iload_n 3, 1) := by decide +kernel
theorem d_GR_collect_53 : decode b_GR_collect 53 = .ok (.sipush 200, 3) := by decide +kernel
theorem d_GR_collect_56 : decode b_GR_collect 56 = .ok (.if_icmp .ge 49, 3) := by decide +kernel
theorem d_GR_collect_59 : decode b_GR_collect 59 = .ok (.aload_n 0, 1) := by decide +kernel
theorem d_GR_collect_60 : decode b_GR_collect 60 = .ok (.getfield 27, 3) := by decide +kernel
theorem d_GR_collect_63 : decode b_GR_collect 63 = .ok (.iload 4, 2) := by decide +kernel
theorem d_GR_collect_65 : decode b_GR_collect 65 = .ok (.aload_n 0, 1) := by decide +kernel
theorem d_GR_collect_66 : decode b_GR_collect 66 = .ok (.getfield 38, 3) := by decide +kernel
theorem d_GR_collect_69 : decode b_GR_collect 69 = .ok (.aload_n 0, 1) := by decide +kernel
theorem d_GR_collect_70 : decode b_GR_collect 70 = .ok (.getfield 34, 3) := by decide +kernel
theorem d_GR_collect_73 : decode b_GR_collect 73 = .ok (.iload_n 3, 1) := by decide +kernel
theorem d_GR_collect_74 : decode b_GR_collect 74 = .ok (.invokevirtual 142, 3) := by decide +kernel
theorem d_GR_collect_77 : decode b_GR_collect 77 = .ok (.iconst 0, 1) := by decide +kernel
theorem d_GR_collect_78 : decode b_GR_collect 78 = .ok (.invokevirtual 145, 3) := by decide +kernel
theorem d_GR_collect_81 : decode b_GR_collect 81 = .ok (.iastore, 1) := by decide +kernel
theorem d_GR_collect_82 : decode b_GR_collect 82 = .ok (.aload_n 0, 1) := by decide +kernel
theorem d_GR_collect_83 : decode b_GR_collect 83 = .ok (.dup, 1) := by decide +kernel
theorem d_GR_collect_84 : decode b_GR_collect 84 = .ok (.getfield 167, 3) := by decide +kernel
theorem d_GR_collect_87 : decode b_GR_collect 87 = .ok (.iconst 1, 1) := by decide +kernel
theorem d_GR_collect_88 : decode b_GR_collect 88 = .ok (.iadd, 1) := by decide +kernel
theorem d_GR_collect_89 : decode b_GR_collect 89 = .ok (.putfield 167, 3) := by decide +kernel
theorem d_GR_collect_92 : decode b_GR_collect 92 = .ok (.aload_n 0, 1) := by decide +kernel
theorem d_GR_collect_93 : decode b_GR_collect 93 = .ok (.getfield 24, 3) := by decide +kernel
theorem d_GR_collect_96 : decode b_GR_collect 96 = .ok (.iload_n 3, 1) := by decide +kernel
theorem d_GR_collect_97 : decode b_GR_collect 97 = .ok (.iaload, 1) := by decide +kernel
theorem d_GR_collect_98 : decode b_GR_collect 98 = .ok (.istore_n 3, 1) := by decide +kernel
theorem d_GR_collect_99 : decode b_GR_collect 99 = .ok (.iinc 4 1, 3) := by decide +kernel
theorem d_GR_collect_102 : decode b_GR_collect 102 = .ok (.goto (-62), 3) := by decide +kernel
theorem d_GR_collect_105 : decode b_GR_collect 105 = .ok (.return_, 1) := by decide +kernel
abbrev b_GR_addUp : ByteArray := prog_6_method_13_code
def y_GR_addUp : MethodName := ⟨R_GR, "addUp", "()Z"⟩
theorem kc_GR_addUp : Cond.code y_GR_addUp b_GR_addUp 8 (some .boolean) ∈ lw_g := lw_gm (List.mem_append_right _ (List.mem_of_getElem? (i := 811) (by decide +kernel))) rfl
abbrev mw_GR_addUp : List Cond := Cond.code y_GR_addUp b_GR_addUp 8 (some .boolean) :: lw_g
theorem hd_GR_addUp : y_GR_addUp.cls = R_GR ∧ y_GR_addUp.cls ≠ "java/lang/invoke/MethodHandle" ∧ y_GR_addUp.cls ≠ "java/lang/invoke/VarHandle" ∧ (parseMethodDescriptor y_GR_addUp.desc).map (fun d => d.parameters.length) = some 0 := by decide +kernel
theorem kp_GR_addUp : Cond.selects R_GR y_GR_addUp y_GR_addUp ∈ lw_g := lw_gm (List.mem_append_left _ (by decide +kernel)) rfl
theorem d_GR_addUp_0 : decode b_GR_addUp 0 = .ok (.lconst 0, 1) := by decide +kernel
theorem d_GR_addUp_1 : decode b_GR_addUp 1 = .ok (.lstore_n 1, 1) := by decide +kernel
theorem d_GR_addUp_2 : decode b_GR_addUp 2 = .ok (.lconst 0, 1) := by decide +kernel
theorem d_GR_addUp_3 : decode b_GR_addUp 3 = .ok (.lstore_n 3, 1) := by decide +kernel
theorem d_GR_addUp_4 : decode b_GR_addUp 4 = .ok (.iconst 0, 1) := by decide +kernel
theorem d_GR_addUp_5 : decode b_GR_addUp 5 = .ok (.istore 5, 2) := by decide +kernel
theorem d_GR_addUp_7 : decode b_GR_addUp 7 = .ok (.iload 5, 2) := by decide +kernel
theorem d_GR_addUp_9 : decode b_GR_addUp 9 = .ok (.aload_n 0, 1) := by decide +kernel
theorem d_GR_addUp_10 : decode b_GR_addUp 10 = .ok (.getfield 167, 3) := by decide +kernel
theorem d_GR_addUp_13 : decode b_GR_addUp 13 = .ok (.if_icmp .ge 56, 3) := by decide +kernel
theorem d_GR_addUp_16 : decode b_GR_addUp 16 = .ok (.aload_n 0, 1) := by decide +kernel
theorem d_GR_addUp_17 : decode b_GR_addUp 17 = .ok (.getfield 27, 3) := by decide +kernel
theorem d_GR_addUp_20 : decode b_GR_addUp 20 = .ok (.iload 5, 2) := by decide +kernel
theorem d_GR_addUp_22 : decode b_GR_addUp 22 = .ok (.iaload, 1) := by decide +kernel
theorem d_GR_addUp_23 : decode b_GR_addUp 23 = .ok (.invokestatic 171, 3) := by decide +kernel
theorem d_GR_addUp_26 : decode b_GR_addUp 26 = .ok (.iconst 2, 1) := by decide +kernel
theorem d_GR_addUp_27 : decode b_GR_addUp 27 = .ok (.if_icmp .ne 36, 3) := by decide +kernel
theorem d_GR_addUp_30 : decode b_GR_addUp 30 = .ok (.aload_n 0, 1) := by decide +kernel
theorem d_GR_addUp_31 : decode b_GR_addUp 31 = .ok (.getfield 30, 3) := by decide +kernel
theorem d_GR_addUp_34 : decode b_GR_addUp 34 = .ok (.aload_n 0, 1) := by decide +kernel
theorem d_GR_addUp_35 : decode b_GR_addUp 35 = .ok (.getfield 27, 3) := by decide +kernel
theorem d_GR_addUp_38 : decode b_GR_addUp 38 = .ok (.iload 5, 2) := by decide +kernel
theorem d_GR_addUp_40 : decode b_GR_addUp 40 = .ok (.iaload, 1) := by decide +kernel
theorem d_GR_addUp_41 : decode b_GR_addUp 41 = .ok (.invokevirtual 174, 3) := by decide +kernel
theorem d_GR_addUp_44 : decode b_GR_addUp 44 = .ok (.lstore 6, 2) := by decide +kernel
theorem d_GR_addUp_46 : decode b_GR_addUp 46 = .ok (.lload_n 1, 1) := by decide +kernel
theorem d_GR_addUp_47 : decode b_GR_addUp 47 = .ok (.lload 6, 2) := by decide +kernel
theorem d_GR_addUp_49 : decode b_GR_addUp 49 = .ok (.bipush 32, 2) := by decide +kernel
theorem d_GR_addUp_51 : decode b_GR_addUp 51 = .ok (.lshr, 1) := by decide +kernel
theorem d_GR_addUp_52 : decode b_GR_addUp 52 = .ok (.ladd, 1) := by decide +kernel
theorem d_GR_addUp_53 : decode b_GR_addUp 53 = .ok (.lstore_n 1, 1) := by decide +kernel
theorem d_GR_addUp_54 : decode b_GR_addUp 54 = .ok (.lload_n 3, 1) := by decide +kernel
theorem d_GR_addUp_55 : decode b_GR_addUp 55 = .ok (.lload 6, 2) := by decide +kernel
theorem d_GR_addUp_57 : decode b_GR_addUp 57 = .ok (.ldc2_w 178, 3) := by decide +kernel
theorem d_GR_addUp_60 : decode b_GR_addUp 60 = .ok (.land, 1) := by decide +kernel
theorem d_GR_addUp_61 : decode b_GR_addUp 61 = .ok (.ladd, 1) := by decide +kernel
theorem d_GR_addUp_62 : decode b_GR_addUp 62 = .ok (.lstore_n 3, 1) := by decide +kernel
theorem d_GR_addUp_63 : decode b_GR_addUp 63 = .ok (.iinc 5 1, 3) := by decide +kernel
theorem d_GR_addUp_66 : decode b_GR_addUp 66 = .ok (.goto (-59), 3) := by decide +kernel
theorem d_GR_addUp_69 : decode b_GR_addUp 69 = .ok (.lload_n 1, 1) := by decide +kernel
theorem d_GR_addUp_70 : decode b_GR_addUp 70 = .ok (.lload_n 3, 1) := by decide +kernel
theorem d_GR_addUp_71 : decode b_GR_addUp 71 = .ok (.bipush 32, 2) := by decide +kernel
theorem d_GR_addUp_73 : decode b_GR_addUp 73 = .ok (.lshr, 1) := by decide +kernel
theorem d_GR_addUp_74 : decode b_GR_addUp 74 = .ok (.ladd, 1) := by decide +kernel
theorem d_GR_addUp_75 : decode b_GR_addUp 75 = .ok (.lstore_n 1, 1) := by decide +kernel
theorem d_GR_addUp_76 : decode b_GR_addUp 76 = .ok (.aload_n 0, 1) := by decide +kernel
theorem d_GR_addUp_77 : decode b_GR_addUp 77 = .ok (.lload_n 1, 1) := by decide +kernel
theorem d_GR_addUp_78 : decode b_GR_addUp 78 = .ok (.bipush 32, 2) := by decide +kernel
theorem d_GR_addUp_80 : decode b_GR_addUp 80 = .ok (.lshl, 1) := by decide +kernel
theorem d_GR_addUp_81 : decode b_GR_addUp 81 = .ok (.lload_n 3, 1) := by decide +kernel
theorem d_GR_addUp_82 : decode b_GR_addUp 82 = .ok (.ldc2_w 178, 3) := by decide +kernel
theorem d_GR_addUp_85 : decode b_GR_addUp 85 = .ok (.land, 1) := by decide +kernel
theorem d_GR_addUp_86 : decode b_GR_addUp 86 = .ok (.lor, 1) := by decide +kernel
theorem d_GR_addUp_87 : decode b_GR_addUp 87 = .ok (.putfield 180, 3) := by decide +kernel
theorem d_GR_addUp_90 : decode b_GR_addUp 90 = .ok (.aload_n 0, 1) := by decide +kernel
theorem d_GR_addUp_91 : decode b_GR_addUp 91 = .ok (.getfield 180, 3) := by decide +kernel
theorem d_GR_addUp_94 : decode b_GR_addUp 94 = .ok (.bipush 32, 2) := by decide +kernel
theorem d_GR_addUp_96 : decode b_GR_addUp 96 = .ok (.lshr, 1) := by decide +kernel
theorem d_GR_addUp_97 : decode b_GR_addUp 97 = .ok (.lload_n 1, 1) := by decide +kernel
theorem d_GR_addUp_98 : decode b_GR_addUp 98 = .ok (.lcmp, 1) := by decide +kernel
theorem d_GR_addUp_99 : decode b_GR_addUp 99 = .ok (.ifCond .ne 7, 3) := by decide +kernel
theorem d_GR_addUp_102 : decode b_GR_addUp 102 = .ok (.iconst 1, 1) := by decide +kernel
theorem d_GR_addUp_103 : decode b_GR_addUp 103 = .ok (.goto 4, 3) := by decide +kernel
theorem d_GR_addUp_106 : decode b_GR_addUp 106 = .ok (.iconst 0, 1) := by decide +kernel
theorem d_GR_addUp_107 : decode b_GR_addUp 107 = .ok (.ireturn, 1) := by decide +kernel
abbrev b_GR_outermost : ByteArray := prog_6_method_16_code
def y_GR_outermost : MethodName := ⟨R_GR, "outermost", "(Z)I"⟩
theorem kc_GR_outermost : Cond.code y_GR_outermost b_GR_outermost 3 (some .int) ∈ lw_g := lw_gm (List.mem_append_right _ (List.mem_of_getElem? (i := 848) (by decide +kernel))) rfl
abbrev mw_GR_outermost : List Cond := Cond.code y_GR_outermost b_GR_outermost 3 (some .int) :: lw_g
theorem hd_GR_outermost : y_GR_outermost.cls = R_GR ∧ y_GR_outermost.cls ≠ "java/lang/invoke/MethodHandle" ∧ y_GR_outermost.cls ≠ "java/lang/invoke/VarHandle" ∧ (parseMethodDescriptor y_GR_outermost.desc).map (fun d => d.parameters.length) = some 1 := by decide +kernel
theorem kp_GR_outermost : Cond.selects R_GR y_GR_outermost y_GR_outermost ∈ lw_g := lw_gm (List.mem_append_left _ (by decide +kernel)) rfl
theorem d_GR_outermost_0 : decode b_GR_outermost 0 = .ok (.iload_n 1, 1) := by decide +kernel
theorem d_GR_outermost_1 : decode b_GR_outermost 1 = .ok (.ifCond .eq 12, 3) := by decide +kernel
theorem d_GR_outermost_4 : decode b_GR_outermost 4 = .ok (.aload_n 0, 1) := by decide +kernel
theorem d_GR_outermost_5 : decode b_GR_outermost 5 = .ok (.getfield 167, 3) := by decide +kernel
theorem d_GR_outermost_8 : decode b_GR_outermost 8 = .ok (.iconst 1, 1) := by decide +kernel
theorem d_GR_outermost_9 : decode b_GR_outermost 9 = .ok (.isub, 1) := by decide +kernel
theorem d_GR_outermost_10 : decode b_GR_outermost 10 = .ok (.goto 4, 3) := by decide +kernel
theorem d_GR_outermost_13 : decode b_GR_outermost 13 = .ok (.iconst 0, 1) := by decide +kernel
theorem d_GR_outermost_14 : decode b_GR_outermost 14 = .ok (.istore_n 2, 1) := by decide +kernel
theorem d_GR_outermost_15 : decode b_GR_outermost 15 = .ok (.iload_n 2, 1) := by decide +kernel
theorem d_GR_outermost_16 : decode b_GR_outermost 16 = .ok (.ifCond .lt 27, 3) := by decide +kernel
theorem d_GR_outermost_19 : decode b_GR_outermost 19 = .ok (.iload_n 2, 1) := by decide +kernel
theorem d_GR_outermost_20 : decode b_GR_outermost 20 = .ok (.aload_n 0, 1) := by decide +kernel
theorem d_GR_outermost_21 : decode b_GR_outermost 21 = .ok (.getfield 167, 3) := by decide +kernel
theorem d_GR_outermost_24 : decode b_GR_outermost 24 = .ok (.if_icmp .ge 19, 3) := by decide +kernel
theorem d_GR_outermost_27 : decode b_GR_outermost 27 = .ok (.iload_n 2, 1) := by decide +kernel
theorem d_GR_outermost_28 : decode b_GR_outermost 28 = .ok (.sipush 200, 3) := by decide +kernel
theorem d_GR_outermost_31 : decode b_GR_outermost 31 = .ok (.if_icmp .ge 12, 3) := by decide +kernel
theorem d_GR_outermost_34 : decode b_GR_outermost 34 = .ok (.aload_n 0, 1) := by decide +kernel
theorem d_GR_outermost_35 : decode b_GR_outermost 35 = .ok (.getfield 27, 3) := by decide +kernel
theorem d_GR_outermost_38 : decode b_GR_outermost 38 = .ok (.iload_n 2, 1) := by decide +kernel
theorem d_GR_outermost_39 : decode b_GR_outermost 39 = .ok (.iaload, 1) := by decide +kernel
theorem d_GR_outermost_40 : decode b_GR_outermost 40 = .ok (.goto 4, 3) := by decide +kernel
theorem d_GR_outermost_43 : decode b_GR_outermost 43 = .ok (.iconst 0, 1) := by decide +kernel
theorem d_GR_outermost_44 : decode b_GR_outermost 44 = .ok (.ireturn, 1) := by decide +kernel
abbrev b_GR_least : ByteArray := prog_6_method_17_code
def y_GR_least : MethodName := ⟨R_GR, "least", "(I)I"⟩
theorem kc_GR_least : Cond.code y_GR_least b_GR_least 5 (some .int) ∈ lw_g := lw_gm (List.mem_append_right _ (List.mem_of_getElem? (i := 844) (by decide +kernel))) rfl
abbrev mw_GR_least : List Cond := Cond.code y_GR_least b_GR_least 5 (some .int) :: lw_g
theorem hd_GR_least : y_GR_least.cls = R_GR ∧ y_GR_least.cls ≠ "java/lang/invoke/MethodHandle" ∧ y_GR_least.cls ≠ "java/lang/invoke/VarHandle" ∧ (parseMethodDescriptor y_GR_least.desc).map (fun d => d.parameters.length) = some 1 := by decide +kernel
theorem kp_GR_least : Cond.selects R_GR y_GR_least y_GR_least ∈ lw_g := lw_gm (List.mem_append_left _ (by decide +kernel)) rfl
theorem d_GR_least_0 : decode b_GR_least 0 = .ok (.iconst 0, 1) := by decide +kernel
theorem d_GR_least_1 : decode b_GR_least 1 = .ok (.istore_n 2, 1) := by decide +kernel
theorem d_GR_least_2 : decode b_GR_least 2 = .ok (.iconst 0, 1) := by decide +kernel
theorem d_GR_least_3 : decode b_GR_least 3 = .ok (.istore_n 3, 1) := by decide +kernel
theorem d_GR_least_4 : decode b_GR_least 4 = .ok (.iload_n 3, 1) := by decide +kernel
theorem d_GR_least_5 : decode b_GR_least 5 = .ok (.aload_n 0, 1) := by decide +kernel
theorem d_GR_least_6 : decode b_GR_least 6 = .ok (.getfield 167, 3) := by decide +kernel
theorem d_GR_least_9 : decode b_GR_least 9 = .ok (.if_icmp .ge 45, 3) := by decide +kernel
theorem d_GR_least_12 : decode b_GR_least 12 = .ok (.aload_n 0, 1) := by decide +kernel
theorem d_GR_least_13 : decode b_GR_least 13 = .ok (.getfield 27, 3) := by decide +kernel
theorem d_GR_least_16 : decode b_GR_least 16 = .ok (.iload_n 3, 1) := by decide +kernel
theorem d_GR_least_17 : decode b_GR_least 17 = .ok (.iaload, 1) := by decide +kernel
theorem d_GR_least_18 : decode b_GR_least 18 = .ok (.istore 4, 2) := by decide +kernel
theorem d_GR_least_20 : decode b_GR_least 20 = .ok (.iload 4, 2) := by decide +kernel
theorem d_GR_least_22 : decode b_GR_least 22 = .ok (.ifCond .eq 26, 3) := by decide +kernel
theorem d_GR_least_25 : decode b_GR_least 25 = .ok (.iload_n 2, 1) := by decide +kernel
theorem d_GR_least_26 : decode b_GR_least 26 = .ok (.ifCond .eq 19, 3) := by decide +kernel
theorem d_GR_least_29 : decode b_GR_least 29 = .ok (.aload_n 0, 1) := by decide +kernel
theorem d_GR_least_30 : decode b_GR_least 30 = .ok (.getfield 30, 3) := by decide +kernel
theorem d_GR_least_33 : decode b_GR_least 33 = .ok (.iload 4, 2) := by decide +kernel
theorem d_GR_least_35 : decode b_GR_least 35 = .ok (.iload_n 2, 1) := by decide +kernel
theorem d_GR_least_36 : decode b_GR_least 36 = .ok (.iconst 0, 1) := by decide +kernel
theorem d_GR_least_37 : decode b_GR_least 37 = .ok (.invokevirtual 155, 3) := by decide +kernel
theorem d_GR_least_40 : decode b_GR_least 40 = .ok (.iload_n 1, 1) := by decide +kernel
theorem d_GR_least_41 : decode b_GR_least 41 = .ok (.imul, 1) := by decide +kernel
theorem d_GR_least_42 : decode b_GR_least 42 = .ok (.ifCond .ge 6, 3) := by decide +kernel
theorem d_GR_least_45 : decode b_GR_least 45 = .ok (.iload 4, 2) := by decide +kernel
theorem d_GR_least_47 : decode b_GR_least 47 = .ok (.istore_n 2, 1) := by decide +kernel
theorem d_GR_least_48 : decode b_GR_least 48 = .ok (.iinc 3 1, 3) := by decide +kernel
theorem d_GR_least_51 : decode b_GR_least 51 = .ok (.goto (-47), 3) := by decide +kernel
theorem d_GR_least_54 : decode b_GR_least 54 = .ok (.iload_n 2, 1) := by decide +kernel
theorem d_GR_least_55 : decode b_GR_least 55 = .ok (.ireturn, 1) := by decide +kernel
abbrev b_GR_dropTwins : ByteArray := prog_6_method_18_code
def y_GR_dropTwins : MethodName := ⟨R_GR, "dropTwins", "()V"⟩
theorem kc_GR_dropTwins : Cond.code y_GR_dropTwins b_GR_dropTwins 3 none ∈ lw_g := lw_gm (List.mem_append_right _ (List.mem_of_getElem? (i := 834) (by decide +kernel))) rfl
abbrev mw_GR_dropTwins : List Cond := Cond.code y_GR_dropTwins b_GR_dropTwins 3 none :: lw_g
theorem hd_GR_dropTwins : y_GR_dropTwins.cls = R_GR ∧ y_GR_dropTwins.cls ≠ "java/lang/invoke/MethodHandle" ∧ y_GR_dropTwins.cls ≠ "java/lang/invoke/VarHandle" ∧ (parseMethodDescriptor y_GR_dropTwins.desc).map (fun d => d.parameters.length) = some 0 := by decide +kernel
theorem kp_GR_dropTwins : Cond.selects R_GR y_GR_dropTwins y_GR_dropTwins ∈ lw_g := lw_gm (List.mem_append_left _ (by decide +kernel)) rfl
theorem d_GR_dropTwins_0 : decode b_GR_dropTwins 0 = .ok (.iconst 1, 1) := by decide +kernel
theorem d_GR_dropTwins_1 : decode b_GR_dropTwins 1 = .ok (.istore_n 1, 1) := by decide +kernel
theorem d_GR_dropTwins_2 : decode b_GR_dropTwins 2 = .ok (.iload_n 1, 1) := by decide +kernel
theorem d_GR_dropTwins_3 : decode b_GR_dropTwins 3 = .ok (.aload_n 0, 1) := by decide +kernel
theorem d_GR_dropTwins_4 : decode b_GR_dropTwins 4 = .ok (.getfield 167, 3) := by decide +kernel
theorem d_GR_dropTwins_7 : decode b_GR_dropTwins 7 = .ok (.if_icmp .ge 61, 3) := by decide +kernel
theorem d_GR_dropTwins_10 : decode b_GR_dropTwins 10 = .ok (.iconst 0, 1) := by decide +kernel
theorem d_GR_dropTwins_11 : decode b_GR_dropTwins 11 = .ok (.istore_n 2, 1) := by decide +kernel
theorem d_GR_dropTwins_12 : decode b_GR_dropTwins 12 = .ok (.iload_n 2, 1) := by decide +kernel
theorem d_GR_dropTwins_13 : decode b_GR_dropTwins 13 = .ok (.iload_n 1, 1) := by decide +kernel
theorem d_GR_dropTwins_14 : decode b_GR_dropTwins 14 = .ok (.if_icmp .ge 48, 3) := by decide +kernel
theorem d_GR_dropTwins_17 : decode b_GR_dropTwins 17 = .ok (.aload_n 0, 1) := by decide +kernel
theorem d_GR_dropTwins_18 : decode b_GR_dropTwins 18 = .ok (.getfield 27, 3) := by decide +kernel
theorem d_GR_dropTwins_21 : decode b_GR_dropTwins 21 = .ok (.iload_n 1, 1) := by decide +kernel
theorem d_GR_dropTwins_22 : decode b_GR_dropTwins 22 = .ok (.iaload, 1) := by decide +kernel
theorem d_GR_dropTwins_23 : decode b_GR_dropTwins 23 = .ok (.ifCond .eq 39, 3) := by decide +kernel
theorem d_GR_dropTwins_26 : decode b_GR_dropTwins 26 = .ok (.aload_n 0, 1) := by decide +kernel
theorem d_GR_dropTwins_27 : decode b_GR_dropTwins 27 = .ok (.getfield 30, 3) := by decide +kernel
theorem d_GR_dropTwins_30 : decode b_GR_dropTwins 30 = .ok (.aload_n 0, 1) := by decide +kernel
theorem d_GR_dropTwins_31 : decode b_GR_dropTwins 31 = .ok (.getfield 27, 3) := by decide +kernel
theorem d_GR_dropTwins_34 : decode b_GR_dropTwins 34 = .ok (.iload_n 2, 1) := by decide +kernel
theorem d_GR_dropTwins_35 : decode b_GR_dropTwins 35 = .ok (.iaload, 1) := by decide +kernel
theorem d_GR_dropTwins_36 : decode b_GR_dropTwins 36 = .ok (.aload_n 0, 1) := by decide +kernel
theorem d_GR_dropTwins_37 : decode b_GR_dropTwins 37 = .ok (.getfield 27, 3) := by decide +kernel
theorem d_GR_dropTwins_40 : decode b_GR_dropTwins 40 = .ok (.iload_n 1, 1) := by decide +kernel
theorem d_GR_dropTwins_41 : decode b_GR_dropTwins 41 = .ok (.iaload, 1) := by decide +kernel
theorem d_GR_dropTwins_42 : decode b_GR_dropTwins 42 = .ok (.iconst 0, 1) := by decide +kernel
theorem d_GR_dropTwins_43 : decode b_GR_dropTwins 43 = .ok (.invokevirtual 155, 3) := by decide +kernel
theorem d_GR_dropTwins_46 : decode b_GR_dropTwins 46 = .ok (.ifCond .ne 10, 3) := by decide +kernel
theorem d_GR_dropTwins_49 : decode b_GR_dropTwins 49 = .ok (.aload_n 0, 1) := by decide +kernel
theorem d_GR_dropTwins_50 : decode b_GR_dropTwins 50 = .ok (.getfield 27, 3) := by decide +kernel
theorem d_GR_dropTwins_53 : decode b_GR_dropTwins 53 = .ok (.iload_n 1, 1) := by decide +kernel
theorem d_GR_dropTwins_54 : decode b_GR_dropTwins 54 = .ok (.iconst 0, 1) := by decide +kernel
theorem d_GR_dropTwins_55 : decode b_GR_dropTwins 55 = .ok (.iastore, 1) := by decide +kernel
theorem d_GR_dropTwins_56 : decode b_GR_dropTwins 56 = .ok (.iinc 2 1, 3) := by decide +kernel
theorem d_GR_dropTwins_59 : decode b_GR_dropTwins 59 = .ok (.goto (-47), 3) := by decide +kernel
theorem d_GR_dropTwins_62 : decode b_GR_dropTwins 62 = .ok (.iinc 1 1, 3) := by decide +kernel
theorem d_GR_dropTwins_65 : decode b_GR_dropTwins 65 = .ok (.goto (-63), 3) := by decide +kernel
theorem d_GR_dropTwins_68 : decode b_GR_dropTwins 68 = .ok (.return_, 1) := by decide +kernel
abbrev b_GR_writeRow : ByteArray := prog_6_method_19_code
def y_GR_writeRow : MethodName := ⟨R_GR, "writeRow", "(LPipelineBelt$Writer;)V"⟩
theorem kc_GR_writeRow : Cond.code y_GR_writeRow b_GR_writeRow 5 none ∈ lw_g := lw_gm (List.mem_append_right _ (List.mem_of_getElem? (i := 838) (by decide +kernel))) rfl
abbrev mw_GR_writeRow : List Cond := Cond.code y_GR_writeRow b_GR_writeRow 5 none :: lw_g
theorem hd_GR_writeRow : y_GR_writeRow.cls = R_GR ∧ y_GR_writeRow.cls ≠ "java/lang/invoke/MethodHandle" ∧ y_GR_writeRow.cls ≠ "java/lang/invoke/VarHandle" ∧ (parseMethodDescriptor y_GR_writeRow.desc).map (fun d => d.parameters.length) = some 1 := by decide +kernel
theorem kp_GR_writeRow : Cond.selects R_GR y_GR_writeRow y_GR_writeRow ∈ lw_g := lw_gm (List.mem_append_left _ (by decide +kernel)) rfl
theorem d_GR_writeRow_0 : decode b_GR_writeRow 0 = .ok (.aload_n 1, 1) := by decide +kernel
theorem d_GR_writeRow_1 : decode b_GR_writeRow 1 = .ok (.invokevirtual 188, 3) := by decide +kernel
theorem d_GR_writeRow_4 : decode b_GR_writeRow 4 = .ok (.istore_n 2, 1) := by decide +kernel
theorem d_GR_writeRow_5 : decode b_GR_writeRow 5 = .ok (.iconst 0, 1) := by decide +kernel
theorem d_GR_writeRow_6 : decode b_GR_writeRow 6 = .ok (.istore_n 3, 1) := by decide +kernel
theorem d_GR_writeRow_7 : decode b_GR_writeRow 7 = .ok (.iconst 0, 1) := by decide +kernel
theorem d_GR_writeRow_8 : decode b_GR_writeRow 8 = .ok (.istore 4, 2) := by decide +kernel
theorem d_GR_writeRow_10 : decode b_GR_writeRow 10 = .ok (.iload 4, 2) := by decide +kernel
theorem d_GR_writeRow_12 : decode b_GR_writeRow 12 = .ok (.aload_n 0, 1) := by decide +kernel
theorem d_GR_writeRow_13 : decode b_GR_writeRow 13 = .ok (.getfield 167, 3) := by decide +kernel
theorem d_GR_writeRow_16 : decode b_GR_writeRow 16 = .ok (.if_icmp .ge 65, 3) := by decide +kernel
theorem d_GR_writeRow_19 : decode b_GR_writeRow 19 = .ok (.aload_n 0, 1) := by decide +kernel
theorem d_GR_writeRow_20 : decode b_GR_writeRow 20 = .ok (.getfield 27, 3) := by decide +kernel
theorem d_GR_writeRow_23 : decode b_GR_writeRow 23 = .ok (.iload 4, 2) := by decide +kernel
theorem d_GR_writeRow_25 : decode b_GR_writeRow 25 = .ok (.iaload, 1) := by decide +kernel
theorem d_GR_writeRow_26 : decode b_GR_writeRow 26 = .ok (.ifCond .eq 49, 3) := by decide +kernel
theorem d_GR_writeRow_29 : decode b_GR_writeRow 29 = .ok (.aload_n 1, 1) := by decide +kernel
theorem d_GR_writeRow_30 : decode b_GR_writeRow 30 = .ok (.aload_n 0, 1) := by decide +kernel
theorem d_GR_writeRow_31 : decode b_GR_writeRow 31 = .ok (.getfield 27, 3) := by decide +kernel
theorem d_GR_writeRow_34 : decode b_GR_writeRow 34 = .ok (.iload 4, 2) := by decide +kernel
theorem d_GR_writeRow_36 : decode b_GR_writeRow 36 = .ok (.iaload, 1) := by decide +kernel
theorem d_GR_writeRow_37 : decode b_GR_writeRow 37 = .ok (.invokestatic 76, 3) := by decide +kernel
theorem d_GR_writeRow_40 : decode b_GR_writeRow 40 = .ok (.iload_n 3, 1) := by decide +kernel
theorem d_GR_writeRow_41 : decode b_GR_writeRow 41 = .ok (.invokevirtual 226, 3) := by decide +kernel
theorem d_GR_writeRow_44 : decode b_GR_writeRow 44 = .ok (.aload_n 1, 1) := by decide +kernel
theorem d_GR_writeRow_45 : decode b_GR_writeRow 45 = .ok (.aload_n 0, 1) := by decide +kernel
theorem d_GR_writeRow_46 : decode b_GR_writeRow 46 = .ok (.getfield 27, 3) := by decide +kernel
theorem d_GR_writeRow_49 : decode b_GR_writeRow 49 = .ok (.iload 4, 2) := by decide +kernel
theorem d_GR_writeRow_51 : decode b_GR_writeRow 51 = .ok (.iaload, 1) := by decide +kernel
theorem d_GR_writeRow_52 : decode b_GR_writeRow 52 = .ok (.invokestatic 46, 3) := by decide +kernel
theorem d_GR_writeRow_55 : decode b_GR_writeRow 55 = .ok (.aload_n 0, 1) := by decide +kernel
theorem d_GR_writeRow_56 : decode b_GR_writeRow 56 = .ok (.getfield 30, 3) := by decide +kernel
theorem d_GR_writeRow_59 : decode b_GR_writeRow 59 = .ok (.aload_n 0, 1) := by decide +kernel
theorem d_GR_writeRow_60 : decode b_GR_writeRow 60 = .ok (.getfield 27, 3) := by decide +kernel
theorem d_GR_writeRow_63 : decode b_GR_writeRow 63 = .ok (.iload 4, 2) := by decide +kernel
theorem d_GR_writeRow_65 : decode b_GR_writeRow 65 = .ok (.iaload, 1) := by decide +kernel
theorem d_GR_writeRow_66 : decode b_GR_writeRow 66 = .ok (.invokevirtual 82, 3) := by decide +kernel
theorem d_GR_writeRow_69 : decode b_GR_writeRow 69 = .ok (.invokevirtual 198, 3) := by decide +kernel
theorem d_GR_writeRow_72 : decode b_GR_writeRow 72 = .ok (.iinc 3 1, 3) := by decide +kernel
theorem d_GR_writeRow_75 : decode b_GR_writeRow 75 = .ok (.iinc 4 1, 3) := by decide +kernel
theorem d_GR_writeRow_78 : decode b_GR_writeRow 78 = .ok (.goto (-68), 3) := by decide +kernel
theorem d_GR_writeRow_81 : decode b_GR_writeRow 81 = .ok (.aload_n 1, 1) := by decide +kernel
theorem d_GR_writeRow_82 : decode b_GR_writeRow 82 = .ok (.iload_n 2, 1) := by decide +kernel
theorem d_GR_writeRow_83 : decode b_GR_writeRow 83 = .ok (.invokevirtual 205, 3) := by decide +kernel
theorem d_GR_writeRow_86 : decode b_GR_writeRow 86 = .ok (.return_, 1) := by decide +kernel
abbrev b_GR_writePart : ByteArray := prog_6_method_15_code
def y_GR_writePart : MethodName := ⟨R_GR, "writePart", "(LPipelineBelt$Writer;III)V"⟩
theorem kc_GR_writePart : Cond.code y_GR_writePart b_GR_writePart 7 none ∈ lw_g := lw_gm (List.mem_append_right _ (List.mem_of_getElem? (i := 826) (by decide +kernel))) rfl
abbrev mw_GR_writePart : List Cond := Cond.code y_GR_writePart b_GR_writePart 7 none :: lw_g
theorem hd_GR_writePart : y_GR_writePart.cls = R_GR ∧ y_GR_writePart.cls ≠ "java/lang/invoke/MethodHandle" ∧ y_GR_writePart.cls ≠ "java/lang/invoke/VarHandle" ∧ (parseMethodDescriptor y_GR_writePart.desc).map (fun d => d.parameters.length) = some 4 := by decide +kernel
theorem kp_GR_writePart : Cond.selects R_GR y_GR_writePart y_GR_writePart ∈ lw_g := lw_gm (List.mem_append_left _ (by decide +kernel)) rfl
theorem d_GR_writePart_0 : decode b_GR_writePart 0 = .ok (.iload 4, 2) := by decide +kernel
theorem d_GR_writePart_2 : decode b_GR_writePart 2 = .ok (.iconst 1, 1) := by decide +kernel
theorem d_GR_writePart_3 : decode b_GR_writePart 3 = .ok (.if_icmp .ne 23, 3) := by decide +kernel
theorem d_GR_writePart_6 : decode b_GR_writePart 6 = .ok (.aload_n 1, 1) := by decide +kernel
theorem d_GR_writePart_7 : decode b_GR_writePart 7 = .ok (.bipush 18, 2) := by decide +kernel
theorem d_GR_writePart_9 : decode b_GR_writePart 9 = .ok (.iload_n 2, 1) := by decide +kernel
theorem d_GR_writePart_10 : decode b_GR_writePart 10 = .ok (.iload_n 3, 1) := by decide +kernel
theorem d_GR_writePart_11 : decode b_GR_writePart 11 = .ok (.invokevirtual 194, 3) := by decide +kernel
theorem d_GR_writePart_14 : decode b_GR_writePart 14 = .ok (.aload_n 1, 1) := by decide +kernel
theorem d_GR_writePart_15 : decode b_GR_writePart 15 = .ok (.aload_n 0, 1) := by decide +kernel
theorem d_GR_writePart_16 : decode b_GR_writePart 16 = .ok (.getfield 167, 3) := by decide +kernel
theorem d_GR_writePart_19 : decode b_GR_writePart 19 = .ok (.i2l, 1) := by decide +kernel
theorem d_GR_writePart_20 : decode b_GR_writePart 20 = .ok (.invokevirtual 208, 3) := by decide +kernel
theorem d_GR_writePart_23 : decode b_GR_writePart 23 = .ok (.goto 162, 3) := by decide +kernel
theorem d_GR_writePart_26 : decode b_GR_writePart 26 = .ok (.iload 4, 2) := by decide +kernel
theorem d_GR_writePart_28 : decode b_GR_writePart 28 = .ok (.iconst 2, 1) := by decide +kernel
theorem d_GR_writePart_29 : decode b_GR_writePart 29 = .ok (.if_icmp .ne 27, 3) := by decide +kernel
theorem d_GR_writePart_32 : decode b_GR_writePart 32 = .ok (.aload_n 0, 1) := by decide +kernel
theorem d_GR_writePart_33 : decode b_GR_writePart 33 = .ok (.invokevirtual 164, 3) := by decide +kernel
theorem d_GR_writePart_36 : decode b_GR_writePart 36 = .ok (.pop, 1) := by decide +kernel
theorem d_GR_writePart_37 : decode b_GR_writePart 37 = .ok (.aload_n 1, 1) := by decide +kernel
theorem d_GR_writePart_38 : decode b_GR_writePart 38 = .ok (.bipush 18, 2) := by decide +kernel
theorem d_GR_writePart_40 : decode b_GR_writePart 40 = .ok (.iload_n 2, 1) := by decide +kernel
theorem d_GR_writePart_41 : decode b_GR_writePart 41 = .ok (.iload_n 3, 1) := by decide +kernel
theorem d_GR_writePart_42 : decode b_GR_writePart 42 = .ok (.invokevirtual 194, 3) := by decide +kernel
theorem d_GR_writePart_45 : decode b_GR_writePart 45 = .ok (.aload_n 1, 1) := by decide +kernel
theorem d_GR_writePart_46 : decode b_GR_writePart 46 = .ok (.aload_n 0, 1) := by decide +kernel
theorem d_GR_writePart_47 : decode b_GR_writePart 47 = .ok (.getfield 180, 3) := by decide +kernel
theorem d_GR_writePart_50 : decode b_GR_writePart 50 = .ok (.invokevirtual 208, 3) := by decide +kernel
theorem d_GR_writePart_53 : decode b_GR_writePart 53 = .ok (.goto 132, 3) := by decide +kernel
theorem d_GR_writePart_56 : decode b_GR_writePart 56 = .ok (.iload 4, 2) := by decide +kernel
theorem d_GR_writePart_58 : decode b_GR_writePart 58 = .ok (.bipush 7, 2) := by decide +kernel
theorem d_GR_writePart_60 : decode b_GR_writePart 60 = .ok (.if_icmp .eq 10, 3) := by decide +kernel
theorem d_GR_writePart_63 : decode b_GR_writePart 63 = .ok (.iload 4, 2) := by decide +kernel
theorem d_GR_writePart_65 : decode b_GR_writePart 65 = .ok (.bipush 8, 2) := by decide +kernel
theorem d_GR_writePart_67 : decode b_GR_writePart 67 = .ok (.if_icmp .ne 29, 3) := by decide +kernel
theorem d_GR_writePart_70 : decode b_GR_writePart 70 = .ok (.iload 4, 2) := by decide +kernel
theorem d_GR_writePart_72 : decode b_GR_writePart 72 = .ok (.bipush 8, 2) := by decide +kernel
theorem d_GR_writePart_74 : decode b_GR_writePart 74 = .ok (.if_icmp .ne 7, 3) := by decide +kernel
theorem d_GR_writePart_77 : decode b_GR_writePart 77 = .ok (.aload_n 0, 1) := by decide +kernel
theorem d_GR_writePart_78 : decode b_GR_writePart 78 = .ok (.invokevirtual 212, 3) := by decide +kernel
theorem d_GR_writePart_81 : decode b_GR_writePart 81 = .ok (.aload_n 1, 1) := by decide +kernel
theorem d_GR_writePart_82 : decode b_GR_writePart 82 = .ok (.iconst 4, 1) := by decide +kernel
theorem d_GR_writePart_83 : decode b_GR_writePart 83 = .ok (.iload_n 2, 1) := by decide +kernel
theorem d_GR_writePart_84 : decode b_GR_writePart 84 = .ok (.iload_n 3, 1) := by decide +kernel
theorem d_GR_writePart_85 : decode b_GR_writePart 85 = .ok (.invokevirtual 194, 3) := by decide +kernel
theorem d_GR_writePart_88 : decode b_GR_writePart 88 = .ok (.aload_n 0, 1) := by decide +kernel
theorem d_GR_writePart_89 : decode b_GR_writePart 89 = .ok (.aload_n 1, 1) := by decide +kernel
theorem d_GR_writePart_90 : decode b_GR_writePart 90 = .ok (.invokevirtual 215, 3) := by decide +kernel
theorem d_GR_writePart_93 : decode b_GR_writePart 93 = .ok (.goto 92, 3) := by decide +kernel
theorem d_GR_writePart_96 : decode b_GR_writePart 96 = .ok (.iload 4, 2) := by decide +kernel
theorem d_GR_writePart_98 : decode b_GR_writePart 98 = .ok (.iconst 3, 1) := by decide +kernel
theorem d_GR_writePart_99 : decode b_GR_writePart 99 = .ok (.if_icmp .ne 11, 3) := by decide +kernel
theorem d_GR_writePart_102 : decode b_GR_writePart 102 = .ok (.aload_n 0, 1) := by decide +kernel
theorem d_GR_writePart_103 : decode b_GR_writePart 103 = .ok (.iconst 1, 1) := by decide +kernel
theorem d_GR_writePart_104 : decode b_GR_writePart 104 = .ok (.invokevirtual 219, 3) := by decide +kernel
theorem d_GR_writePart_107 : decode b_GR_writePart 107 = .ok (.goto 33, 3) := by decide +kernel
theorem d_GR_writePart_110 : decode b_GR_writePart 110 = .ok (.iload 4, 2) := by decide +kernel
theorem d_GR_writePart_112 : decode b_GR_writePart 112 = .ok (.iconst 4, 1) := by decide +kernel
theorem d_GR_writePart_113 : decode b_GR_writePart 113 = .ok (.if_icmp .ne 11, 3) := by decide +kernel
theorem d_GR_writePart_116 : decode b_GR_writePart 116 = .ok (.aload_n 0, 1) := by decide +kernel
theorem d_GR_writePart_117 : decode b_GR_writePart 117 = .ok (.iconst (-1), 1) := by decide +kernel
theorem d_GR_writePart_118 : decode b_GR_writePart 118 = .ok (.invokevirtual 219, 3) := by decide +kernel
theorem d_GR_writePart_121 : decode b_GR_writePart 121 = .ok (.goto 19, 3) := by decide +kernel
theorem d_GR_writePart_124 : decode b_GR_writePart 124 = .ok (.aload_n 0, 1) := by decide +kernel
theorem d_GR_writePart_125 : decode b_GR_writePart 125 = .ok (.iload 4, 2) := by decide +kernel
theorem d_GR_writePart_127 : decode b_GR_writePart 127 = .ok (.bipush 6, 2) := by decide +kernel
theorem d_GR_writePart_129 : decode b_GR_writePart 129 = .ok (.if_icmp .ne 7, 3) := by decide +kernel
theorem d_GR_writePart_132 : decode b_GR_writePart 132 = .ok (.iconst 1, 1) := by decide +kernel
theorem d_GR_writePart_133 : decode b_GR_writePart 133 = .ok (.goto 4, 3) := by decide +kernel
theorem d_GR_writePart_136 : decode b_GR_writePart 136 = .ok (.iconst 0, 1) := by decide +kernel
theorem d_GR_writePart_137 : decode b_GR_writePart 137 = .ok (.invokevirtual 222, 3) := by decide +kernel
theorem d_GR_writePart_140 : decode b_GR_writePart 140 = .ok (.istore 5, 2) := by decide +kernel
theorem d_GR_writePart_142 : decode b_GR_writePart 142 = .ok (.iload 5, 2) := by decide +kernel
theorem d_GR_writePart_144 : decode b_GR_writePart 144 = .ok (.ifCond .ne 8, 3) := by decide +kernel
theorem d_GR_writePart_147 : decode b_GR_writePart 147 = .ok (.bipush 10, 2) := by decide +kernel
theorem d_GR_writePart_149 : decode b_GR_writePart 149 = .ok (.goto 5, 3) := by decide +kernel
theorem d_GR_writePart_152 : decode b_GR_writePart 152 = .ok (.iload 5, 2) := by decide +kernel
theorem d_GR_writePart_154 : decode b_GR_writePart 154 = .ok (.istore 6, 2) := by decide +kernel
theorem d_GR_writePart_156 : decode b_GR_writePart 156 = .ok (.aload_n 1, 1) := by decide +kernel
theorem d_GR_writePart_157 : decode b_GR_writePart 157 = .ok (.iload 6, 2) := by decide +kernel
theorem d_GR_writePart_159 : decode b_GR_writePart 159 = .ok (.invokestatic 76, 3) := by decide +kernel
theorem d_GR_writePart_162 : decode b_GR_writePart 162 = .ok (.iload_n 2, 1) := by decide +kernel
theorem d_GR_writePart_163 : decode b_GR_writePart 163 = .ok (.iload_n 3, 1) := by decide +kernel
theorem d_GR_writePart_164 : decode b_GR_writePart 164 = .ok (.invokevirtual 194, 3) := by decide +kernel
theorem d_GR_writePart_167 : decode b_GR_writePart 167 = .ok (.aload_n 1, 1) := by decide +kernel
theorem d_GR_writePart_168 : decode b_GR_writePart 168 = .ok (.iload 6, 2) := by decide +kernel
theorem d_GR_writePart_170 : decode b_GR_writePart 170 = .ok (.invokestatic 46, 3) := by decide +kernel
theorem d_GR_writePart_173 : decode b_GR_writePart 173 = .ok (.aload_n 0, 1) := by decide +kernel
theorem d_GR_writePart_174 : decode b_GR_writePart 174 = .ok (.getfield 30, 3) := by decide +kernel
theorem d_GR_writePart_177 : decode b_GR_writePart 177 = .ok (.iload 6, 2) := by decide +kernel
theorem d_GR_writePart_179 : decode b_GR_writePart 179 = .ok (.invokevirtual 82, 3) := by decide +kernel
theorem d_GR_writePart_182 : decode b_GR_writePart 182 = .ok (.invokevirtual 198, 3) := by decide +kernel
theorem d_GR_writePart_185 : decode b_GR_writePart 185 = .ok (.return_, 1) := by decide +kernel
/-- how many groups, how many values -/
def g_ok (k : Int32) : Prop := 0 ≤ k.toInt ∧ k.toInt ≤ 200
def h_ok (k : Int32) : Prop := 0 ≤ k.toInt ∧ k.toInt ≤ 200
theorem g_0 : g_ok 0 := by unfold g_ok; decide
theorem h_0 : h_ok 0 := by unfold h_ok; decide
theorem g_inc {k : Int32} (h : g_ok k) (c : ¬ 200 ≤ k) : g_ok (k + 1) := by
  have a := i_nle c
  have y : (200 : Int32).toInt = 200 := rfl
  have e : (k + 1).toInt = k.toInt + 1 := i_toInt1 (i_lt_of c)
  unfold g_ok at h ⊢
  omega
theorem in_g {x k : Int32} (h0 : ¬ x < 0) (c : ¬ k ≤ x) (h : g_ok k) : vp_in x 200 := in_200 h0 c h.2
theorem in_hh {x k : Int32} (h0 : ¬ x < 0) (c : ¬ k ≤ x) (h : h_ok k) : vp_in x 200 := in_200 h0 c h.2
theorem in_g2 {x : Int32} (h : 0 ≤ x.toInt ∧ x.toInt < 200) : vp_in x 200 := by
  rw [vp_in_iff]
  omega
theorem g_lt {x k : Int32} (h0 : ¬ x < 0) (c : ¬ k ≤ x) (h : g_ok k) : 0 ≤ x.toInt ∧ x.toInt < 200 := by
  have := i_nn h0
  have := i_nle c
  have := h.2
  omega
theorem in_gn {k : Int32} (h : g_ok k) (c : ¬ 200 ≤ k) : vp_in k 200 := by
  have a := i_nle c
  have y : (200 : Int32).toInt = 200 := rfl
  have := h.1
  rw [vp_in_iff]
  omega
theorem h_of {a x : Int32} (e : a = x) (h0 : ¬ x < 0) (h1 : x ≤ 200) : h_ok a := by
  subst e
  have := i_nn h0
  have := i_le.mp h1
  have y : (200 : Int32).toInt = 200 := rfl
  exact ⟨by omega, by omega⟩
theorem h_up {x : Int32} (c : ¬ 200 ≤ x) : x + 1 ≤ 200 := by
  have a := i_nle c
  have y : (200 : Int32).toInt = 200 := rfl
  have e : (x + 1).toInt = x.toInt + 1 := i_toInt1 (i_lt_of c)
  rw [i_le]
  omega
theorem in_lt2 {x y k : Int32} (h0 : ¬ x < 0) (c : ¬ y ≤ x) (c2 : ¬ k ≤ y) (h : h_ok k) : vp_in x 200 := by
  have := i_nn h0
  have := i_nle c
  have := i_nle c2
  have := h.2
  rw [vp_in_iff]
  omega

set_option maxHeartbeats 4000000 in
set_option maxRecDepth 100000 in
theorem c_GR_toldBy (l : Launch) (D : va_G) (cB cI : ClassId) (aU aS aY aP aGk aGh aGf aGl aGn aGv aB : Nat) (ngr : Int32) (held : Int32) (gsum : Int64) (b : Nat → UInt8) (p0 : Int32) : Met l y_GR_toldBy mw_GR_toldBy { frames := 1, cells := 0, slots := 0, locals := 22 } (va_Pc [.ref aU, .int p0] (fun U => va_P D vwCl [(aU, .inr (7, [.ref aS, .ref aY, .ref aP, .ref aGk, .ref aGh, .ref aGf, .ref aGl, .ref aGn, .int ngr, .ref aGv, .int held, .long gsum])), (aS, .inr (0, [.ref aB])), (aB, .inl (cB, 202000, .inl (by_ b)))] U.heap ∧ hk_ D cB cI U)) (vp_Si (fun r => r = tw_GR_toldBy b p0)) 0 0 (fun _ => False) := by
  refine Met.ofW (cc := b_GR_toldBy) (maxL := 2) (ret := (some .int)) (by decide) rfl ?_
  intro p e s m args below meth c s₁ B0 hml hv
  obtain ⟨rfl, hP, hk⟩ := hv
  have hK := hk.1
  have hN := hk.2.1
  have hx := B0.exec
  have hb := B0.bytes
  have hr := B0.returns
  have hT : ∀ w ∈ lw_g, w.before _ s = true := fun w h => atoms_spec (ws := mw_GR_toldBy) B0.pre w (List.mem_cons_of_mem _ h)
  have hown : s.vm.findClass R_GR = some m.cls := findClass_of_methodNamed B0.named
  have hlocks := B0.notSynchronized
  have hl := lv_entry ([.ref aU, .int p0]) (n := 2) (Nat.le_of_ble_eq_true rfl)
  rw [lg_entry_eq]
  generalize (lg_sl ([.ref aU, .int p0]) ++ List.replicate (2 - (lg_sl ([.ref aU, .int p0])).length) Slot.unset).toArray = ls at hl ⊢
  have hl : lv_has ls 2 [(0, .ref aU), (1, .int p0)] := hl
  refine lv_aload_n hx hb d_GR_toldBy_0 rfl (lv_at hl 0 rfl) ?_
  refine va_get (D := D) (ci := 7) (v := .ref aS) (C := R_GR) (T := T_GR) (N := 12) hx hb hT u_GR hown hK hP 0 rfl rfl 0 (by decide) (hT _ k_212) (fun _ h9 => h9) rfl d_GR_toldBy_1 ?_
  refine lv_iload_n hx hb d_GR_toldBy_4 rfl (lv_at hl 1 rfl) ?_
  refine rd_S (val := tw_ST_placeOf p0) (As := [.int p0]) (rest := [.ref aS]) ⟨hx, hb, hml, hown, hT⟩ (c_ST_placeOf l D cB cI p0) (va_cwS 1 hT (gS_of k_714 k_403 k_2 kc_ST_placeOf) rfl rfl rfl hd_ST_placeOf ⟨Nat.le_of_ble_eq_true rfl, Nat.le_of_ble_eq_true rfl⟩) hk (va_P_nil) rfl hl.1 rfl (Nat.le_of_ble_eq_true rfl) d_GR_toldBy_5 ⟨Nat.zero_le _, Nat.zero_le _⟩ ?_
  refine lv_iconst (v := 4) hx hb d_GR_toldBy_8 (by decide) ?_
  refine lv_iadd hx hb d_GR_toldBy_9 ?_
  refine rd_V (val := tw_ST_valueOf b ((tw_ST_placeOf p0) + 4)) (As := [.int ((tw_ST_placeOf p0) + 4)]) (rest := []) ⟨hx, hb, hml, hown, hT⟩ (c_ST_valueOf l D cB cI aS aB b ((tw_ST_placeOf p0) + 4)) (cwV 1 hT (gV_of k_715 k_399 k_400 k_2 kc_ST_valueOf) rfl rfl rfl hd_ST_valueOf ⟨Nat.le_of_ble_eq_true rfl, Nat.le_of_ble_eq_true rfl⟩) hk (hP.sub (ws' := [(aS, .inr (0, [.ref aB])), (aB, .inl (cB, 202000, .inl (by_ b)))]) [1, 2] rfl) (q0 := 0) rfl rfl rfl rfl hl.1 rfl (Nat.le_of_ble_eq_true rfl) d_GR_toldBy_10 ⟨Nat.zero_le _, Nat.zero_le _⟩ ?_
  exact W.iret (v := tw_ST_valueOf b ((tw_ST_placeOf p0) + 4)) hx hb hr (fun t ht hW => ⟨tw_ST_valueOf b ((tw_ST_placeOf p0) + 4), rfl, (by rw [tw_GR_toldBy]; first | done | rfl), ht⟩) (fun _ h => by cases h) d_GR_toldBy_13
abbrev wd_GR_join (aU aS aY aP aGk aGh aGf aGl aGn aGv : Nat) (cB cI : ClassId) (ngr : Int32) (held : Int32) (gsum : Int64) (gla : Nat → Int32) (gnx : Nat → Int32) : va_W := [(aU, .inr (7, [.ref aS, .ref aY, .ref aP, .ref aGk, .ref aGh, .ref aGf, .ref aGl, .ref aGn, .int ngr, .ref aGv, .int held, .long gsum])), (aGl, .inl (cI, 200, .inl gla)), (aGn, .inl (cI, 200, .inl gnx))]
set_option maxHeartbeats 4000000 in
set_option maxRecDepth 100000 in
theorem c_GR_join (l : Launch) (D : va_G) (cB cI : ClassId) (aU aS aY aP aGk aGh aGf aGl aGn aGv : Nat) (ngr : Int32) (held : Int32) (gsum : Int64) (sz : Nat) (gla : Nat → Int32) (gnx : Nat → Int32) (p0 : Int32) (p1 : Int32) (hg : 0 ≤ p1.toInt ∧ p1.toInt < 200) : Met l y_GR_join mw_GR_join { frames := 0, cells := 0, slots := 0, locals := 0 } (va_Pc [.ref aU, .int p0, .int p1] (mt_P D cB cI (wd_GR_join aU aS aY aP aGk aGh aGf aGl aGn aGv cB cI ngr held gsum gla gnx) sz)) (va_Qv (fun (u : (Nat → Int32) × (Nat → Int32)) => u = tw_GR_join gla gnx p0 p1) (mt_B D (va_A (wd_GR_join aU aS aY aP aGk aGh aGf aGl aGn aGv cB cI ngr held gsum gla gnx) sz) (fun u => wd_GR_join aU aS aY aP aGk aGh aGf aGl aGn aGv cB cI ngr held gsum u.1 u.2)) (va_A (wd_GR_join aU aS aY aP aGk aGh aGf aGl aGn aGv cB cI ngr held gsum gla gnx) sz)) 0 0 (va_A (wd_GR_join aU aS aY aP aGk aGh aGf aGl aGn aGv cB cI ngr held gsum gla gnx) sz) := by
  refine Met.ofW (cc := b_GR_join) (maxL := 4) (ret := none) (by decide) rfl ?_
  intro p e s m args below meth c s₁ B0 hml hv
  obtain ⟨rfl, hsz, hP, hk, hD0⟩ := hv
  have hK := hk.1
  have hN := hk.2.1
  have hx := B0.exec
  have hb := B0.bytes
  have hr := B0.returns
  have hT : ∀ w ∈ lw_g, w.before _ s = true := fun w h => atoms_spec (ws := mw_GR_join) B0.pre w (List.mem_cons_of_mem _ h)
  have hown : s.vm.findClass R_GR = some m.cls := findClass_of_methodNamed B0.named
  have hlocks := B0.notSynchronized
  subst hsz
  have hD := hD0.self (sz := s.heap.size)
  generalize hAe : va_A [(aU, .inr (7, [.ref aS, .ref aY, .ref aP, .ref aGk, .ref aGh, .ref aGf, .ref aGl, .ref aGn, .int ngr, .ref aGv, .int held, .long gsum])), (aGl, .inl (cI, 200, .inl gla)), (aGn, .inl (cI, 200, .inl gnx))] s.heap.size = A at hD ⊢
  have hA : ∀ q : Nat, s.heap.size ≤ q → A q := fun q h => by rw [← hAe]; exact Or.inr h
  have hS : va_S A s.heap s.heap [] := va_S.rf
  have hl := lv_entry ([.ref aU, .int p0, .int p1]) (n := 4) (Nat.le_of_ble_eq_true rfl)
  rw [lg_entry_eq]
  generalize (lg_sl ([.ref aU, .int p0, .int p1]) ++ List.replicate (4 - (lg_sl ([.ref aU, .int p0, .int p1])).length) Slot.unset).toArray = ls at hl ⊢
  have hl : lv_has ls 4 [(0, .ref aU), (1, .int p0), (2, .int p1)] := hl
  refine lv_aload_n hx hb d_GR_join_0 rfl (lv_at hl 0 rfl) ?_
  refine va_get (D := D) (ci := 7) (v := .ref aGl) (C := R_GR) (T := T_GR) (N := 12) hx hb hT u_GR hown hK hP 0 rfl rfl 6 (by decide) (hT _ k_218) (fun _ h9 => h9) rfl d_GR_join_1 ?_
  refine lv_iload_n hx hb d_GR_join_4 rfl (lv_at hl 2 rfl) ?_
  refine va_iald hx hb hK hP 1 1 rfl rfl (in_g2 hg) d_GR_join_5 ?_
  refine lv_istore_n (lv' := [(3, .int (gla p1.toNatClampNeg)), (0, .ref aU), (1, .int p0), (2, .int p1)]) hx hb d_GR_join_6 rfl hl (by decide) rfl (fun ls hl => ?_)
  refine lv_iload_n hx hb d_GR_join_7 rfl (lv_at hl 0 rfl) ?_
  refine lv_if_lt (tgt := 25) hx hb d_GR_join_8 (by decide) (fun c_1 => ?_) (fun c_1 => ?_)
  · refine lv_aload_n hx hb d_GR_join_25 rfl (lv_at hl 1 rfl) ?_
    refine va_get (D := D) (ci := 7) (v := .ref aGl) (C := R_GR) (T := T_GR) (N := 12) hx hb hT u_GR hown hK hP 0 rfl rfl 6 (by decide) (hT _ k_218) (fun _ h9 => h9) rfl d_GR_join_26 ?_
    refine lv_iload_n hx hb d_GR_join_29 rfl (lv_at hl 3 rfl) ?_
    refine lv_iload_n hx hb d_GR_join_30 rfl (lv_at hl 2 rfl) ?_
    refine va_iast hx hb hK hP hD hS 1 1 rfl rfl (in_g2 hg) d_GR_join_31 (fun H locs hP hD hS => ?_)
    have hP : va_P D vwCl [(aU, .inr (7, [.ref aS, .ref aY, .ref aP, .ref aGk, .ref aGh, .ref aGf, .ref aGl, .ref aGn, .int ngr, .ref aGv, .int held, .long gsum])), (aGl, .inl (cI, 200, .inl (upd gla p1.toNatClampNeg p0))), (aGn, .inl (cI, 200, .inl gnx))] H := hP
    have hD : va_D A [(aU, .inr (7, [.ref aS, .ref aY, .ref aP, .ref aGk, .ref aGh, .ref aGf, .ref aGl, .ref aGn, .int ngr, .ref aGv, .int held, .long gsum])), (aGl, .inl (cI, 200, .inl (upd gla p1.toNatClampNeg p0))), (aGn, .inl (cI, 200, .inl gnx))] := hD
    exact W.vret hx hb hr (fun t ht hW => ⟨⟨(upd gla p1.toNatClampNeg p0, gnx), rfl, (by rw [tw_GR_join, if_pos c_1]; first | done | rfl), by rw [ht]; exact hP, hD⟩, hS.F ht⟩) hS.2.2 d_GR_join_32
  · refine lv_iload_n hx hb d_GR_join_11 rfl (lv_at hl 0 rfl) ?_
    refine lv_sipush (v := 200) hx hb d_GR_join_12 (by decide) ?_
    refine lv_icmp_ge (tgt := 25) hx hb d_GR_join_15 (by decide) (fun c_2 => ?_) (fun c_2 => ?_)
    · refine lv_aload_n hx hb d_GR_join_25 rfl (lv_at hl 1 rfl) ?_
      refine va_get (D := D) (ci := 7) (v := .ref aGl) (C := R_GR) (T := T_GR) (N := 12) hx hb hT u_GR hown hK hP 0 rfl rfl 6 (by decide) (hT _ k_218) (fun _ h9 => h9) rfl d_GR_join_26 ?_
      refine lv_iload_n hx hb d_GR_join_29 rfl (lv_at hl 3 rfl) ?_
      refine lv_iload_n hx hb d_GR_join_30 rfl (lv_at hl 2 rfl) ?_
      refine va_iast hx hb hK hP hD hS 1 1 rfl rfl (in_g2 hg) d_GR_join_31 (fun H locs hP hD hS => ?_)
      have hP : va_P D vwCl [(aU, .inr (7, [.ref aS, .ref aY, .ref aP, .ref aGk, .ref aGh, .ref aGf, .ref aGl, .ref aGn, .int ngr, .ref aGv, .int held, .long gsum])), (aGl, .inl (cI, 200, .inl (upd gla p1.toNatClampNeg p0))), (aGn, .inl (cI, 200, .inl gnx))] H := hP
      have hD : va_D A [(aU, .inr (7, [.ref aS, .ref aY, .ref aP, .ref aGk, .ref aGh, .ref aGf, .ref aGl, .ref aGn, .int ngr, .ref aGv, .int held, .long gsum])), (aGl, .inl (cI, 200, .inl (upd gla p1.toNatClampNeg p0))), (aGn, .inl (cI, 200, .inl gnx))] := hD
      exact W.vret hx hb hr (fun t ht hW => ⟨⟨(upd gla p1.toNatClampNeg p0, gnx), rfl, (by rw [tw_GR_join, if_neg c_1, if_pos c_2]; first | done | rfl), by rw [ht]; exact hP, hD⟩, hS.F ht⟩) hS.2.2 d_GR_join_32
    · refine lv_aload_n hx hb d_GR_join_18 rfl (lv_at hl 1 rfl) ?_
      refine va_get (D := D) (ci := 7) (v := .ref aGn) (C := R_GR) (T := T_GR) (N := 12) hx hb hT u_GR hown hK hP 0 rfl rfl 7 (by decide) (hT _ k_219) (fun _ h9 => h9) rfl d_GR_join_19 ?_
      refine lv_iload_n hx hb d_GR_join_22 rfl (lv_at hl 0 rfl) ?_
      refine lv_iload_n hx hb d_GR_join_23 rfl (lv_at hl 2 rfl) ?_
      refine va_iast hx hb hK hP hD hS 2 1 rfl rfl (in_nn c_1 c_2 rfl) d_GR_join_24 (fun H locs hP hD hS => ?_)
      have hP : va_P D vwCl [(aU, .inr (7, [.ref aS, .ref aY, .ref aP, .ref aGk, .ref aGh, .ref aGf, .ref aGl, .ref aGn, .int ngr, .ref aGv, .int held, .long gsum])), (aGl, .inl (cI, 200, .inl gla)), (aGn, .inl (cI, 200, .inl (upd gnx (gla p1.toNatClampNeg).toNatClampNeg p0)))] H := hP
      have hD : va_D A [(aU, .inr (7, [.ref aS, .ref aY, .ref aP, .ref aGk, .ref aGh, .ref aGf, .ref aGl, .ref aGn, .int ngr, .ref aGv, .int held, .long gsum])), (aGl, .inl (cI, 200, .inl gla)), (aGn, .inl (cI, 200, .inl (upd gnx (gla p1.toNatClampNeg).toNatClampNeg p0)))] := hD
      refine lv_aload_n hx hb d_GR_join_25 rfl (lv_at hl 1 rfl) ?_
      refine va_get (D := D) (ci := 7) (v := .ref aGl) (C := R_GR) (T := T_GR) (N := 12) hx hb hT u_GR hown hK hP 0 rfl rfl 6 (by decide) (hT _ k_218) (fun _ h9 => h9) rfl d_GR_join_26 ?_
      refine lv_iload_n hx hb d_GR_join_29 rfl (lv_at hl 3 rfl) ?_
      refine lv_iload_n hx hb d_GR_join_30 rfl (lv_at hl 2 rfl) ?_
      refine va_iast hx hb hK hP hD hS 1 1 rfl rfl (in_g2 hg) d_GR_join_31 (fun H locs hP hD hS => ?_)
      have hP : va_P D vwCl [(aU, .inr (7, [.ref aS, .ref aY, .ref aP, .ref aGk, .ref aGh, .ref aGf, .ref aGl, .ref aGn, .int ngr, .ref aGv, .int held, .long gsum])), (aGl, .inl (cI, 200, .inl (upd gla p1.toNatClampNeg p0))), (aGn, .inl (cI, 200, .inl (upd gnx (gla p1.toNatClampNeg).toNatClampNeg p0)))] H := hP
      have hD : va_D A [(aU, .inr (7, [.ref aS, .ref aY, .ref aP, .ref aGk, .ref aGh, .ref aGf, .ref aGl, .ref aGn, .int ngr, .ref aGv, .int held, .long gsum])), (aGl, .inl (cI, 200, .inl (upd gla p1.toNatClampNeg p0))), (aGn, .inl (cI, 200, .inl (upd gnx (gla p1.toNatClampNeg).toNatClampNeg p0)))] := hD
      exact W.vret hx hb hr (fun t ht hW => ⟨⟨(upd gla p1.toNatClampNeg p0, upd gnx (gla p1.toNatClampNeg).toNatClampNeg p0), rfl, (by rw [tw_GR_join, if_neg c_1, if_neg c_2]; first | done | rfl), by rw [ht]; exact hP, hD⟩, hS.F ht⟩) hS.2.2 d_GR_join_32
abbrev wd_GR_gatherOne (aU aS aY aP aGk aGh aGf aGl aGn aGv aB : Nat) (cB cI : ClassId) (held : Int32) (gsum : Int64) (b : Nat → UInt8) (ngr : Int32) (gky : Nat → Int32) (ghs : Nat → Int32) (gfi : Nat → Int32) (gla : Nat → Int32) (gnx : Nat → Int32) : va_W := [(aU, .inr (7, [.ref aS, .ref aY, .ref aP, .ref aGk, .ref aGh, .ref aGf, .ref aGl, .ref aGn, .int ngr, .ref aGv, .int held, .long gsum])), (aS, .inr (0, [.ref aB])), (aB, .inl (cB, 202000, .inl (by_ b))), (aGk, .inl (cI, 200, .inl gky)), (aGh, .inl (cI, 200, .inl ghs)), (aGf, .inl (cI, 200, .inl gfi)), (aGl, .inl (cI, 200, .inl gla)), (aGn, .inl (cI, 200, .inl gnx))]
set_option maxHeartbeats 4000000 in
set_option maxRecDepth 100000 in
theorem l_GR_gatherOne_h13 {p : Program} {e : Env} {s : State} {m : MethodId} {args : Array Value} {below : List Frame} {meth : Method} {c : Code} {V : Int32 × (Nat → Int32) × (Nat → Int32) × (Nat → Int32) × (Nat → Int32) × (Nat → Int32)} (C0 : lc_C p s m meth c args b_GR_gatherOne 5 none R_GR lw_g) (l : Launch) (D : va_G) (cB cI : ClassId) (aU aS aY aP aGk aGh aGf aGl aGn aGv aB : Nat) (held : Int32) (gsum : Int64) (b : Nat → UInt8) {A : Nat → Prop} (hk : hk_ D cB cI s) (hA : ∀ q : Nat, s.heap.size ≤ q → A q) (p0 : Int32) (p1 : Int32) (x3 : Int32) : ∀ (n : Nat) (x4 : Int32) (ngr : Int32) (gky : Nat → Int32) (ghs : Nat → Int32) (gfi : Nat → Int32) (gla : Nat → Int32) (gnx : Nat → Int32), (ngr.toInt - x4.toInt).toNat < n → ¬ x4 < 0 → g_ok ngr → V = tw_GR_gatherOne_h13 b p0 p1 x3 n x4 ngr gky ghs gfi gla gnx → ∀ (H : Heap) (locs : List Loc), va_P D vwCl [(aU, .inr (7, [.ref aS, .ref aY, .ref aP, .ref aGk, .ref aGh, .ref aGf, .ref aGl, .ref aGn, .int ngr, .ref aGv, .int held, .long gsum])), (aS, .inr (0, [.ref aB])), (aB, .inl (cB, 202000, .inl (by_ b))), (aGk, .inl (cI, 200, .inl gky)), (aGh, .inl (cI, 200, .inl ghs)), (aGf, .inl (cI, 200, .inl gfi)), (aGl, .inl (cI, 200, .inl gla)), (aGn, .inl (cI, 200, .inl gnx))] H → va_D A [(aU, .inr (7, [.ref aS, .ref aY, .ref aP, .ref aGk, .ref aGh, .ref aGf, .ref aGl, .ref aGn, .int ngr, .ref aGv, .int held, .long gsum])), (aS, .inr (0, [.ref aB])), (aB, .inl (cB, 202000, .inl (by_ b))), (aGk, .inl (cI, 200, .inl gky)), (aGh, .inl (cI, 200, .inl ghs)), (aGf, .inl (cI, 200, .inl gfi)), (aGl, .inl (cI, 200, .inl gla)), (aGn, .inl (cI, 200, .inl gnx))] → va_S A s.heap H locs → ∀ ls : Array Slot, lv_has ls 5 [(0, .ref aU), (1, .int p0), (2, .int p1), (3, .int x3), (4, .int x4)] → W p l e ({ frames := 416, cells := 0, slots := 0, locals := 9984 }) s m args below meth c H locs 0 0 (MQ below (va_Qv (fun (u : Int32 × (Nat → Int32) × (Nat → Int32) × (Nat → Int32) × (Nat → Int32) × (Nat → Int32)) => u = V ∧ g_ok u.1) (mt_B D A (fun u => wd_GR_gatherOne aU aS aY aP aGk aGh aGf aGl aGn aGv aB cB cI held gsum b u.1 u.2.1 u.2.2.1 u.2.2.2.1 u.2.2.2.2.1 u.2.2.2.2.2)) A) args s 0 0 A) (F0 m 13 ls []) := by
  obtain ⟨hx, hb, hml, hr, hown, hlocks, hT⟩ := id C0
  have hK := hk.1
  have hN := hk.2.1
  intro n
  induction n with
  | zero =>
    intro x4 ngr gky ghs gfi gla gnx hm
    exact absurd hm (Nat.not_lt_zero _)
  | succ n ih =>
    intro x4 ngr gky ghs gfi gla gnx hm hv1 hi hV H locs hP hD hS ls hl
    refine lv_iload hx hb d_GR_gatherOne_13 (lv_at hl 4 rfl) ?_
    refine lv_aload_n hx hb d_GR_gatherOne_15 rfl (lv_at hl 0 rfl) ?_
    refine va_get (D := D) (ci := 7) (v := .int ngr) (C := R_GR) (T := T_GR) (N := 12) hx hb hT u_GR hown hK hP 0 rfl rfl 8 (by decide) (hT _ k_220) (fun _ h9 => h9) rfl d_GR_gatherOne_16 ?_
    refine lv_icmp_ge (tgt := 66) hx hb d_GR_gatherOne_19 (by decide) (fun c_1 => ?_) (fun c_1 => ?_)
    · refine lv_aload_n hx hb d_GR_gatherOne_66 rfl (lv_at hl 0 rfl) ?_
      refine va_get (D := D) (ci := 7) (v := .int ngr) (C := R_GR) (T := T_GR) (N := 12) hx hb hT u_GR hown hK hP 0 rfl rfl 8 (by decide) (hT _ k_220) (fun _ h9 => h9) rfl d_GR_gatherOne_67 ?_
      refine lv_sipush (v := 200) hx hb d_GR_gatherOne_70 (by decide) ?_
      refine lv_icmp_ge (tgt := 126) hx hb d_GR_gatherOne_73 (by decide) (fun c_2 => ?_) (fun c_2 => ?_)
      · exact W.vret hx hb hr (fun t ht hW => ⟨⟨(ngr, gky, ghs, gfi, gla, gnx), rfl, ⟨(by rw [hV, tw_GR_gatherOne_h13, if_pos c_1, if_pos c_2]; first | done | rfl), hi⟩, by rw [ht]; exact hP, hD⟩, hS.F ht⟩) hS.2.2 d_GR_gatherOne_126
      · refine lv_aload_n hx hb d_GR_gatherOne_76 rfl (lv_at hl 0 rfl) ?_
        refine va_get (D := D) (ci := 7) (v := .ref aGk) (C := R_GR) (T := T_GR) (N := 12) hx hb hT u_GR hown hK hP 0 rfl rfl 3 (by decide) (hT _ k_215) (fun _ h9 => h9) rfl d_GR_gatherOne_77 ?_
        refine lv_aload_n hx hb d_GR_gatherOne_80 rfl (lv_at hl 0 rfl) ?_
        refine va_get (D := D) (ci := 7) (v := .int ngr) (C := R_GR) (T := T_GR) (N := 12) hx hb hT u_GR hown hK hP 0 rfl rfl 8 (by decide) (hT _ k_220) (fun _ h9 => h9) rfl d_GR_gatherOne_81 ?_
        refine lv_iload_n hx hb d_GR_gatherOne_84 rfl (lv_at hl 2 rfl) ?_
        refine va_iast hx hb hK hP hD hS 3 1 rfl rfl (in_gn hi c_2) d_GR_gatherOne_85 (fun H locs hP hD hS => ?_)
        have hP : va_P D vwCl [(aU, .inr (7, [.ref aS, .ref aY, .ref aP, .ref aGk, .ref aGh, .ref aGf, .ref aGl, .ref aGn, .int ngr, .ref aGv, .int held, .long gsum])), (aS, .inr (0, [.ref aB])), (aB, .inl (cB, 202000, .inl (by_ b))), (aGk, .inl (cI, 200, .inl (upd gky ngr.toNatClampNeg p1))), (aGh, .inl (cI, 200, .inl ghs)), (aGf, .inl (cI, 200, .inl gfi)), (aGl, .inl (cI, 200, .inl gla)), (aGn, .inl (cI, 200, .inl gnx))] H := hP
        have hD : va_D A [(aU, .inr (7, [.ref aS, .ref aY, .ref aP, .ref aGk, .ref aGh, .ref aGf, .ref aGl, .ref aGn, .int ngr, .ref aGv, .int held, .long gsum])), (aS, .inr (0, [.ref aB])), (aB, .inl (cB, 202000, .inl (by_ b))), (aGk, .inl (cI, 200, .inl (upd gky ngr.toNatClampNeg p1))), (aGh, .inl (cI, 200, .inl ghs)), (aGf, .inl (cI, 200, .inl gfi)), (aGl, .inl (cI, 200, .inl gla)), (aGn, .inl (cI, 200, .inl gnx))] := hD
        refine lv_aload_n hx hb d_GR_gatherOne_86 rfl (lv_at hl 0 rfl) ?_
        refine va_get (D := D) (ci := 7) (v := .ref aGh) (C := R_GR) (T := T_GR) (N := 12) hx hb hT u_GR hown hK hP 0 rfl rfl 4 (by decide) (hT _ k_216) (fun _ h9 => h9) rfl d_GR_gatherOne_87 ?_
        refine lv_aload_n hx hb d_GR_gatherOne_90 rfl (lv_at hl 0 rfl) ?_
        refine va_get (D := D) (ci := 7) (v := .int ngr) (C := R_GR) (T := T_GR) (N := 12) hx hb hT u_GR hown hK hP 0 rfl rfl 8 (by decide) (hT _ k_220) (fun _ h9 => h9) rfl d_GR_gatherOne_91 ?_
        refine lv_iload_n hx hb d_GR_gatherOne_94 rfl (lv_at hl 3 rfl) ?_
        refine va_iast hx hb hK hP hD hS 4 1 rfl rfl (in_gn hi c_2) d_GR_gatherOne_95 (fun H locs hP hD hS => ?_)
        have hP : va_P D vwCl [(aU, .inr (7, [.ref aS, .ref aY, .ref aP, .ref aGk, .ref aGh, .ref aGf, .ref aGl, .ref aGn, .int ngr, .ref aGv, .int held, .long gsum])), (aS, .inr (0, [.ref aB])), (aB, .inl (cB, 202000, .inl (by_ b))), (aGk, .inl (cI, 200, .inl (upd gky ngr.toNatClampNeg p1))), (aGh, .inl (cI, 200, .inl (upd ghs ngr.toNatClampNeg x3))), (aGf, .inl (cI, 200, .inl gfi)), (aGl, .inl (cI, 200, .inl gla)), (aGn, .inl (cI, 200, .inl gnx))] H := hP
        have hD : va_D A [(aU, .inr (7, [.ref aS, .ref aY, .ref aP, .ref aGk, .ref aGh, .ref aGf, .ref aGl, .ref aGn, .int ngr, .ref aGv, .int held, .long gsum])), (aS, .inr (0, [.ref aB])), (aB, .inl (cB, 202000, .inl (by_ b))), (aGk, .inl (cI, 200, .inl (upd gky ngr.toNatClampNeg p1))), (aGh, .inl (cI, 200, .inl (upd ghs ngr.toNatClampNeg x3))), (aGf, .inl (cI, 200, .inl gfi)), (aGl, .inl (cI, 200, .inl gla)), (aGn, .inl (cI, 200, .inl gnx))] := hD
        refine lv_aload_n hx hb d_GR_gatherOne_96 rfl (lv_at hl 0 rfl) ?_
        refine va_get (D := D) (ci := 7) (v := .ref aGf) (C := R_GR) (T := T_GR) (N := 12) hx hb hT u_GR hown hK hP 0 rfl rfl 5 (by decide) (hT _ k_217) (fun _ h9 => h9) rfl d_GR_gatherOne_97 ?_
        refine lv_aload_n hx hb d_GR_gatherOne_100 rfl (lv_at hl 0 rfl) ?_
        refine va_get (D := D) (ci := 7) (v := .int ngr) (C := R_GR) (T := T_GR) (N := 12) hx hb hT u_GR hown hK hP 0 rfl rfl 8 (by decide) (hT _ k_220) (fun _ h9 => h9) rfl d_GR_gatherOne_101 ?_
        refine lv_iload_n hx hb d_GR_gatherOne_104 rfl (lv_at hl 1 rfl) ?_
        refine va_iast hx hb hK hP hD hS 5 1 rfl rfl (in_gn hi c_2) d_GR_gatherOne_105 (fun H locs hP hD hS => ?_)
        have hP : va_P D vwCl [(aU, .inr (7, [.ref aS, .ref aY, .ref aP, .ref aGk, .ref aGh, .ref aGf, .ref aGl, .ref aGn, .int ngr, .ref aGv, .int held, .long gsum])), (aS, .inr (0, [.ref aB])), (aB, .inl (cB, 202000, .inl (by_ b))), (aGk, .inl (cI, 200, .inl (upd gky ngr.toNatClampNeg p1))), (aGh, .inl (cI, 200, .inl (upd ghs ngr.toNatClampNeg x3))), (aGf, .inl (cI, 200, .inl (upd gfi ngr.toNatClampNeg p0))), (aGl, .inl (cI, 200, .inl gla)), (aGn, .inl (cI, 200, .inl gnx))] H := hP
        have hD : va_D A [(aU, .inr (7, [.ref aS, .ref aY, .ref aP, .ref aGk, .ref aGh, .ref aGf, .ref aGl, .ref aGn, .int ngr, .ref aGv, .int held, .long gsum])), (aS, .inr (0, [.ref aB])), (aB, .inl (cB, 202000, .inl (by_ b))), (aGk, .inl (cI, 200, .inl (upd gky ngr.toNatClampNeg p1))), (aGh, .inl (cI, 200, .inl (upd ghs ngr.toNatClampNeg x3))), (aGf, .inl (cI, 200, .inl (upd gfi ngr.toNatClampNeg p0))), (aGl, .inl (cI, 200, .inl gla)), (aGn, .inl (cI, 200, .inl gnx))] := hD
        refine lv_aload_n hx hb d_GR_gatherOne_106 rfl (lv_at hl 0 rfl) ?_
        refine va_get (D := D) (ci := 7) (v := .ref aGl) (C := R_GR) (T := T_GR) (N := 12) hx hb hT u_GR hown hK hP 0 rfl rfl 6 (by decide) (hT _ k_218) (fun _ h9 => h9) rfl d_GR_gatherOne_107 ?_
        refine lv_aload_n hx hb d_GR_gatherOne_110 rfl (lv_at hl 0 rfl) ?_
        refine va_get (D := D) (ci := 7) (v := .int ngr) (C := R_GR) (T := T_GR) (N := 12) hx hb hT u_GR hown hK hP 0 rfl rfl 8 (by decide) (hT _ k_220) (fun _ h9 => h9) rfl d_GR_gatherOne_111 ?_
        refine lv_iload_n hx hb d_GR_gatherOne_114 rfl (lv_at hl 1 rfl) ?_
        refine va_iast hx hb hK hP hD hS 6 1 rfl rfl (in_gn hi c_2) d_GR_gatherOne_115 (fun H locs hP hD hS => ?_)
        have hP : va_P D vwCl [(aU, .inr (7, [.ref aS, .ref aY, .ref aP, .ref aGk, .ref aGh, .ref aGf, .ref aGl, .ref aGn, .int ngr, .ref aGv, .int held, .long gsum])), (aS, .inr (0, [.ref aB])), (aB, .inl (cB, 202000, .inl (by_ b))), (aGk, .inl (cI, 200, .inl (upd gky ngr.toNatClampNeg p1))), (aGh, .inl (cI, 200, .inl (upd ghs ngr.toNatClampNeg x3))), (aGf, .inl (cI, 200, .inl (upd gfi ngr.toNatClampNeg p0))), (aGl, .inl (cI, 200, .inl (upd gla ngr.toNatClampNeg p0))), (aGn, .inl (cI, 200, .inl gnx))] H := hP
        have hD : va_D A [(aU, .inr (7, [.ref aS, .ref aY, .ref aP, .ref aGk, .ref aGh, .ref aGf, .ref aGl, .ref aGn, .int ngr, .ref aGv, .int held, .long gsum])), (aS, .inr (0, [.ref aB])), (aB, .inl (cB, 202000, .inl (by_ b))), (aGk, .inl (cI, 200, .inl (upd gky ngr.toNatClampNeg p1))), (aGh, .inl (cI, 200, .inl (upd ghs ngr.toNatClampNeg x3))), (aGf, .inl (cI, 200, .inl (upd gfi ngr.toNatClampNeg p0))), (aGl, .inl (cI, 200, .inl (upd gla ngr.toNatClampNeg p0))), (aGn, .inl (cI, 200, .inl gnx))] := hD
        refine lv_aload_n hx hb d_GR_gatherOne_116 rfl (lv_at hl 0 rfl) ?_
        refine lv_dup hx hb d_GR_gatherOne_117 rfl ?_
        refine va_get (D := D) (ci := 7) (v := .int ngr) (C := R_GR) (T := T_GR) (N := 12) hx hb hT u_GR hown hK hP 0 rfl rfl 8 (by decide) (hT _ k_220) (fun _ h9 => h9) rfl d_GR_gatherOne_118 ?_
        refine lv_iconst (v := 1) hx hb d_GR_gatherOne_121 (by decide) ?_
        refine lv_iadd hx hb d_GR_gatherOne_122 ?_
        refine va_put (D := D) (ci := 7) (v := .int (ngr + 1)) (ty := .int) (C := R_GR) (T := T_GR) (N := 12) hx hb hT u_GR ty_GR tyok_GR nm_GR hown hK hP hD hS 0 rfl rfl 8 (by decide) (hT _ k_220) (fun _ h9 => h9) rfl (by decide +kernel) (rfl) (rfl) (Nat.le_of_ble_eq_true rfl) d_GR_gatherOne_123 (fun H locs hP hD hS => ?_)
        have hP : va_P D vwCl [(aU, .inr (7, [.ref aS, .ref aY, .ref aP, .ref aGk, .ref aGh, .ref aGf, .ref aGl, .ref aGn, .int (ngr + 1), .ref aGv, .int held, .long gsum])), (aS, .inr (0, [.ref aB])), (aB, .inl (cB, 202000, .inl (by_ b))), (aGk, .inl (cI, 200, .inl (upd gky ngr.toNatClampNeg p1))), (aGh, .inl (cI, 200, .inl (upd ghs ngr.toNatClampNeg x3))), (aGf, .inl (cI, 200, .inl (upd gfi ngr.toNatClampNeg p0))), (aGl, .inl (cI, 200, .inl (upd gla ngr.toNatClampNeg p0))), (aGn, .inl (cI, 200, .inl gnx))] H := hP
        have hD : va_D A [(aU, .inr (7, [.ref aS, .ref aY, .ref aP, .ref aGk, .ref aGh, .ref aGf, .ref aGl, .ref aGn, .int (ngr + 1), .ref aGv, .int held, .long gsum])), (aS, .inr (0, [.ref aB])), (aB, .inl (cB, 202000, .inl (by_ b))), (aGk, .inl (cI, 200, .inl (upd gky ngr.toNatClampNeg p1))), (aGh, .inl (cI, 200, .inl (upd ghs ngr.toNatClampNeg x3))), (aGf, .inl (cI, 200, .inl (upd gfi ngr.toNatClampNeg p0))), (aGl, .inl (cI, 200, .inl (upd gla ngr.toNatClampNeg p0))), (aGn, .inl (cI, 200, .inl gnx))] := hD
        exact W.vret hx hb hr (fun t ht hW => ⟨⟨(ngr + 1, upd gky ngr.toNatClampNeg p1, upd ghs ngr.toNatClampNeg x3, upd gfi ngr.toNatClampNeg p0, upd gla ngr.toNatClampNeg p0, gnx), rfl, ⟨(by rw [hV, tw_GR_gatherOne_h13, if_pos c_1, if_neg c_2]; first | done | rfl), (g_inc hi c_2)⟩, by rw [ht]; exact hP, hD⟩, hS.F ht⟩) hS.2.2 d_GR_gatherOne_126
    · refine lv_aload_n hx hb d_GR_gatherOne_22 rfl (lv_at hl 0 rfl) ?_
      refine va_get (D := D) (ci := 7) (v := .ref aGh) (C := R_GR) (T := T_GR) (N := 12) hx hb hT u_GR hown hK hP 0 rfl rfl 4 (by decide) (hT _ k_216) (fun _ h9 => h9) rfl d_GR_gatherOne_23 ?_
      refine lv_iload hx hb d_GR_gatherOne_26 (lv_at hl 4 rfl) ?_
      refine va_iald hx hb hK hP 4 1 rfl rfl (in_g hv1 c_1 hi) d_GR_gatherOne_28 ?_
      refine lv_iload_n hx hb d_GR_gatherOne_29 rfl (lv_at hl 3 rfl) ?_
      refine lv_icmp_ne (tgt := 60) hx hb d_GR_gatherOne_30 (by decide) (fun c_3 => ?_) (fun c_3 => ?_)
      · refine lv_iinc (v := x4 + 1) (lv' := [(4, .int (x4 + 1)), (0, .ref aU), (1, .int p0), (2, .int p1), (3, .int x3)]) hx hb d_GR_gatherOne_60 hl (k := 4) rfl rfl (by decide) rfl (fun ls hl => ?_)
        refine lv_goto (tgt := 13) hx hb d_GR_gatherOne_63 (by decide) ?_
        exact ih (x4 + 1) ngr gky ghs gfi gla gnx (lp_up hm c_1) (i_upn hv1 c_1) (hi) (by rw [hV, tw_GR_gatherOne_h13, if_neg c_1, if_neg c_3]) _ _ hP hD hS ls (lv_sub hl [1, 2, 3, 4, 0] rfl)
      · refine lv_aload_n hx hb d_GR_gatherOne_33 rfl (lv_at hl 0 rfl) ?_
        refine va_get (D := D) (ci := 7) (v := .ref aS) (C := R_GR) (T := T_GR) (N := 12) hx hb hT u_GR hown hK hP 0 rfl rfl 0 (by decide) (hT _ k_212) (fun _ h9 => h9) rfl d_GR_gatherOne_34 ?_
        refine lv_aload_n hx hb d_GR_gatherOne_37 rfl (lv_at hl 0 rfl) ?_
        refine va_get (D := D) (ci := 7) (v := .ref aGk) (C := R_GR) (T := T_GR) (N := 12) hx hb hT u_GR hown hK hP 0 rfl rfl 3 (by decide) (hT _ k_215) (fun _ h9 => h9) rfl d_GR_gatherOne_38 ?_
        refine lv_iload hx hb d_GR_gatherOne_41 (lv_at hl 4 rfl) ?_
        refine va_iald hx hb hK hP 3 1 rfl rfl (in_g hv1 c_1 hi) d_GR_gatherOne_43 ?_
        refine lv_iload_n hx hb d_GR_gatherOne_44 rfl (lv_at hl 2 rfl) ?_
        refine lv_iconst (v := 0) hx hb d_GR_gatherOne_45 (by decide) ?_
        refine rd_V (val := tw_ST_cmp0 b (gky x4.toNatClampNeg) p1) (As := [.int (gky x4.toNatClampNeg), .int p1, .int 0]) (rest := []) ⟨hx, hb, hml, hown, hT⟩ (c_ST_cmp0 l D cB cI aS aB b (gky x4.toNatClampNeg) p1) (cwV 3 hT (gV_of k_783 k_784 k_785 k_2 kc_ST_compare) rfl rfl rfl hd_ST_compare ⟨Nat.le_of_ble_eq_true rfl, Nat.le_of_ble_eq_true rfl⟩) hk (hP.sub (ws' := [(aS, .inr (0, [.ref aB])), (aB, .inl (cB, 202000, .inl (by_ b)))]) [1, 2] rfl) (q0 := 0) rfl rfl rfl rfl hl.1 rfl (Nat.le_of_ble_eq_true rfl) d_GR_gatherOne_46 ⟨Nat.zero_le _, Nat.zero_le _⟩ ?_
        refine lv_if_ne (tgt := 60) hx hb d_GR_gatherOne_49 (by decide) (fun c_4 => ?_) (fun c_4 => ?_)
        · refine lv_iinc (v := x4 + 1) (lv' := [(4, .int (x4 + 1)), (0, .ref aU), (1, .int p0), (2, .int p1), (3, .int x3)]) hx hb d_GR_gatherOne_60 hl (k := 4) rfl rfl (by decide) rfl (fun ls hl => ?_)
          refine lv_goto (tgt := 13) hx hb d_GR_gatherOne_63 (by decide) ?_
          exact ih (x4 + 1) ngr gky ghs gfi gla gnx (lp_up hm c_1) (i_upn hv1 c_1) (hi) (by rw [hV, tw_GR_gatherOne_h13, if_neg c_1, if_pos c_3, if_neg c_4]) _ _ hP hD hS ls (lv_sub hl [1, 2, 3, 4, 0] rfl)
        · refine lv_aload_n hx hb d_GR_gatherOne_52 rfl (lv_at hl 0 rfl) ?_
          refine lv_iload_n hx hb d_GR_gatherOne_53 rfl (lv_at hl 1 rfl) ?_
          refine lv_iload hx hb d_GR_gatherOne_54 (lv_at hl 4 rfl) ?_
          refine mt_Vv (As := [.int p0, .int x4]) (rest := []) (wr := [(aS, .inr (0, [.ref aB])), (aB, .inl (cB, 202000, .inl (by_ b))), (aGk, .inl (cI, 200, .inl gky)), (aGh, .inl (cI, 200, .inl ghs)), (aGf, .inl (cI, 200, .inl gfi))]) ⟨hx, hb, hml, hown, hT⟩ (c_GR_join l D cB cI aU aS aY aP aGk aGh aGf aGl aGn aGv ngr held gsum _ gla gnx p0 x4 (g_lt hv1 c_1 hi)) (cwV 2 hT (gV_of k_795 k_797 kp_GR_join k_9 kc_GR_join) rfl rfl rfl hd_GR_join ⟨Nat.le_of_ble_eq_true rfl, Nat.le_of_ble_eq_true rfl⟩) hk hP hD hS hA [0, 6, 7] [1, 2, 3, 4, 5] rfl rfl rfl (by decide) (by decide) (by decide) (q0 := 0) rfl rfl rfl rfl hl.1 rfl (Nat.le_of_ble_eq_true rfl) d_GR_gatherOne_56 ⟨Nat.zero_le _, Nat.zero_le _⟩ (fun u_5 H locs hw_5 hP hD hS => ?_)
          obtain ⟨gla_5, gnx_5⟩ := u_5
          have hP : va_P D vwCl [(aU, .inr (7, [.ref aS, .ref aY, .ref aP, .ref aGk, .ref aGh, .ref aGf, .ref aGl, .ref aGn, .int ngr, .ref aGv, .int held, .long gsum])), (aS, .inr (0, [.ref aB])), (aB, .inl (cB, 202000, .inl (by_ b))), (aGk, .inl (cI, 200, .inl gky)), (aGh, .inl (cI, 200, .inl ghs)), (aGf, .inl (cI, 200, .inl gfi)), (aGl, .inl (cI, 200, .inl gla_5)), (aGn, .inl (cI, 200, .inl gnx_5))] H := hP.sub [5, 0, 1, 2, 3, 4, 6, 7] rfl
          have hD : va_D A [(aU, .inr (7, [.ref aS, .ref aY, .ref aP, .ref aGk, .ref aGh, .ref aGf, .ref aGl, .ref aGn, .int ngr, .ref aGv, .int held, .long gsum])), (aS, .inr (0, [.ref aB])), (aB, .inl (cB, 202000, .inl (by_ b))), (aGk, .inl (cI, 200, .inl gky)), (aGh, .inl (cI, 200, .inl ghs)), (aGf, .inl (cI, 200, .inl gfi)), (aGl, .inl (cI, 200, .inl gla_5)), (aGn, .inl (cI, 200, .inl gnx_5))] := hD.sub [5, 0, 1, 2, 3, 4, 6, 7] (by decide) rfl
          exact W.vret hx hb hr (fun t ht hW => ⟨⟨(ngr, gky, ghs, gfi, gla_5, gnx_5), rfl, ⟨(by rw [hV, tw_GR_gatherOne_h13, if_neg c_1, if_pos c_3, if_pos c_4, ← hw_5, tp2_mk]; first | done | rfl), hi⟩, by rw [ht]; exact hP, hD⟩, hS.F ht⟩) hS.2.2 d_GR_gatherOne_59
set_option maxHeartbeats 4000000 in
set_option maxRecDepth 100000 in
theorem c_GR_gatherOne (l : Launch) (D : va_G) (cB cI : ClassId) (aU aS aY aP aGk aGh aGf aGl aGn aGv aB : Nat) (held : Int32) (gsum : Int64) (b : Nat → UInt8) (sz : Nat) (ngr : Int32) (gky : Nat → Int32) (ghs : Nat → Int32) (gfi : Nat → Int32) (gla : Nat → Int32) (gnx : Nat → Int32) (p0 : Int32) (p1 : Int32) (hi : g_ok ngr) : Met l y_GR_gatherOne mw_GR_gatherOne { frames := 416, cells := 0, slots := 0, locals := 9984 } (va_Pc [.ref aU, .int p0, .int p1] (mt_P D cB cI (wd_GR_gatherOne aU aS aY aP aGk aGh aGf aGl aGn aGv aB cB cI held gsum b ngr gky ghs gfi gla gnx) sz)) (va_Qv (fun (u : Int32 × (Nat → Int32) × (Nat → Int32) × (Nat → Int32) × (Nat → Int32) × (Nat → Int32)) => u = tw_GR_gatherOne b ngr gky ghs gfi gla gnx p0 p1 ∧ g_ok u.1) (mt_B D (va_A (wd_GR_gatherOne aU aS aY aP aGk aGh aGf aGl aGn aGv aB cB cI held gsum b ngr gky ghs gfi gla gnx) sz) (fun u => wd_GR_gatherOne aU aS aY aP aGk aGh aGf aGl aGn aGv aB cB cI held gsum b u.1 u.2.1 u.2.2.1 u.2.2.2.1 u.2.2.2.2.1 u.2.2.2.2.2)) (va_A (wd_GR_gatherOne aU aS aY aP aGk aGh aGf aGl aGn aGv aB cB cI held gsum b ngr gky ghs gfi gla gnx) sz)) 0 0 (va_A (wd_GR_gatherOne aU aS aY aP aGk aGh aGf aGl aGn aGv aB cB cI held gsum b ngr gky ghs gfi gla gnx) sz) := by
  refine Met.ofW (cc := b_GR_gatherOne) (maxL := 5) (ret := none) (by decide) rfl ?_
  intro p e s m args below meth c s₁ B0 hml hv
  obtain ⟨rfl, hsz, hP, hk, hD0⟩ := hv
  have hK := hk.1
  have hN := hk.2.1
  have hx := B0.exec
  have hb := B0.bytes
  have hr := B0.returns
  have hT : ∀ w ∈ lw_g, w.before _ s = true := fun w h => atoms_spec (ws := mw_GR_gatherOne) B0.pre w (List.mem_cons_of_mem _ h)
  have hown : s.vm.findClass R_GR = some m.cls := findClass_of_methodNamed B0.named
  have hlocks := B0.notSynchronized
  subst hsz
  have hD := hD0.self (sz := s.heap.size)
  generalize hAe : va_A [(aU, .inr (7, [.ref aS, .ref aY, .ref aP, .ref aGk, .ref aGh, .ref aGf, .ref aGl, .ref aGn, .int ngr, .ref aGv, .int held, .long gsum])), (aS, .inr (0, [.ref aB])), (aB, .inl (cB, 202000, .inl (by_ b))), (aGk, .inl (cI, 200, .inl gky)), (aGh, .inl (cI, 200, .inl ghs)), (aGf, .inl (cI, 200, .inl gfi)), (aGl, .inl (cI, 200, .inl gla)), (aGn, .inl (cI, 200, .inl gnx))] s.heap.size = A at hD ⊢
  have hA : ∀ q : Nat, s.heap.size ≤ q → A q := fun q h => by rw [← hAe]; exact Or.inr h
  have hS : va_S A s.heap s.heap [] := va_S.rf
  have hl := lv_entry ([.ref aU, .int p0, .int p1]) (n := 5) (Nat.le_of_ble_eq_true rfl)
  rw [lg_entry_eq]
  generalize (lg_sl ([.ref aU, .int p0, .int p1]) ++ List.replicate (5 - (lg_sl ([.ref aU, .int p0, .int p1])).length) Slot.unset).toArray = ls at hl ⊢
  have hl : lv_has ls 5 [(0, .ref aU), (1, .int p0), (2, .int p1)] := hl
  have C0 : lc_C p s m meth c _ b_GR_gatherOne 5 none R_GR lw_g := ⟨hx, hb, hml, hr, hown, hlocks, hT⟩
  refine lv_aload_n hx hb d_GR_gatherOne_0 rfl (lv_at hl 0 rfl) ?_
  refine va_get (D := D) (ci := 7) (v := .ref aS) (C := R_GR) (T := T_GR) (N := 12) hx hb hT u_GR hown hK hP 0 rfl rfl 0 (by decide) (hT _ k_212) (fun _ h9 => h9) rfl d_GR_gatherOne_1 ?_
  refine lv_iload_n hx hb d_GR_gatherOne_4 rfl (lv_at hl 2 rfl) ?_
  refine lv_iconst (v := 0) hx hb d_GR_gatherOne_5 (by decide) ?_
  refine rd_V (val := tw_ST_hsh0 b p1) (As := [.int p1, .int 0]) (rest := []) ⟨hx, hb, hml, hown, hT⟩ (c_ST_hsh0 l D cB cI aS aB b p1) (cwV 2 hT (gV_of k_756 k_757 k_758 k_2 kc_ST_hash) rfl rfl rfl hd_ST_hash ⟨Nat.le_of_ble_eq_true rfl, Nat.le_of_ble_eq_true rfl⟩) hk (hP.sub (ws' := [(aS, .inr (0, [.ref aB])), (aB, .inl (cB, 202000, .inl (by_ b)))]) [1, 2] rfl) (q0 := 0) rfl rfl rfl rfl hl.1 rfl (Nat.le_of_ble_eq_true rfl) d_GR_gatherOne_6 ⟨Nat.zero_le _, Nat.zero_le _⟩ ?_
  refine lv_istore_n (lv' := [(3, .int (tw_ST_hsh0 b p1)), (0, .ref aU), (1, .int p0), (2, .int p1)]) hx hb d_GR_gatherOne_9 rfl hl (by decide) rfl (fun ls hl => ?_)
  refine lv_iconst (v := 0) hx hb d_GR_gatherOne_10 (by decide) ?_
  refine lv_istore (lv' := [(4, .int 0), (3, .int (tw_ST_hsh0 b p1)), (0, .ref aU), (1, .int p0), (2, .int p1)]) hx hb d_GR_gatherOne_11 hl (by decide) rfl (fun ls hl => ?_)
  exact l_GR_gatherOne_h13 C0 l D cB cI aU aS aY aP aGk aGh aGf aGl aGn aGv aB held gsum b hk hA p0 p1 (tw_ST_hsh0 b p1)  (((ngr.toInt - (0 : Int32).toInt).toNat) + 1) 0 ngr gky ghs gfi gla gnx (Nat.lt_succ_self _) (by decide) (hi) (by rw [tw_GR_gatherOne]) _ _ hP hD hS ls (lv_sub hl [2, 3, 4, 1, 0] rfl)
abbrev wd_GR_gather (aU aS aY aP aGk aGh aGf aGl aGn aGv aW aF aK aN aFs aB aV aPs aPe aPi aPh aPl aPn : Nat) (cB cI : ClassId) (fbase : Int32) (held : Int32) (gsum : Int64) (fcnt : Int32) (fsts : Nat → Int32) (plc : Int32) (psr : Int32) (pbs : Int32) (pms : Bool) (ngr : Int32) (b : Nat → UInt8) (pcnt : Int32) (pfix : Bool) (pown : Int32) (vplace : Int32) (vlimit : Int32) (vfull : Bool) (pst : Nat → Int32) (pen : Nat → Int32) (pix : Nat → Int32) (gky : Nat → Int32) (ghs : Nat → Int32) (gfi : Nat → Int32) (gla : Nat → Int32) (gnx : Nat → Int32) : va_W := [(aU, .inr (7, [.ref aS, .ref aY, .ref aP, .ref aGk, .ref aGh, .ref aGf, .ref aGl, .ref aGn, .int ngr, .ref aGv, .int held, .long gsum])), (aY, .inr (3, [.ref aS, .ref aW, .ref aF, .ref aK, .ref aN])), (aF, .inr (2, [.int fbase, .ref aFs, .int fcnt])), (aFs, .inl (cI, 201, .inl fsts)), (aS, .inr (0, [.ref aB])), (aB, .inl (cB, 202000, .inl (by_ b))), (aP, .inr (5, [.ref aS, .ref aV, .ref aPs, .ref aPe, .ref aPi, .ref aPh, .int pcnt, .int (b2i pfix), .int pown, .ref aPl, .ref aPn, .int plc, .int psr, .int pbs, .int (b2i pms)])), (aV, .inr (1, [.ref aS, .int vplace, .int vlimit, .int (b2i vfull)])), (aPs, .inl (cI, 8, .inl pst)), (aPe, .inl (cI, 8, .inl pen)), (aPi, .inl (cI, 8, .inl pix)), (aGk, .inl (cI, 200, .inl gky)), (aGh, .inl (cI, 200, .inl ghs)), (aGf, .inl (cI, 200, .inl gfi)), (aGl, .inl (cI, 200, .inl gla)), (aGn, .inl (cI, 200, .inl gnx))]
set_option maxHeartbeats 4000000 in
set_option maxRecDepth 100000 in
theorem l_GR_gather_h28 {p : Program} {e : Env} {s : State} {m : MethodId} {args : Array Value} {below : List Frame} {meth : Method} {c : Code} {V : Int32 × (Nat → UInt8) × Int32 × Bool × Int32 × Int32 × Int32 × Bool × (Nat → Int32) × (Nat → Int32) × (Nat → Int32) × (Nat → Int32) × (Nat → Int32) × (Nat → Int32) × (Nat → Int32) × (Nat → Int32)} (C0 : lc_C p s m meth c args b_GR_gather 4 none R_GR lw_g) (l : Launch) (D : va_G) (cB cI : ClassId) (aU aS aY aP aGk aGh aGf aGl aGn aGv aW aF aK aN aFs aB aV aPs aPe aPi aPh aPl aPn : Nat) (fbase : Int32) (held : Int32) (gsum : Int64) (fcnt : Int32) (fsts : Nat → Int32) (plc : Int32) (psr : Int32) (pbs : Int32) (pms : Bool) {A : Nat → Prop} (hk : hk_ D cB cI s) (hA : ∀ q : Nat, s.heap.size ≤ q → A q)  : ∀ (n : Nat) (x2 : Int32) (ngr : Int32) (b : Nat → UInt8) (pcnt : Int32) (pfix : Bool) (pown : Int32) (vplace : Int32) (vlimit : Int32) (vfull : Bool) (pst : Nat → Int32) (pen : Nat → Int32) (pix : Nat → Int32) (gky : Nat → Int32) (ghs : Nat → Int32) (gfi : Nat → Int32) (gla : Nat → Int32) (gnx : Nat → Int32), ((200 : Int32).toInt - x2.toInt).toNat < n → w_ok vplace vlimit vfull → ¬ x2 < 0 → g_ok ngr → V = tw_GR_gather_h28 fbase fcnt fsts n x2 ngr b pcnt pfix pown vplace vlimit vfull pst pen pix gky ghs gfi gla gnx → ∀ (H : Heap) (locs : List Loc), va_P D vwCl [(aU, .inr (7, [.ref aS, .ref aY, .ref aP, .ref aGk, .ref aGh, .ref aGf, .ref aGl, .ref aGn, .int ngr, .ref aGv, .int held, .long gsum])), (aY, .inr (3, [.ref aS, .ref aW, .ref aF, .ref aK, .ref aN])), (aF, .inr (2, [.int fbase, .ref aFs, .int fcnt])), (aFs, .inl (cI, 201, .inl fsts)), (aS, .inr (0, [.ref aB])), (aB, .inl (cB, 202000, .inl (by_ b))), (aP, .inr (5, [.ref aS, .ref aV, .ref aPs, .ref aPe, .ref aPi, .ref aPh, .int pcnt, .int (b2i pfix), .int pown, .ref aPl, .ref aPn, .int plc, .int psr, .int pbs, .int (b2i pms)])), (aV, .inr (1, [.ref aS, .int vplace, .int vlimit, .int (b2i vfull)])), (aPs, .inl (cI, 8, .inl pst)), (aPe, .inl (cI, 8, .inl pen)), (aPi, .inl (cI, 8, .inl pix)), (aGk, .inl (cI, 200, .inl gky)), (aGh, .inl (cI, 200, .inl ghs)), (aGf, .inl (cI, 200, .inl gfi)), (aGl, .inl (cI, 200, .inl gla)), (aGn, .inl (cI, 200, .inl gnx))] H → va_D A [(aU, .inr (7, [.ref aS, .ref aY, .ref aP, .ref aGk, .ref aGh, .ref aGf, .ref aGl, .ref aGn, .int ngr, .ref aGv, .int held, .long gsum])), (aY, .inr (3, [.ref aS, .ref aW, .ref aF, .ref aK, .ref aN])), (aF, .inr (2, [.int fbase, .ref aFs, .int fcnt])), (aFs, .inl (cI, 201, .inl fsts)), (aS, .inr (0, [.ref aB])), (aB, .inl (cB, 202000, .inl (by_ b))), (aP, .inr (5, [.ref aS, .ref aV, .ref aPs, .ref aPe, .ref aPi, .ref aPh, .int pcnt, .int (b2i pfix), .int pown, .ref aPl, .ref aPn, .int plc, .int psr, .int pbs, .int (b2i pms)])), (aV, .inr (1, [.ref aS, .int vplace, .int vlimit, .int (b2i vfull)])), (aPs, .inl (cI, 8, .inl pst)), (aPe, .inl (cI, 8, .inl pen)), (aPi, .inl (cI, 8, .inl pix)), (aGk, .inl (cI, 200, .inl gky)), (aGh, .inl (cI, 200, .inl ghs)), (aGf, .inl (cI, 200, .inl gfi)), (aGl, .inl (cI, 200, .inl gla)), (aGn, .inl (cI, 200, .inl gnx))] → va_S A s.heap H locs → ∀ ls : Array Slot, lv_has ls 4 [(0, .ref aU), (2, .int x2)] → W p l e ({ frames := 417, cells := 0, slots := 0, locals := 10008 }) s m args below meth c H locs 0 0 (MQ below (va_Qv (fun (u : Int32 × (Nat → UInt8) × Int32 × Bool × Int32 × Int32 × Int32 × Bool × (Nat → Int32) × (Nat → Int32) × (Nat → Int32) × (Nat → Int32) × (Nat → Int32) × (Nat → Int32) × (Nat → Int32) × (Nat → Int32)) => u = V ∧ g_ok u.1) (mt_B D A (fun u => wd_GR_gather aU aS aY aP aGk aGh aGf aGl aGn aGv aW aF aK aN aFs aB aV aPs aPe aPi aPh aPl aPn cB cI fbase held gsum fcnt fsts plc psr pbs pms u.1 u.2.1 u.2.2.1 u.2.2.2.1 u.2.2.2.2.1 u.2.2.2.2.2.1 u.2.2.2.2.2.2.1 u.2.2.2.2.2.2.2.1 u.2.2.2.2.2.2.2.2.1 u.2.2.2.2.2.2.2.2.2.1 u.2.2.2.2.2.2.2.2.2.2.1 u.2.2.2.2.2.2.2.2.2.2.2.1 u.2.2.2.2.2.2.2.2.2.2.2.2.1 u.2.2.2.2.2.2.2.2.2.2.2.2.2.1 u.2.2.2.2.2.2.2.2.2.2.2.2.2.2.1 u.2.2.2.2.2.2.2.2.2.2.2.2.2.2.2)) A) args s 0 0 A) (F0 m 28 ls []) := by
  obtain ⟨hx, hb, hml, hr, hown, hlocks, hT⟩ := id C0
  have hK := hk.1
  have hN := hk.2.1
  intro n
  induction n with
  | zero =>
    intro x2 ngr b pcnt pfix pown vplace vlimit vfull pst pen pix gky ghs gfi gla gnx hm
    exact absurd hm (Nat.not_lt_zero _)
  | succ n ih =>
    intro x2 ngr b pcnt pfix pown vplace vlimit vfull pst pen pix gky ghs gfi gla gnx hm hwv hv1 hi hV H locs hP hD hS ls hl
    refine lv_iload_n hx hb d_GR_gather_28 rfl (lv_at hl 1 rfl) ?_
    refine lv_aload_n hx hb d_GR_gather_29 rfl (lv_at hl 0 rfl) ?_
    refine va_get (D := D) (ci := 7) (v := .ref aY) (C := R_GR) (T := T_GR) (N := 12) hx hb hT u_GR hown hK hP 0 rfl rfl 1 (by decide) (hT _ k_213) (fun _ h9 => h9) rfl d_GR_gather_30 ?_
    refine va_getN (D := D) (ci := 3) (v := .ref aF) (C := R_BS) (T := T_BS) (N := 5) hx hb hT u_BS hown hK hP 1 rfl rfl 2 (by decide) (va_Nw.use rfl (hN ("PipelineBelt$Grouper", 133, "PipelineBelt$Belts", "front", "LPipelineBelt$Belt;", "PipelineBelt") (by decide))) (fun _ h9 => h9) rfl d_GR_gather_33 ?_
    refine va_getN (D := D) (ci := 2) (v := .int fcnt) (C := R_BE) (T := T_BE) (N := 3) hx hb hT u_BE hown hK hP 2 rfl rfl 2 (by decide) (va_Nw.use rfl (hN ("PipelineBelt$Grouper", 137, "PipelineBelt$Belt", "count", "I", "PipelineBelt") (by decide))) (fun _ h9 => h9) rfl d_GR_gather_36 ?_
    refine lv_icmp_ge (tgt := 94) hx hb d_GR_gather_39 (by decide) (fun c_4 => ?_) (fun c_4 => ?_)
    · exact W.vret hx hb hr (fun t ht hW => ⟨⟨(ngr, b, pcnt, pfix, pown, vplace, vlimit, vfull, pst, pen, pix, gky, ghs, gfi, gla, gnx), rfl, ⟨(by rw [hV, tw_GR_gather_h28, if_pos c_4]; first | done | rfl), hi⟩, by rw [ht]; exact hP, hD⟩, hS.F ht⟩) hS.2.2 d_GR_gather_94
    · refine lv_iload_n hx hb d_GR_gather_42 rfl (lv_at hl 1 rfl) ?_
      refine lv_sipush (v := 200) hx hb d_GR_gather_43 (by decide) ?_
      refine lv_icmp_ge (tgt := 94) hx hb d_GR_gather_46 (by decide) (fun c_5 => ?_) (fun c_5 => ?_)
      · exact W.vret hx hb hr (fun t ht hW => ⟨⟨(ngr, b, pcnt, pfix, pown, vplace, vlimit, vfull, pst, pen, pix, gky, ghs, gfi, gla, gnx), rfl, ⟨(by rw [hV, tw_GR_gather_h28, if_neg c_4, if_pos c_5]; first | done | rfl), hi⟩, by rw [ht]; exact hP, hD⟩, hS.F ht⟩) hS.2.2 d_GR_gather_94
      · refine lv_aload_n hx hb d_GR_gather_49 rfl (lv_at hl 0 rfl) ?_
        refine va_get (D := D) (ci := 7) (v := .ref aP) (C := R_GR) (T := T_GR) (N := 12) hx hb hT u_GR hown hK hP 0 rfl rfl 2 (by decide) (hT _ k_214) (fun _ h9 => h9) rfl d_GR_gather_50 ?_
        refine lv_aload_n hx hb d_GR_gather_53 rfl (lv_at hl 0 rfl) ?_
        refine va_get (D := D) (ci := 7) (v := .ref aY) (C := R_GR) (T := T_GR) (N := 12) hx hb hT u_GR hown hK hP 0 rfl rfl 1 (by decide) (hT _ k_213) (fun _ h9 => h9) rfl d_GR_gather_54 ?_
        refine lv_iload_n hx hb d_GR_gather_57 rfl (lv_at hl 1 rfl) ?_
        refine rd_V (val := tw_BS_document fbase fcnt fsts x2) (As := [.int x2]) (rest := [.ref aP]) ⟨hx, hb, hml, hown, hT⟩ (c_BS_document l D cB cI aY aS aW aF aK aN aFs fbase fcnt fsts x2) (cwV 1 hT (gV_of k_750 k_583 k_584 k_4 kc_BS_document) rfl rfl rfl hd_BS_document ⟨Nat.le_of_ble_eq_true rfl, Nat.le_of_ble_eq_true rfl⟩) hk (hP.sub (ws' := [(aY, .inr (3, [.ref aS, .ref aW, .ref aF, .ref aK, .ref aN])), (aF, .inr (2, [.int fbase, .ref aFs, .int fcnt])), (aFs, .inl (cI, 201, .inl fsts))]) [1, 2, 3] rfl) (q0 := 0) rfl rfl rfl rfl hl.1 rfl (Nat.le_of_ble_eq_true rfl) d_GR_gather_58 ⟨Nat.zero_le _, Nat.zero_le _⟩ ?_
        refine lv_iconst (v := 0) hx hb d_GR_gather_61 (by decide) ?_
        refine mt_Vi (As := [.int (tw_BS_document fbase fcnt fsts x2), .int 0]) (rest := []) (wr := [(aU, .inr (7, [.ref aS, .ref aY, .ref aP, .ref aGk, .ref aGh, .ref aGf, .ref aGl, .ref aGn, .int ngr, .ref aGv, .int held, .long gsum])), (aY, .inr (3, [.ref aS, .ref aW, .ref aF, .ref aK, .ref aN])), (aF, .inr (2, [.int fbase, .ref aFs, .int fcnt])), (aFs, .inl (cI, 201, .inl fsts)), (aPi, .inl (cI, 8, .inl pix)), (aGk, .inl (cI, 200, .inl gky)), (aGh, .inl (cI, 200, .inl ghs)), (aGf, .inl (cI, 200, .inl gfi)), (aGl, .inl (cI, 200, .inl gla)), (aGn, .inl (cI, 200, .inl gnx))]) ⟨hx, hb, hml, hown, hT⟩ (c_PA_val0 l D cB cI aP aS aV aPs aPe aPi aPh aPl aPn aB vlimit vfull vplace pcnt pfix pown plc psr pbs pms pst pen _ vplace vlimit vfull b (tw_BS_document fbase fcnt fsts x2) kd_doc (w_r hwv)) (cwV 2 hT (gV_of k_751 k_623 k_624 k_7 kc_PA_value) rfl rfl rfl hd_PA_value ⟨Nat.le_of_ble_eq_true rfl, Nat.le_of_ble_eq_true rfl⟩) hk hP hD hS hA [6, 7, 4, 5, 8, 9] [0, 1, 2, 3, 10, 11, 12, 13, 14, 15] rfl rfl rfl (by decide) (by decide) (by decide) (q0 := 0) rfl rfl rfl rfl hl.1 rfl (Nat.le_of_ble_eq_true rfl) d_GR_gather_62 ⟨Nat.zero_le _, Nat.zero_le _⟩ (fun r_6 u_6 H locs hw_6 hP hD hS => ?_)
        obtain ⟨vplace_6, vlimit_6, vfull_6, b_6⟩ := u_6
        obtain ⟨hw_6, hi_6⟩ := hw_6
        have hP : va_P D vwCl [(aU, .inr (7, [.ref aS, .ref aY, .ref aP, .ref aGk, .ref aGh, .ref aGf, .ref aGl, .ref aGn, .int ngr, .ref aGv, .int held, .long gsum])), (aY, .inr (3, [.ref aS, .ref aW, .ref aF, .ref aK, .ref aN])), (aF, .inr (2, [.int fbase, .ref aFs, .int fcnt])), (aFs, .inl (cI, 201, .inl fsts)), (aS, .inr (0, [.ref aB])), (aB, .inl (cB, 202000, .inl (by_ b_6))), (aP, .inr (5, [.ref aS, .ref aV, .ref aPs, .ref aPe, .ref aPi, .ref aPh, .int pcnt, .int (b2i pfix), .int pown, .ref aPl, .ref aPn, .int plc, .int psr, .int pbs, .int (b2i pms)])), (aV, .inr (1, [.ref aS, .int vplace_6, .int vlimit_6, .int (b2i vfull_6)])), (aPs, .inl (cI, 8, .inl pst)), (aPe, .inl (cI, 8, .inl pen)), (aPi, .inl (cI, 8, .inl pix)), (aGk, .inl (cI, 200, .inl gky)), (aGh, .inl (cI, 200, .inl ghs)), (aGf, .inl (cI, 200, .inl gfi)), (aGl, .inl (cI, 200, .inl gla)), (aGn, .inl (cI, 200, .inl gnx))] H := hP.sub [0, 1, 2, 3, 12, 13, 10, 11, 14, 15, 4, 5, 6, 7, 8, 9] rfl
        have hD : va_D A [(aU, .inr (7, [.ref aS, .ref aY, .ref aP, .ref aGk, .ref aGh, .ref aGf, .ref aGl, .ref aGn, .int ngr, .ref aGv, .int held, .long gsum])), (aY, .inr (3, [.ref aS, .ref aW, .ref aF, .ref aK, .ref aN])), (aF, .inr (2, [.int fbase, .ref aFs, .int fcnt])), (aFs, .inl (cI, 201, .inl fsts)), (aS, .inr (0, [.ref aB])), (aB, .inl (cB, 202000, .inl (by_ b_6))), (aP, .inr (5, [.ref aS, .ref aV, .ref aPs, .ref aPe, .ref aPi, .ref aPh, .int pcnt, .int (b2i pfix), .int pown, .ref aPl, .ref aPn, .int plc, .int psr, .int pbs, .int (b2i pms)])), (aV, .inr (1, [.ref aS, .int vplace_6, .int vlimit_6, .int (b2i vfull_6)])), (aPs, .inl (cI, 8, .inl pst)), (aPe, .inl (cI, 8, .inl pen)), (aPi, .inl (cI, 8, .inl pix)), (aGk, .inl (cI, 200, .inl gky)), (aGh, .inl (cI, 200, .inl ghs)), (aGf, .inl (cI, 200, .inl gfi)), (aGl, .inl (cI, 200, .inl gla)), (aGn, .inl (cI, 200, .inl gnx))] := hD.sub [0, 1, 2, 3, 12, 13, 10, 11, 14, 15, 4, 5, 6, 7, 8, 9] (by decide) rfl
        refine lv_istore_n (lv' := [(3, .int r_6), (0, .ref aU), (2, .int x2)]) hx hb d_GR_gather_65 rfl hl (by decide) rfl (fun ls hl => ?_)
        refine lv_aload_n hx hb d_GR_gather_66 rfl (lv_at hl 1 rfl) ?_
        refine va_get (D := D) (ci := 7) (v := .ref aGn) (C := R_GR) (T := T_GR) (N := 12) hx hb hT u_GR hown hK hP 0 rfl rfl 7 (by decide) (hT _ k_219) (fun _ h9 => h9) rfl d_GR_gather_67 ?_
        refine lv_iload_n hx hb d_GR_gather_70 rfl (lv_at hl 2 rfl) ?_
        refine lv_iconst (v := -1) hx hb d_GR_gather_71 (by decide) ?_
        refine va_iast hx hb hK hP hD hS 15 1 rfl rfl (in_nn hv1 c_5 rfl) d_GR_gather_72 (fun H locs hP hD hS => ?_)
        have hP : va_P D vwCl [(aU, .inr (7, [.ref aS, .ref aY, .ref aP, .ref aGk, .ref aGh, .ref aGf, .ref aGl, .ref aGn, .int ngr, .ref aGv, .int held, .long gsum])), (aY, .inr (3, [.ref aS, .ref aW, .ref aF, .ref aK, .ref aN])), (aF, .inr (2, [.int fbase, .ref aFs, .int fcnt])), (aFs, .inl (cI, 201, .inl fsts)), (aS, .inr (0, [.ref aB])), (aB, .inl (cB, 202000, .inl (by_ b_6))), (aP, .inr (5, [.ref aS, .ref aV, .ref aPs, .ref aPe, .ref aPi, .ref aPh, .int pcnt, .int (b2i pfix), .int pown, .ref aPl, .ref aPn, .int plc, .int psr, .int pbs, .int (b2i pms)])), (aV, .inr (1, [.ref aS, .int vplace_6, .int vlimit_6, .int (b2i vfull_6)])), (aPs, .inl (cI, 8, .inl pst)), (aPe, .inl (cI, 8, .inl pen)), (aPi, .inl (cI, 8, .inl pix)), (aGk, .inl (cI, 200, .inl gky)), (aGh, .inl (cI, 200, .inl ghs)), (aGf, .inl (cI, 200, .inl gfi)), (aGl, .inl (cI, 200, .inl gla)), (aGn, .inl (cI, 200, .inl (upd gnx x2.toNatClampNeg (-1))))] H := hP
        have hD : va_D A [(aU, .inr (7, [.ref aS, .ref aY, .ref aP, .ref aGk, .ref aGh, .ref aGf, .ref aGl, .ref aGn, .int ngr, .ref aGv, .int held, .long gsum])), (aY, .inr (3, [.ref aS, .ref aW, .ref aF, .ref aK, .ref aN])), (aF, .inr (2, [.int fbase, .ref aFs, .int fcnt])), (aFs, .inl (cI, 201, .inl fsts)), (aS, .inr (0, [.ref aB])), (aB, .inl (cB, 202000, .inl (by_ b_6))), (aP, .inr (5, [.ref aS, .ref aV, .ref aPs, .ref aPe, .ref aPi, .ref aPh, .int pcnt, .int (b2i pfix), .int pown, .ref aPl, .ref aPn, .int plc, .int psr, .int pbs, .int (b2i pms)])), (aV, .inr (1, [.ref aS, .int vplace_6, .int vlimit_6, .int (b2i vfull_6)])), (aPs, .inl (cI, 8, .inl pst)), (aPe, .inl (cI, 8, .inl pen)), (aPi, .inl (cI, 8, .inl pix)), (aGk, .inl (cI, 200, .inl gky)), (aGh, .inl (cI, 200, .inl ghs)), (aGf, .inl (cI, 200, .inl gfi)), (aGl, .inl (cI, 200, .inl gla)), (aGn, .inl (cI, 200, .inl (upd gnx x2.toNatClampNeg (-1))))] := hD
        refine lv_aload_n hx hb d_GR_gather_73 rfl (lv_at hl 1 rfl) ?_
        refine lv_iload_n hx hb d_GR_gather_74 rfl (lv_at hl 2 rfl) ?_
        refine lv_iload_n hx hb d_GR_gather_75 rfl (lv_at hl 0 rfl) ?_
        refine lv_if_ne (tgt := 84) hx hb d_GR_gather_76 (by decide) (fun c_7 => ?_) (fun c_7 => ?_)
        · refine lv_iload_n hx hb d_GR_gather_84 rfl (lv_at hl 0 rfl) ?_
          refine mt_Vv (As := [.int x2, .int r_6]) (rest := []) (wr := [(aY, .inr (3, [.ref aS, .ref aW, .ref aF, .ref aK, .ref aN])), (aF, .inr (2, [.int fbase, .ref aFs, .int fcnt])), (aFs, .inl (cI, 201, .inl fsts)), (aP, .inr (5, [.ref aS, .ref aV, .ref aPs, .ref aPe, .ref aPi, .ref aPh, .int pcnt, .int (b2i pfix), .int pown, .ref aPl, .ref aPn, .int plc, .int psr, .int pbs, .int (b2i pms)])), (aV, .inr (1, [.ref aS, .int vplace_6, .int vlimit_6, .int (b2i vfull_6)])), (aPs, .inl (cI, 8, .inl pst)), (aPe, .inl (cI, 8, .inl pen)), (aPi, .inl (cI, 8, .inl pix))]) ⟨hx, hb, hml, hown, hT⟩ (c_GR_gatherOne l D cB cI aU aS aY aP aGk aGh aGf aGl aGn aGv aB held gsum b_6 _ ngr gky ghs gfi gla (upd gnx x2.toNatClampNeg (-1)) x2 r_6 hi) (cwV 2 hT (gV_of k_752 k_754 kp_GR_gatherOne k_9 kc_GR_gatherOne) rfl rfl rfl hd_GR_gatherOne ⟨Nat.le_of_ble_eq_true rfl, Nat.le_of_ble_eq_true rfl⟩) hk hP hD hS hA [0, 4, 5, 11, 12, 13, 14, 15] [1, 2, 3, 6, 7, 8, 9, 10] rfl rfl rfl (by decide) (by decide) (by decide) (q0 := 0) rfl rfl rfl rfl hl.1 rfl (Nat.le_of_ble_eq_true rfl) d_GR_gather_85 ⟨Nat.zero_le _, Nat.zero_le _⟩ (fun u_8 H locs hw_8 hP hD hS => ?_)
          obtain ⟨ngr_8, gky_8, ghs_8, gfi_8, gla_8, gnx_8⟩ := u_8
          obtain ⟨hw_8, hi_8⟩ := hw_8
          have hP : va_P D vwCl [(aU, .inr (7, [.ref aS, .ref aY, .ref aP, .ref aGk, .ref aGh, .ref aGf, .ref aGl, .ref aGn, .int ngr_8, .ref aGv, .int held, .long gsum])), (aY, .inr (3, [.ref aS, .ref aW, .ref aF, .ref aK, .ref aN])), (aF, .inr (2, [.int fbase, .ref aFs, .int fcnt])), (aFs, .inl (cI, 201, .inl fsts)), (aS, .inr (0, [.ref aB])), (aB, .inl (cB, 202000, .inl (by_ b_6))), (aP, .inr (5, [.ref aS, .ref aV, .ref aPs, .ref aPe, .ref aPi, .ref aPh, .int pcnt, .int (b2i pfix), .int pown, .ref aPl, .ref aPn, .int plc, .int psr, .int pbs, .int (b2i pms)])), (aV, .inr (1, [.ref aS, .int vplace_6, .int vlimit_6, .int (b2i vfull_6)])), (aPs, .inl (cI, 8, .inl pst)), (aPe, .inl (cI, 8, .inl pen)), (aPi, .inl (cI, 8, .inl pix)), (aGk, .inl (cI, 200, .inl gky_8)), (aGh, .inl (cI, 200, .inl ghs_8)), (aGf, .inl (cI, 200, .inl gfi_8)), (aGl, .inl (cI, 200, .inl gla_8)), (aGn, .inl (cI, 200, .inl gnx_8))] H := hP.sub [8, 0, 1, 2, 9, 10, 3, 4, 5, 6, 7, 11, 12, 13, 14, 15] rfl
          have hD : va_D A [(aU, .inr (7, [.ref aS, .ref aY, .ref aP, .ref aGk, .ref aGh, .ref aGf, .ref aGl, .ref aGn, .int ngr_8, .ref aGv, .int held, .long gsum])), (aY, .inr (3, [.ref aS, .ref aW, .ref aF, .ref aK, .ref aN])), (aF, .inr (2, [.int fbase, .ref aFs, .int fcnt])), (aFs, .inl (cI, 201, .inl fsts)), (aS, .inr (0, [.ref aB])), (aB, .inl (cB, 202000, .inl (by_ b_6))), (aP, .inr (5, [.ref aS, .ref aV, .ref aPs, .ref aPe, .ref aPi, .ref aPh, .int pcnt, .int (b2i pfix), .int pown, .ref aPl, .ref aPn, .int plc, .int psr, .int pbs, .int (b2i pms)])), (aV, .inr (1, [.ref aS, .int vplace_6, .int vlimit_6, .int (b2i vfull_6)])), (aPs, .inl (cI, 8, .inl pst)), (aPe, .inl (cI, 8, .inl pen)), (aPi, .inl (cI, 8, .inl pix)), (aGk, .inl (cI, 200, .inl gky_8)), (aGh, .inl (cI, 200, .inl ghs_8)), (aGf, .inl (cI, 200, .inl gfi_8)), (aGl, .inl (cI, 200, .inl gla_8)), (aGn, .inl (cI, 200, .inl gnx_8))] := hD.sub [8, 0, 1, 2, 9, 10, 3, 4, 5, 6, 7, 11, 12, 13, 14, 15] (by decide) rfl
          refine lv_iinc (v := x2 + 1) (lv' := [(2, .int (x2 + 1)), (3, .int r_6), (0, .ref aU)]) hx hb d_GR_gather_88 hl (k := 2) rfl rfl (by decide) rfl (fun ls hl => ?_)
          refine lv_goto (tgt := 28) hx hb d_GR_gather_91 (by decide) ?_
          exact ih (x2 + 1) ngr_8 b_6 pcnt pfix pown vplace_6 vlimit_6 vfull_6 pst pen pix gky_8 ghs_8 gfi_8 gla_8 gnx_8 (lp_up hm c_5) (hi_6.1) (i_upn hv1 c_5) (hi_8) (by rw [hV, tw_GR_gather_h28, if_neg c_4, if_neg c_5, ← hw_6, tp5_mk, if_neg c_7, ← hw_8, tp6_mk]) _ _ hP hD hS ls (lv_sub hl [2, 0] rfl)
        · refine lv_bipush (v := 10) hx hb d_GR_gather_79 (by decide) ?_
          refine lv_goto (tgt := 85) hx hb d_GR_gather_81 (by decide) ?_
          refine mt_Vv (As := [.int x2, .int 10]) (rest := []) (wr := [(aY, .inr (3, [.ref aS, .ref aW, .ref aF, .ref aK, .ref aN])), (aF, .inr (2, [.int fbase, .ref aFs, .int fcnt])), (aFs, .inl (cI, 201, .inl fsts)), (aP, .inr (5, [.ref aS, .ref aV, .ref aPs, .ref aPe, .ref aPi, .ref aPh, .int pcnt, .int (b2i pfix), .int pown, .ref aPl, .ref aPn, .int plc, .int psr, .int pbs, .int (b2i pms)])), (aV, .inr (1, [.ref aS, .int vplace_6, .int vlimit_6, .int (b2i vfull_6)])), (aPs, .inl (cI, 8, .inl pst)), (aPe, .inl (cI, 8, .inl pen)), (aPi, .inl (cI, 8, .inl pix))]) ⟨hx, hb, hml, hown, hT⟩ (c_GR_gatherOne l D cB cI aU aS aY aP aGk aGh aGf aGl aGn aGv aB held gsum b_6 _ ngr gky ghs gfi gla (upd gnx x2.toNatClampNeg (-1)) x2 10 hi) (cwV 2 hT (gV_of k_752 k_754 kp_GR_gatherOne k_9 kc_GR_gatherOne) rfl rfl rfl hd_GR_gatherOne ⟨Nat.le_of_ble_eq_true rfl, Nat.le_of_ble_eq_true rfl⟩) hk hP hD hS hA [0, 4, 5, 11, 12, 13, 14, 15] [1, 2, 3, 6, 7, 8, 9, 10] rfl rfl rfl (by decide) (by decide) (by decide) (q0 := 0) rfl rfl rfl rfl hl.1 rfl (Nat.le_of_ble_eq_true rfl) d_GR_gather_85 ⟨Nat.zero_le _, Nat.zero_le _⟩ (fun u_9 H locs hw_9 hP hD hS => ?_)
          obtain ⟨ngr_9, gky_9, ghs_9, gfi_9, gla_9, gnx_9⟩ := u_9
          obtain ⟨hw_9, hi_9⟩ := hw_9
          have hP : va_P D vwCl [(aU, .inr (7, [.ref aS, .ref aY, .ref aP, .ref aGk, .ref aGh, .ref aGf, .ref aGl, .ref aGn, .int ngr_9, .ref aGv, .int held, .long gsum])), (aY, .inr (3, [.ref aS, .ref aW, .ref aF, .ref aK, .ref aN])), (aF, .inr (2, [.int fbase, .ref aFs, .int fcnt])), (aFs, .inl (cI, 201, .inl fsts)), (aS, .inr (0, [.ref aB])), (aB, .inl (cB, 202000, .inl (by_ b_6))), (aP, .inr (5, [.ref aS, .ref aV, .ref aPs, .ref aPe, .ref aPi, .ref aPh, .int pcnt, .int (b2i pfix), .int pown, .ref aPl, .ref aPn, .int plc, .int psr, .int pbs, .int (b2i pms)])), (aV, .inr (1, [.ref aS, .int vplace_6, .int vlimit_6, .int (b2i vfull_6)])), (aPs, .inl (cI, 8, .inl pst)), (aPe, .inl (cI, 8, .inl pen)), (aPi, .inl (cI, 8, .inl pix)), (aGk, .inl (cI, 200, .inl gky_9)), (aGh, .inl (cI, 200, .inl ghs_9)), (aGf, .inl (cI, 200, .inl gfi_9)), (aGl, .inl (cI, 200, .inl gla_9)), (aGn, .inl (cI, 200, .inl gnx_9))] H := hP.sub [8, 0, 1, 2, 9, 10, 3, 4, 5, 6, 7, 11, 12, 13, 14, 15] rfl
          have hD : va_D A [(aU, .inr (7, [.ref aS, .ref aY, .ref aP, .ref aGk, .ref aGh, .ref aGf, .ref aGl, .ref aGn, .int ngr_9, .ref aGv, .int held, .long gsum])), (aY, .inr (3, [.ref aS, .ref aW, .ref aF, .ref aK, .ref aN])), (aF, .inr (2, [.int fbase, .ref aFs, .int fcnt])), (aFs, .inl (cI, 201, .inl fsts)), (aS, .inr (0, [.ref aB])), (aB, .inl (cB, 202000, .inl (by_ b_6))), (aP, .inr (5, [.ref aS, .ref aV, .ref aPs, .ref aPe, .ref aPi, .ref aPh, .int pcnt, .int (b2i pfix), .int pown, .ref aPl, .ref aPn, .int plc, .int psr, .int pbs, .int (b2i pms)])), (aV, .inr (1, [.ref aS, .int vplace_6, .int vlimit_6, .int (b2i vfull_6)])), (aPs, .inl (cI, 8, .inl pst)), (aPe, .inl (cI, 8, .inl pen)), (aPi, .inl (cI, 8, .inl pix)), (aGk, .inl (cI, 200, .inl gky_9)), (aGh, .inl (cI, 200, .inl ghs_9)), (aGf, .inl (cI, 200, .inl gfi_9)), (aGl, .inl (cI, 200, .inl gla_9)), (aGn, .inl (cI, 200, .inl gnx_9))] := hD.sub [8, 0, 1, 2, 9, 10, 3, 4, 5, 6, 7, 11, 12, 13, 14, 15] (by decide) rfl
          refine lv_iinc (v := x2 + 1) (lv' := [(2, .int (x2 + 1)), (3, .int r_6), (0, .ref aU)]) hx hb d_GR_gather_88 hl (k := 2) rfl rfl (by decide) rfl (fun ls hl => ?_)
          refine lv_goto (tgt := 28) hx hb d_GR_gather_91 (by decide) ?_
          exact ih (x2 + 1) ngr_9 b_6 pcnt pfix pown vplace_6 vlimit_6 vfull_6 pst pen pix gky_9 ghs_9 gfi_9 gla_9 gnx_9 (lp_up hm c_5) (hi_6.1) (i_upn hv1 c_5) (hi_9) (by rw [hV, tw_GR_gather_h28, if_neg c_4, if_neg c_5, ← hw_6, tp5_mk, if_pos c_7, ← hw_9, tp6_mk]) _ _ hP hD hS ls (lv_sub hl [2, 0] rfl)
set_option maxHeartbeats 4000000 in
set_option maxRecDepth 100000 in
theorem c_GR_gather (l : Launch) (D : va_G) (cB cI : ClassId) (aU aS aY aP aGk aGh aGf aGl aGn aGv aW aF aK aN aFs aB aV aPs aPe aPi aPh aPl aPn : Nat) (fbase : Int32) (held : Int32) (gsum : Int64) (fcnt : Int32) (fsts : Nat → Int32) (plc : Int32) (psr : Int32) (pbs : Int32) (pms : Bool) (sz : Nat) (ngr : Int32) (b : Nat → UInt8) (pcnt : Int32) (pfix : Bool) (pown : Int32) (vplace : Int32) (vlimit : Int32) (vfull : Bool) (pst : Nat → Int32) (pen : Nat → Int32) (pix : Nat → Int32) (gky : Nat → Int32) (ghs : Nat → Int32) (gfi : Nat → Int32) (gla : Nat → Int32) (gnx : Nat → Int32) (p0 : Int32) : Met l y_GR_gather mw_GR_gather { frames := 417, cells := 0, slots := 0, locals := 10008 } (va_Pc [.ref aU, .int p0] (mt_P D cB cI (wd_GR_gather aU aS aY aP aGk aGh aGf aGl aGn aGv aW aF aK aN aFs aB aV aPs aPe aPi aPh aPl aPn cB cI fbase held gsum fcnt fsts plc psr pbs pms ngr b pcnt pfix pown vplace vlimit vfull pst pen pix gky ghs gfi gla gnx) sz)) (va_Qv (fun (u : Int32 × (Nat → UInt8) × Int32 × Bool × Int32 × Int32 × Int32 × Bool × (Nat → Int32) × (Nat → Int32) × (Nat → Int32) × (Nat → Int32) × (Nat → Int32) × (Nat → Int32) × (Nat → Int32) × (Nat → Int32)) => u = tw_GR_gather fbase fcnt fsts ngr b pcnt pfix pown vplace vlimit vfull pst pen pix gky ghs gfi gla gnx p0 ∧ g_ok u.1) (mt_B D (va_A (wd_GR_gather aU aS aY aP aGk aGh aGf aGl aGn aGv aW aF aK aN aFs aB aV aPs aPe aPi aPh aPl aPn cB cI fbase held gsum fcnt fsts plc psr pbs pms ngr b pcnt pfix pown vplace vlimit vfull pst pen pix gky ghs gfi gla gnx) sz) (fun u => wd_GR_gather aU aS aY aP aGk aGh aGf aGl aGn aGv aW aF aK aN aFs aB aV aPs aPe aPi aPh aPl aPn cB cI fbase held gsum fcnt fsts plc psr pbs pms u.1 u.2.1 u.2.2.1 u.2.2.2.1 u.2.2.2.2.1 u.2.2.2.2.2.1 u.2.2.2.2.2.2.1 u.2.2.2.2.2.2.2.1 u.2.2.2.2.2.2.2.2.1 u.2.2.2.2.2.2.2.2.2.1 u.2.2.2.2.2.2.2.2.2.2.1 u.2.2.2.2.2.2.2.2.2.2.2.1 u.2.2.2.2.2.2.2.2.2.2.2.2.1 u.2.2.2.2.2.2.2.2.2.2.2.2.2.1 u.2.2.2.2.2.2.2.2.2.2.2.2.2.2.1 u.2.2.2.2.2.2.2.2.2.2.2.2.2.2.2)) (va_A (wd_GR_gather aU aS aY aP aGk aGh aGf aGl aGn aGv aW aF aK aN aFs aB aV aPs aPe aPi aPh aPl aPn cB cI fbase held gsum fcnt fsts plc psr pbs pms ngr b pcnt pfix pown vplace vlimit vfull pst pen pix gky ghs gfi gla gnx) sz)) 0 0 (va_A (wd_GR_gather aU aS aY aP aGk aGh aGf aGl aGn aGv aW aF aK aN aFs aB aV aPs aPe aPi aPh aPl aPn cB cI fbase held gsum fcnt fsts plc psr pbs pms ngr b pcnt pfix pown vplace vlimit vfull pst pen pix gky ghs gfi gla gnx) sz) := by
  refine Met.ofW (cc := b_GR_gather) (maxL := 4) (ret := none) (by decide) rfl ?_
  intro p e s m args below meth c s₁ B0 hml hv
  obtain ⟨rfl, hsz, hP, hk, hD0⟩ := hv
  have hK := hk.1
  have hN := hk.2.1
  have hx := B0.exec
  have hb := B0.bytes
  have hr := B0.returns
  have hT : ∀ w ∈ lw_g, w.before _ s = true := fun w h => atoms_spec (ws := mw_GR_gather) B0.pre w (List.mem_cons_of_mem _ h)
  have hown : s.vm.findClass R_GR = some m.cls := findClass_of_methodNamed B0.named
  have hlocks := B0.notSynchronized
  subst hsz
  have hD := hD0.self (sz := s.heap.size)
  generalize hAe : va_A [(aU, .inr (7, [.ref aS, .ref aY, .ref aP, .ref aGk, .ref aGh, .ref aGf, .ref aGl, .ref aGn, .int ngr, .ref aGv, .int held, .long gsum])), (aY, .inr (3, [.ref aS, .ref aW, .ref aF, .ref aK, .ref aN])), (aF, .inr (2, [.int fbase, .ref aFs, .int fcnt])), (aFs, .inl (cI, 201, .inl fsts)), (aS, .inr (0, [.ref aB])), (aB, .inl (cB, 202000, .inl (by_ b))), (aP, .inr (5, [.ref aS, .ref aV, .ref aPs, .ref aPe, .ref aPi, .ref aPh, .int pcnt, .int (b2i pfix), .int pown, .ref aPl, .ref aPn, .int plc, .int psr, .int pbs, .int (b2i pms)])), (aV, .inr (1, [.ref aS, .int vplace, .int vlimit, .int (b2i vfull)])), (aPs, .inl (cI, 8, .inl pst)), (aPe, .inl (cI, 8, .inl pen)), (aPi, .inl (cI, 8, .inl pix)), (aGk, .inl (cI, 200, .inl gky)), (aGh, .inl (cI, 200, .inl ghs)), (aGf, .inl (cI, 200, .inl gfi)), (aGl, .inl (cI, 200, .inl gla)), (aGn, .inl (cI, 200, .inl gnx))] s.heap.size = A at hD ⊢
  have hA : ∀ q : Nat, s.heap.size ≤ q → A q := fun q h => by rw [← hAe]; exact Or.inr h
  have hS : va_S A s.heap s.heap [] := va_S.rf
  have hl := lv_entry ([.ref aU, .int p0]) (n := 4) (Nat.le_of_ble_eq_true rfl)
  rw [lg_entry_eq]
  generalize (lg_sl ([.ref aU, .int p0]) ++ List.replicate (4 - (lg_sl ([.ref aU, .int p0])).length) Slot.unset).toArray = ls at hl ⊢
  have hl : lv_has ls 4 [(0, .ref aU), (1, .int p0)] := hl
  have C0 : lc_C p s m meth c _ b_GR_gather 4 none R_GR lw_g := ⟨hx, hb, hml, hr, hown, hlocks, hT⟩
  refine lv_aload_n hx hb d_GR_gather_0 rfl (lv_at hl 0 rfl) ?_
  refine lv_iconst (v := 0) hx hb d_GR_gather_1 (by decide) ?_
  refine va_put (D := D) (ci := 7) (v := .int 0) (ty := .int) (C := R_GR) (T := T_GR) (N := 12) hx hb hT u_GR ty_GR tyok_GR nm_GR hown hK hP hD hS 0 rfl rfl 8 (by decide) (hT _ k_220) (fun _ h9 => h9) rfl (by decide +kernel) (rfl) (rfl) (Nat.le_of_ble_eq_true rfl) d_GR_gather_2 (fun H locs hP hD hS => ?_)
  have hP : va_P D vwCl [(aU, .inr (7, [.ref aS, .ref aY, .ref aP, .ref aGk, .ref aGh, .ref aGf, .ref aGl, .ref aGn, .int 0, .ref aGv, .int held, .long gsum])), (aY, .inr (3, [.ref aS, .ref aW, .ref aF, .ref aK, .ref aN])), (aF, .inr (2, [.int fbase, .ref aFs, .int fcnt])), (aFs, .inl (cI, 201, .inl fsts)), (aS, .inr (0, [.ref aB])), (aB, .inl (cB, 202000, .inl (by_ b))), (aP, .inr (5, [.ref aS, .ref aV, .ref aPs, .ref aPe, .ref aPi, .ref aPh, .int pcnt, .int (b2i pfix), .int pown, .ref aPl, .ref aPn, .int plc, .int psr, .int pbs, .int (b2i pms)])), (aV, .inr (1, [.ref aS, .int vplace, .int vlimit, .int (b2i vfull)])), (aPs, .inl (cI, 8, .inl pst)), (aPe, .inl (cI, 8, .inl pen)), (aPi, .inl (cI, 8, .inl pix)), (aGk, .inl (cI, 200, .inl gky)), (aGh, .inl (cI, 200, .inl ghs)), (aGf, .inl (cI, 200, .inl gfi)), (aGl, .inl (cI, 200, .inl gla)), (aGn, .inl (cI, 200, .inl gnx))] H := hP
  have hD : va_D A [(aU, .inr (7, [.ref aS, .ref aY, .ref aP, .ref aGk, .ref aGh, .ref aGf, .ref aGl, .ref aGn, .int 0, .ref aGv, .int held, .long gsum])), (aY, .inr (3, [.ref aS, .ref aW, .ref aF, .ref aK, .ref aN])), (aF, .inr (2, [.int fbase, .ref aFs, .int fcnt])), (aFs, .inl (cI, 201, .inl fsts)), (aS, .inr (0, [.ref aB])), (aB, .inl (cB, 202000, .inl (by_ b))), (aP, .inr (5, [.ref aS, .ref aV, .ref aPs, .ref aPe, .ref aPi, .ref aPh, .int pcnt, .int (b2i pfix), .int pown, .ref aPl, .ref aPn, .int plc, .int psr, .int pbs, .int (b2i pms)])), (aV, .inr (1, [.ref aS, .int vplace, .int vlimit, .int (b2i vfull)])), (aPs, .inl (cI, 8, .inl pst)), (aPe, .inl (cI, 8, .inl pen)), (aPi, .inl (cI, 8, .inl pix)), (aGk, .inl (cI, 200, .inl gky)), (aGh, .inl (cI, 200, .inl ghs)), (aGf, .inl (cI, 200, .inl gfi)), (aGl, .inl (cI, 200, .inl gla)), (aGn, .inl (cI, 200, .inl gnx))] := hD
  refine lv_aload_n hx hb d_GR_gather_5 rfl (lv_at hl 0 rfl) ?_
  refine va_get (D := D) (ci := 7) (v := .ref aP) (C := R_GR) (T := T_GR) (N := 12) hx hb hT u_GR hown hK hP 0 rfl rfl 2 (by decide) (hT _ k_214) (fun _ h9 => h9) rfl d_GR_gather_6 ?_
  refine lv_ldc (v := 122000) hx hb hown (hT _ k_748) d_GR_gather_9 ?_
  refine mt_Vv (As := [.int 122000]) (rest := []) (wr := [(aU, .inr (7, [.ref aS, .ref aY, .ref aP, .ref aGk, .ref aGh, .ref aGf, .ref aGl, .ref aGn, .int 0, .ref aGv, .int held, .long gsum])), (aY, .inr (3, [.ref aS, .ref aW, .ref aF, .ref aK, .ref aN])), (aF, .inr (2, [.int fbase, .ref aFs, .int fcnt])), (aFs, .inl (cI, 201, .inl fsts)), (aS, .inr (0, [.ref aB])), (aB, .inl (cB, 202000, .inl (by_ b))), (aPs, .inl (cI, 8, .inl pst)), (aPe, .inl (cI, 8, .inl pen)), (aPi, .inl (cI, 8, .inl pix)), (aGk, .inl (cI, 200, .inl gky)), (aGh, .inl (cI, 200, .inl ghs)), (aGf, .inl (cI, 200, .inl gfi)), (aGl, .inl (cI, 200, .inl gla)), (aGn, .inl (cI, 200, .inl gnx))]) ⟨hx, hb, hml, hown, hT⟩ (c_PA_makeRowsAt l D cB cI aP aS aV aPs aPe aPi aPh aPl aPn pcnt pfix pown plc psr pbs pms _ vplace vlimit vfull 122000 (by decide)) (cwV 1 hT (gV_of k_749 k_617 k_618 k_7 kc_PA_makeRowsAt) rfl rfl rfl hd_PA_makeRowsAt ⟨Nat.le_of_ble_eq_true rfl, Nat.le_of_ble_eq_true rfl⟩) hk hP hD hS hA [6, 7] [0, 1, 2, 3, 4, 5, 8, 9, 10, 11, 12, 13, 14, 15] rfl rfl rfl (by decide) (by decide) (by decide) (q0 := 0) rfl rfl rfl rfl hl.1 rfl (Nat.le_of_ble_eq_true rfl) d_GR_gather_11 ⟨Nat.zero_le _, Nat.zero_le _⟩ (fun u_1 H locs hw_1 hP hD hS => ?_)
  obtain ⟨vplace_1, vlimit_1, vfull_1⟩ := u_1
  obtain ⟨hw_1, hi_1⟩ := hw_1
  have hP : va_P D vwCl [(aU, .inr (7, [.ref aS, .ref aY, .ref aP, .ref aGk, .ref aGh, .ref aGf, .ref aGl, .ref aGn, .int 0, .ref aGv, .int held, .long gsum])), (aY, .inr (3, [.ref aS, .ref aW, .ref aF, .ref aK, .ref aN])), (aF, .inr (2, [.int fbase, .ref aFs, .int fcnt])), (aFs, .inl (cI, 201, .inl fsts)), (aS, .inr (0, [.ref aB])), (aB, .inl (cB, 202000, .inl (by_ b))), (aP, .inr (5, [.ref aS, .ref aV, .ref aPs, .ref aPe, .ref aPi, .ref aPh, .int pcnt, .int (b2i pfix), .int pown, .ref aPl, .ref aPn, .int plc, .int psr, .int pbs, .int (b2i pms)])), (aV, .inr (1, [.ref aS, .int vplace_1, .int vlimit_1, .int (b2i vfull_1)])), (aPs, .inl (cI, 8, .inl pst)), (aPe, .inl (cI, 8, .inl pen)), (aPi, .inl (cI, 8, .inl pix)), (aGk, .inl (cI, 200, .inl gky)), (aGh, .inl (cI, 200, .inl ghs)), (aGf, .inl (cI, 200, .inl gfi)), (aGl, .inl (cI, 200, .inl gla)), (aGn, .inl (cI, 200, .inl gnx))] H := hP.sub [0, 1, 2, 3, 4, 5, 14, 15, 6, 7, 8, 9, 10, 11, 12, 13] rfl
  have hD : va_D A [(aU, .inr (7, [.ref aS, .ref aY, .ref aP, .ref aGk, .ref aGh, .ref aGf, .ref aGl, .ref aGn, .int 0, .ref aGv, .int held, .long gsum])), (aY, .inr (3, [.ref aS, .ref aW, .ref aF, .ref aK, .ref aN])), (aF, .inr (2, [.int fbase, .ref aFs, .int fcnt])), (aFs, .inl (cI, 201, .inl fsts)), (aS, .inr (0, [.ref aB])), (aB, .inl (cB, 202000, .inl (by_ b))), (aP, .inr (5, [.ref aS, .ref aV, .ref aPs, .ref aPe, .ref aPi, .ref aPh, .int pcnt, .int (b2i pfix), .int pown, .ref aPl, .ref aPn, .int plc, .int psr, .int pbs, .int (b2i pms)])), (aV, .inr (1, [.ref aS, .int vplace_1, .int vlimit_1, .int (b2i vfull_1)])), (aPs, .inl (cI, 8, .inl pst)), (aPe, .inl (cI, 8, .inl pen)), (aPi, .inl (cI, 8, .inl pix)), (aGk, .inl (cI, 200, .inl gky)), (aGh, .inl (cI, 200, .inl ghs)), (aGf, .inl (cI, 200, .inl gfi)), (aGl, .inl (cI, 200, .inl gla)), (aGn, .inl (cI, 200, .inl gnx))] := hD.sub [0, 1, 2, 3, 4, 5, 14, 15, 6, 7, 8, 9, 10, 11, 12, 13] (by decide) rfl
  refine lv_aload_n hx hb d_GR_gather_14 rfl (lv_at hl 0 rfl) ?_
  refine va_get (D := D) (ci := 7) (v := .ref aP) (C := R_GR) (T := T_GR) (N := 12) hx hb hT u_GR hown hK hP 0 rfl rfl 2 (by decide) (hT _ k_214) (fun _ h9 => h9) rfl d_GR_gather_15 ?_
  refine lv_iload_n hx hb d_GR_gather_18 rfl (lv_at hl 1 rfl) ?_
  refine mt_Vi (As := [.int p0]) (rest := []) (wr := [(aU, .inr (7, [.ref aS, .ref aY, .ref aP, .ref aGk, .ref aGh, .ref aGf, .ref aGl, .ref aGn, .int 0, .ref aGv, .int held, .long gsum])), (aY, .inr (3, [.ref aS, .ref aW, .ref aF, .ref aK, .ref aN])), (aF, .inr (2, [.int fbase, .ref aFs, .int fcnt])), (aFs, .inl (cI, 201, .inl fsts)), (aV, .inr (1, [.ref aS, .int vplace_1, .int vlimit_1, .int (b2i vfull_1)])), (aGk, .inl (cI, 200, .inl gky)), (aGh, .inl (cI, 200, .inl ghs)), (aGf, .inl (cI, 200, .inl gfi)), (aGl, .inl (cI, 200, .inl gla)), (aGn, .inl (cI, 200, .inl gnx))]) ⟨hx, hb, hml, hown, hT⟩ (c_PA_readExpression l D cB cI aP aS aV aPs aPe aPi aPh aPl aPn aB plc psr pbs pms b _ pcnt pfix pown pst pen pix p0) (cwV 1 hT (gV_of k_722 k_566 k_567 k_7 kc_PA_readExpression) rfl rfl rfl hd_PA_readExpression ⟨Nat.le_of_ble_eq_true rfl, Nat.le_of_ble_eq_true rfl⟩) hk hP hD hS hA [6, 4, 5, 8, 9, 10] [0, 1, 2, 3, 7, 11, 12, 13, 14, 15] rfl rfl rfl (by decide) (by decide) (by decide) (q0 := 0) rfl rfl rfl rfl hl.1 rfl (Nat.le_of_ble_eq_true rfl) d_GR_gather_19 ⟨Nat.zero_le _, Nat.zero_le _⟩ (fun r_2 u_2 H locs hw_2 hP hD hS => ?_)
  obtain ⟨pcnt_2, pfix_2, pown_2, pst_2, pen_2, pix_2⟩ := u_2
  obtain ⟨r_2, rfl, hw_2⟩ := hw_2
  have hP : va_P D vwCl [(aU, .inr (7, [.ref aS, .ref aY, .ref aP, .ref aGk, .ref aGh, .ref aGf, .ref aGl, .ref aGn, .int 0, .ref aGv, .int held, .long gsum])), (aY, .inr (3, [.ref aS, .ref aW, .ref aF, .ref aK, .ref aN])), (aF, .inr (2, [.int fbase, .ref aFs, .int fcnt])), (aFs, .inl (cI, 201, .inl fsts)), (aS, .inr (0, [.ref aB])), (aB, .inl (cB, 202000, .inl (by_ b))), (aP, .inr (5, [.ref aS, .ref aV, .ref aPs, .ref aPe, .ref aPi, .ref aPh, .int pcnt_2, .int (b2i pfix_2), .int pown_2, .ref aPl, .ref aPn, .int plc, .int psr, .int pbs, .int (b2i pms)])), (aV, .inr (1, [.ref aS, .int vplace_1, .int vlimit_1, .int (b2i vfull_1)])), (aPs, .inl (cI, 8, .inl pst_2)), (aPe, .inl (cI, 8, .inl pen_2)), (aPi, .inl (cI, 8, .inl pix_2)), (aGk, .inl (cI, 200, .inl gky)), (aGh, .inl (cI, 200, .inl ghs)), (aGf, .inl (cI, 200, .inl gfi)), (aGl, .inl (cI, 200, .inl gla)), (aGn, .inl (cI, 200, .inl gnx))] H := hP.sub [0, 1, 2, 3, 11, 12, 10, 4, 13, 14, 15, 5, 6, 7, 8, 9] rfl
  have hD : va_D A [(aU, .inr (7, [.ref aS, .ref aY, .ref aP, .ref aGk, .ref aGh, .ref aGf, .ref aGl, .ref aGn, .int 0, .ref aGv, .int held, .long gsum])), (aY, .inr (3, [.ref aS, .ref aW, .ref aF, .ref aK, .ref aN])), (aF, .inr (2, [.int fbase, .ref aFs, .int fcnt])), (aFs, .inl (cI, 201, .inl fsts)), (aS, .inr (0, [.ref aB])), (aB, .inl (cB, 202000, .inl (by_ b))), (aP, .inr (5, [.ref aS, .ref aV, .ref aPs, .ref aPe, .ref aPi, .ref aPh, .int pcnt_2, .int (b2i pfix_2), .int pown_2, .ref aPl, .ref aPn, .int plc, .int psr, .int pbs, .int (b2i pms)])), (aV, .inr (1, [.ref aS, .int vplace_1, .int vlimit_1, .int (b2i vfull_1)])), (aPs, .inl (cI, 8, .inl pst_2)), (aPe, .inl (cI, 8, .inl pen_2)), (aPi, .inl (cI, 8, .inl pix_2)), (aGk, .inl (cI, 200, .inl gky)), (aGh, .inl (cI, 200, .inl ghs)), (aGf, .inl (cI, 200, .inl gfi)), (aGl, .inl (cI, 200, .inl gla)), (aGn, .inl (cI, 200, .inl gnx))] := hD.sub [0, 1, 2, 3, 11, 12, 10, 4, 13, 14, 15, 5, 6, 7, 8, 9] (by decide) rfl
  refine lv_if_ne (tgt := 26) hx hb d_GR_gather_22 (by decide) (fun c_3 => ?_) (fun c_3 => ?_)
  · refine lv_iconst (v := 0) hx hb d_GR_gather_26 (by decide) ?_
    refine lv_istore_n (lv' := [(2, .int 0), (0, .ref aU), (1, .int p0)]) hx hb d_GR_gather_27 rfl hl (by decide) rfl (fun ls hl => ?_)
    exact l_GR_gather_h28 C0 l D cB cI aU aS aY aP aGk aGh aGf aGl aGn aGv aW aF aK aN aFs aB aV aPs aPe aPi aPh aPl aPn fbase held gsum fcnt fsts plc psr pbs pms hk hA   ((((200 : Int32).toInt - (0 : Int32).toInt).toNat) + 1) 0 0 b pcnt_2 pfix_2 pown_2 vplace_1 vlimit_1 vfull_1 pst_2 pen_2 pix_2 gky ghs gfi gla gnx (Nat.lt_succ_self _) (hi_1) (by decide) (g_0) (by rw [tw_GR_gather, ← hw_1, tp3_mk, ← hw_2, tp7_mk, if_neg c_3]) _ _ hP hD hS ls (lv_sub hl [1, 0] rfl)
  · exact W.vret hx hb hr (fun t ht hW => ⟨⟨(0, b, pcnt_2, pfix_2, pown_2, vplace_1, vlimit_1, vfull_1, pst_2, pen_2, pix_2, gky, ghs, gfi, gla, gnx), rfl, ⟨(by rw [tw_GR_gather, ← hw_1, tp3_mk, ← hw_2, tp7_mk, if_pos c_3]; first | done | rfl), g_0⟩, by rw [ht]; exact hP, hD⟩, hS.F ht⟩) hS.2.2 d_GR_gather_25
abbrev wd_GR_collect (aU aS aY aP aGk aGh aGf aGl aGn aGv aW aF aK aN aFs aB aV aPs aPe aPi aPh aPl aPn : Nat) (cB cI : ClassId) (fbase : Int32) (ngr : Int32) (gsum : Int64) (fcnt : Int32) (fsts : Nat → Int32) (plc : Int32) (psr : Int32) (pbs : Int32) (pms : Bool) (gfi : Nat → Int32) (gnx : Nat → Int32) (held : Int32) (b : Nat → UInt8) (pcnt : Int32) (pfix : Bool) (pown : Int32) (vplace : Int32) (vlimit : Int32) (vfull : Bool) (pst : Nat → Int32) (pen : Nat → Int32) (pix : Nat → Int32) (gvl : Nat → Int32) : va_W := [(aU, .inr (7, [.ref aS, .ref aY, .ref aP, .ref aGk, .ref aGh, .ref aGf, .ref aGl, .ref aGn, .int ngr, .ref aGv, .int held, .long gsum])), (aY, .inr (3, [.ref aS, .ref aW, .ref aF, .ref aK, .ref aN])), (aF, .inr (2, [.int fbase, .ref aFs, .int fcnt])), (aFs, .inl (cI, 201, .inl fsts)), (aS, .inr (0, [.ref aB])), (aB, .inl (cB, 202000, .inl (by_ b))), (aP, .inr (5, [.ref aS, .ref aV, .ref aPs, .ref aPe, .ref aPi, .ref aPh, .int pcnt, .int (b2i pfix), .int pown, .ref aPl, .ref aPn, .int plc, .int psr, .int pbs, .int (b2i pms)])), (aV, .inr (1, [.ref aS, .int vplace, .int vlimit, .int (b2i vfull)])), (aPs, .inl (cI, 8, .inl pst)), (aPe, .inl (cI, 8, .inl pen)), (aPi, .inl (cI, 8, .inl pix)), (aGf, .inl (cI, 200, .inl gfi)), (aGn, .inl (cI, 200, .inl gnx)), (aGv, .inl (cI, 200, .inl gvl))]
set_option maxHeartbeats 4000000 in
set_option maxRecDepth 100000 in
theorem l_GR_collect_h40 {p : Program} {e : Env} {s : State} {m : MethodId} {args : Array Value} {below : List Frame} {meth : Method} {c : Code} {V : Int32 × (Nat → UInt8) × Int32 × Bool × Int32 × Int32 × Int32 × Bool × (Nat → Int32) × (Nat → Int32) × (Nat → Int32) × (Nat → Int32)} (C0 : lc_C p s m meth c args b_GR_collect 5 none R_GR lw_g) (l : Launch) (D : va_G) (cB cI : ClassId) (aU aS aY aP aGk aGh aGf aGl aGn aGv aW aF aK aN aFs aB aV aPs aPe aPi aPh aPl aPn : Nat) (fbase : Int32) (ngr : Int32) (gsum : Int64) (fcnt : Int32) (fsts : Nat → Int32) (plc : Int32) (psr : Int32) (pbs : Int32) (pms : Bool) (gfi : Nat → Int32) (gnx : Nat → Int32) {A : Nat → Prop} (hk : hk_ D cB cI s) (hA : ∀ q : Nat, s.heap.size ≤ q → A q)  : ∀ (n : Nat) (x3 : Int32) (x4 : Int32) (held : Int32) (b : Nat → UInt8) (pcnt : Int32) (pfix : Bool) (pown : Int32) (vplace : Int32) (vlimit : Int32) (vfull : Bool) (pst : Nat → Int32) (pen : Nat → Int32) (pix : Nat → Int32) (gvl : Nat → Int32), ((200 : Int32).toInt - x4.toInt).toNat < n → w_ok vplace vlimit vfull → ¬ x4 < 0 → x4 ≤ 200 → held = x4 → h_ok held → V = tw_GR_collect_h40 fbase fcnt fsts gfi gnx n x3 x4 held b pcnt pfix pown vplace vlimit vfull pst pen pix gvl → ∀ (H : Heap) (locs : List Loc), va_P D vwCl [(aU, .inr (7, [.ref aS, .ref aY, .ref aP, .ref aGk, .ref aGh, .ref aGf, .ref aGl, .ref aGn, .int ngr, .ref aGv, .int held, .long gsum])), (aY, .inr (3, [.ref aS, .ref aW, .ref aF, .ref aK, .ref aN])), (aF, .inr (2, [.int fbase, .ref aFs, .int fcnt])), (aFs, .inl (cI, 201, .inl fsts)), (aS, .inr (0, [.ref aB])), (aB, .inl (cB, 202000, .inl (by_ b))), (aP, .inr (5, [.ref aS, .ref aV, .ref aPs, .ref aPe, .ref aPi, .ref aPh, .int pcnt, .int (b2i pfix), .int pown, .ref aPl, .ref aPn, .int plc, .int psr, .int pbs, .int (b2i pms)])), (aV, .inr (1, [.ref aS, .int vplace, .int vlimit, .int (b2i vfull)])), (aPs, .inl (cI, 8, .inl pst)), (aPe, .inl (cI, 8, .inl pen)), (aPi, .inl (cI, 8, .inl pix)), (aGf, .inl (cI, 200, .inl gfi)), (aGn, .inl (cI, 200, .inl gnx)), (aGv, .inl (cI, 200, .inl gvl))] H → va_D A [(aU, .inr (7, [.ref aS, .ref aY, .ref aP, .ref aGk, .ref aGh, .ref aGf, .ref aGl, .ref aGn, .int ngr, .ref aGv, .int held, .long gsum])), (aY, .inr (3, [.ref aS, .ref aW, .ref aF, .ref aK, .ref aN])), (aF, .inr (2, [.int fbase, .ref aFs, .int fcnt])), (aFs, .inl (cI, 201, .inl fsts)), (aS, .inr (0, [.ref aB])), (aB, .inl (cB, 202000, .inl (by_ b))), (aP, .inr (5, [.ref aS, .ref aV, .ref aPs, .ref aPe, .ref aPi, .ref aPh, .int pcnt, .int (b2i pfix), .int pown, .ref aPl, .ref aPn, .int plc, .int psr, .int pbs, .int (b2i pms)])), (aV, .inr (1, [.ref aS, .int vplace, .int vlimit, .int (b2i vfull)])), (aPs, .inl (cI, 8, .inl pst)), (aPe, .inl (cI, 8, .inl pen)), (aPi, .inl (cI, 8, .inl pix)), (aGf, .inl (cI, 200, .inl gfi)), (aGn, .inl (cI, 200, .inl gnx)), (aGv, .inl (cI, 200, .inl gvl))] → va_S A s.heap H locs → ∀ ls : Array Slot, lv_has ls 5 [(0, .ref aU), (3, .int x3), (4, .int x4)] → W p l e ({ frames := 86, cells := 0, slots := 0, locals := 2065 }) s m args below meth c H locs 0 0 (MQ below (va_Qv (fun (u : Int32 × (Nat → UInt8) × Int32 × Bool × Int32 × Int32 × Int32 × Bool × (Nat → Int32) × (Nat → Int32) × (Nat → Int32) × (Nat → Int32)) => u = V ∧ h_ok u.1) (mt_B D A (fun u => wd_GR_collect aU aS aY aP aGk aGh aGf aGl aGn aGv aW aF aK aN aFs aB aV aPs aPe aPi aPh aPl aPn cB cI fbase ngr gsum fcnt fsts plc psr pbs pms gfi gnx u.1 u.2.1 u.2.2.1 u.2.2.2.1 u.2.2.2.2.1 u.2.2.2.2.2.1 u.2.2.2.2.2.2.1 u.2.2.2.2.2.2.2.1 u.2.2.2.2.2.2.2.2.1 u.2.2.2.2.2.2.2.2.2.1 u.2.2.2.2.2.2.2.2.2.2.1 u.2.2.2.2.2.2.2.2.2.2.2)) A) args s 0 0 A) (F0 m 40 ls []) := by
  obtain ⟨hx, hb, hml, hr, hown, hlocks, hT⟩ := id C0
  have hK := hk.1
  have hN := hk.2.1
  intro n
  induction n with
  | zero =>
    intro x3 x4 held b pcnt pfix pown vplace vlimit vfull pst pen pix gvl hm
    exact absurd hm (Nat.not_lt_zero _)
  | succ n ih =>
    intro x3 x4 held b pcnt pfix pown vplace vlimit vfull pst pen pix gvl hm hwv hv1 hv2 hhx hi hV H locs hP hD hS ls hl
    refine lv_iload hx hb d_GR_collect_40 (lv_at hl 2 rfl) ?_
    refine lv_sipush (v := 200) hx hb d_GR_collect_42 (by decide) ?_
    refine lv_icmp_ge (tgt := 105) hx hb d_GR_collect_45 (by decide) (fun c_4 => ?_) (fun c_4 => ?_)
    · exact W.vret hx hb hr (fun t ht hW => ⟨⟨(held, b, pcnt, pfix, pown, vplace, vlimit, vfull, pst, pen, pix, gvl), rfl, ⟨(by rw [hV, tw_GR_collect_h40, if_pos c_4]; first | done | rfl), hi⟩, by rw [ht]; exact hP, hD⟩, hS.F ht⟩) hS.2.2 d_GR_collect_105
    · refine lv_iload_n hx hb d_GR_collect_48 rfl (lv_at hl 1 rfl) ?_
      refine lv_if_lt (tgt := 105) hx hb d_GR_collect_49 (by decide) (fun c_5 => ?_) (fun c_5 => ?_)
      · exact W.vret hx hb hr (fun t ht hW => ⟨⟨(held, b, pcnt, pfix, pown, vplace, vlimit, vfull, pst, pen, pix, gvl), rfl, ⟨(by rw [hV, tw_GR_collect_h40, if_neg c_4, if_pos c_5]; first | done | rfl), hi⟩, by rw [ht]; exact hP, hD⟩, hS.F ht⟩) hS.2.2 d_GR_collect_105
      · refine lv_iload_n hx hb d_GR_collect_52 rfl (lv_at hl 1 rfl) ?_
        refine lv_sipush (v := 200) hx hb d_GR_collect_53 (by decide) ?_
        refine lv_icmp_ge (tgt := 105) hx hb d_GR_collect_56 (by decide) (fun c_6 => ?_) (fun c_6 => ?_)
        · exact W.vret hx hb hr (fun t ht hW => ⟨⟨(held, b, pcnt, pfix, pown, vplace, vlimit, vfull, pst, pen, pix, gvl), rfl, ⟨(by rw [hV, tw_GR_collect_h40, if_neg c_4, if_neg c_5, if_pos c_6]; first | done | rfl), hi⟩, by rw [ht]; exact hP, hD⟩, hS.F ht⟩) hS.2.2 d_GR_collect_105
        · refine lv_aload_n hx hb d_GR_collect_59 rfl (lv_at hl 0 rfl) ?_
          refine va_get (D := D) (ci := 7) (v := .ref aGv) (C := R_GR) (T := T_GR) (N := 12) hx hb hT u_GR hown hK hP 0 rfl rfl 9 (by decide) (hT _ k_221) (fun _ h9 => h9) rfl d_GR_collect_60 ?_
          refine lv_iload hx hb d_GR_collect_63 (lv_at hl 2 rfl) ?_
          refine lv_aload_n hx hb d_GR_collect_65 rfl (lv_at hl 0 rfl) ?_
          refine va_get (D := D) (ci := 7) (v := .ref aP) (C := R_GR) (T := T_GR) (N := 12) hx hb hT u_GR hown hK hP 0 rfl rfl 2 (by decide) (hT _ k_214) (fun _ h9 => h9) rfl d_GR_collect_66 ?_
          refine lv_aload_n hx hb d_GR_collect_69 rfl (lv_at hl 0 rfl) ?_
          refine va_get (D := D) (ci := 7) (v := .ref aY) (C := R_GR) (T := T_GR) (N := 12) hx hb hT u_GR hown hK hP 0 rfl rfl 1 (by decide) (hT _ k_213) (fun _ h9 => h9) rfl d_GR_collect_70 ?_
          refine lv_iload_n hx hb d_GR_collect_73 rfl (lv_at hl 1 rfl) ?_
          refine rd_V (val := tw_BS_document fbase fcnt fsts x3) (As := [.int x3]) (rest := [.ref aP, .int x4, .ref aGv]) ⟨hx, hb, hml, hown, hT⟩ (c_BS_document l D cB cI aY aS aW aF aK aN aFs fbase fcnt fsts x3) (cwV 1 hT (gV_of k_750 k_583 k_584 k_4 kc_BS_document) rfl rfl rfl hd_BS_document ⟨Nat.le_of_ble_eq_true rfl, Nat.le_of_ble_eq_true rfl⟩) hk (hP.sub (ws' := [(aY, .inr (3, [.ref aS, .ref aW, .ref aF, .ref aK, .ref aN])), (aF, .inr (2, [.int fbase, .ref aFs, .int fcnt])), (aFs, .inl (cI, 201, .inl fsts))]) [1, 2, 3] rfl) (q0 := 0) rfl rfl rfl rfl hl.1 rfl (Nat.le_of_ble_eq_true rfl) d_GR_collect_74 ⟨Nat.zero_le _, Nat.zero_le _⟩ ?_
          refine lv_iconst (v := 0) hx hb d_GR_collect_77 (by decide) ?_
          refine mt_Vi (As := [.int (tw_BS_document fbase fcnt fsts x3), .int 0]) (rest := [.int x4, .ref aGv]) (wr := [(aU, .inr (7, [.ref aS, .ref aY, .ref aP, .ref aGk, .ref aGh, .ref aGf, .ref aGl, .ref aGn, .int ngr, .ref aGv, .int held, .long gsum])), (aY, .inr (3, [.ref aS, .ref aW, .ref aF, .ref aK, .ref aN])), (aF, .inr (2, [.int fbase, .ref aFs, .int fcnt])), (aFs, .inl (cI, 201, .inl fsts)), (aPi, .inl (cI, 8, .inl pix)), (aGf, .inl (cI, 200, .inl gfi)), (aGn, .inl (cI, 200, .inl gnx)), (aGv, .inl (cI, 200, .inl gvl))]) ⟨hx, hb, hml, hown, hT⟩ (c_PA_val0 l D cB cI aP aS aV aPs aPe aPi aPh aPl aPn aB vlimit vfull vplace pcnt pfix pown plc psr pbs pms pst pen _ vplace vlimit vfull b (tw_BS_document fbase fcnt fsts x3) kd_doc (w_r hwv)) (cwV 2 hT (gV_of k_751 k_623 k_624 k_7 kc_PA_value) rfl rfl rfl hd_PA_value ⟨Nat.le_of_ble_eq_true rfl, Nat.le_of_ble_eq_true rfl⟩) hk hP hD hS hA [6, 7, 4, 5, 8, 9] [0, 1, 2, 3, 10, 11, 12, 13] rfl rfl rfl (by decide) (by decide) (by decide) (q0 := 0) rfl rfl rfl rfl hl.1 rfl (Nat.le_of_ble_eq_true rfl) d_GR_collect_78 ⟨Nat.zero_le _, Nat.zero_le _⟩ (fun r_7 u_7 H locs hw_7 hP hD hS => ?_)
          obtain ⟨vplace_7, vlimit_7, vfull_7, b_7⟩ := u_7
          obtain ⟨hw_7, hi_7⟩ := hw_7
          have hP : va_P D vwCl [(aU, .inr (7, [.ref aS, .ref aY, .ref aP, .ref aGk, .ref aGh, .ref aGf, .ref aGl, .ref aGn, .int ngr, .ref aGv, .int held, .long gsum])), (aY, .inr (3, [.ref aS, .ref aW, .ref aF, .ref aK, .ref aN])), (aF, .inr (2, [.int fbase, .ref aFs, .int fcnt])), (aFs, .inl (cI, 201, .inl fsts)), (aS, .inr (0, [.ref aB])), (aB, .inl (cB, 202000, .inl (by_ b_7))), (aP, .inr (5, [.ref aS, .ref aV, .ref aPs, .ref aPe, .ref aPi, .ref aPh, .int pcnt, .int (b2i pfix), .int pown, .ref aPl, .ref aPn, .int plc, .int psr, .int pbs, .int (b2i pms)])), (aV, .inr (1, [.ref aS, .int vplace_7, .int vlimit_7, .int (b2i vfull_7)])), (aPs, .inl (cI, 8, .inl pst)), (aPe, .inl (cI, 8, .inl pen)), (aPi, .inl (cI, 8, .inl pix)), (aGf, .inl (cI, 200, .inl gfi)), (aGn, .inl (cI, 200, .inl gnx)), (aGv, .inl (cI, 200, .inl gvl))] H := hP.sub [0, 1, 2, 3, 10, 11, 8, 9, 12, 13, 4, 5, 6, 7] rfl
          have hD : va_D A [(aU, .inr (7, [.ref aS, .ref aY, .ref aP, .ref aGk, .ref aGh, .ref aGf, .ref aGl, .ref aGn, .int ngr, .ref aGv, .int held, .long gsum])), (aY, .inr (3, [.ref aS, .ref aW, .ref aF, .ref aK, .ref aN])), (aF, .inr (2, [.int fbase, .ref aFs, .int fcnt])), (aFs, .inl (cI, 201, .inl fsts)), (aS, .inr (0, [.ref aB])), (aB, .inl (cB, 202000, .inl (by_ b_7))), (aP, .inr (5, [.ref aS, .ref aV, .ref aPs, .ref aPe, .ref aPi, .ref aPh, .int pcnt, .int (b2i pfix), .int pown, .ref aPl, .ref aPn, .int plc, .int psr, .int pbs, .int (b2i pms)])), (aV, .inr (1, [.ref aS, .int vplace_7, .int vlimit_7, .int (b2i vfull_7)])), (aPs, .inl (cI, 8, .inl pst)), (aPe, .inl (cI, 8, .inl pen)), (aPi, .inl (cI, 8, .inl pix)), (aGf, .inl (cI, 200, .inl gfi)), (aGn, .inl (cI, 200, .inl gnx)), (aGv, .inl (cI, 200, .inl gvl))] := hD.sub [0, 1, 2, 3, 10, 11, 8, 9, 12, 13, 4, 5, 6, 7] (by decide) rfl
          refine va_iast hx hb hK hP hD hS 13 1 rfl rfl (in_nn hv1 c_4 rfl) d_GR_collect_81 (fun H locs hP hD hS => ?_)
          have hP : va_P D vwCl [(aU, .inr (7, [.ref aS, .ref aY, .ref aP, .ref aGk, .ref aGh, .ref aGf, .ref aGl, .ref aGn, .int ngr, .ref aGv, .int held, .long gsum])), (aY, .inr (3, [.ref aS, .ref aW, .ref aF, .ref aK, .ref aN])), (aF, .inr (2, [.int fbase, .ref aFs, .int fcnt])), (aFs, .inl (cI, 201, .inl fsts)), (aS, .inr (0, [.ref aB])), (aB, .inl (cB, 202000, .inl (by_ b_7))), (aP, .inr (5, [.ref aS, .ref aV, .ref aPs, .ref aPe, .ref aPi, .ref aPh, .int pcnt, .int (b2i pfix), .int pown, .ref aPl, .ref aPn, .int plc, .int psr, .int pbs, .int (b2i pms)])), (aV, .inr (1, [.ref aS, .int vplace_7, .int vlimit_7, .int (b2i vfull_7)])), (aPs, .inl (cI, 8, .inl pst)), (aPe, .inl (cI, 8, .inl pen)), (aPi, .inl (cI, 8, .inl pix)), (aGf, .inl (cI, 200, .inl gfi)), (aGn, .inl (cI, 200, .inl gnx)), (aGv, .inl (cI, 200, .inl (upd gvl x4.toNatClampNeg r_7)))] H := hP
          have hD : va_D A [(aU, .inr (7, [.ref aS, .ref aY, .ref aP, .ref aGk, .ref aGh, .ref aGf, .ref aGl, .ref aGn, .int ngr, .ref aGv, .int held, .long gsum])), (aY, .inr (3, [.ref aS, .ref aW, .ref aF, .ref aK, .ref aN])), (aF, .inr (2, [.int fbase, .ref aFs, .int fcnt])), (aFs, .inl (cI, 201, .inl fsts)), (aS, .inr (0, [.ref aB])), (aB, .inl (cB, 202000, .inl (by_ b_7))), (aP, .inr (5, [.ref aS, .ref aV, .ref aPs, .ref aPe, .ref aPi, .ref aPh, .int pcnt, .int (b2i pfix), .int pown, .ref aPl, .ref aPn, .int plc, .int psr, .int pbs, .int (b2i pms)])), (aV, .inr (1, [.ref aS, .int vplace_7, .int vlimit_7, .int (b2i vfull_7)])), (aPs, .inl (cI, 8, .inl pst)), (aPe, .inl (cI, 8, .inl pen)), (aPi, .inl (cI, 8, .inl pix)), (aGf, .inl (cI, 200, .inl gfi)), (aGn, .inl (cI, 200, .inl gnx)), (aGv, .inl (cI, 200, .inl (upd gvl x4.toNatClampNeg r_7)))] := hD
          refine lv_aload_n hx hb d_GR_collect_82 rfl (lv_at hl 0 rfl) ?_
          refine lv_dup hx hb d_GR_collect_83 rfl ?_
          refine va_get (D := D) (ci := 7) (v := .int held) (C := R_GR) (T := T_GR) (N := 12) hx hb hT u_GR hown hK hP 0 rfl rfl 10 (by decide) (hT _ k_222) (fun _ h9 => h9) rfl d_GR_collect_84 ?_
          refine lv_iconst (v := 1) hx hb d_GR_collect_87 (by decide) ?_
          refine lv_iadd hx hb d_GR_collect_88 ?_
          refine va_put (D := D) (ci := 7) (v := .int (held + 1)) (ty := .int) (C := R_GR) (T := T_GR) (N := 12) hx hb hT u_GR ty_GR tyok_GR nm_GR hown hK hP hD hS 0 rfl rfl 10 (by decide) (hT _ k_222) (fun _ h9 => h9) rfl (by decide +kernel) (rfl) (rfl) (Nat.le_of_ble_eq_true rfl) d_GR_collect_89 (fun H locs hP hD hS => ?_)
          have hP : va_P D vwCl [(aU, .inr (7, [.ref aS, .ref aY, .ref aP, .ref aGk, .ref aGh, .ref aGf, .ref aGl, .ref aGn, .int ngr, .ref aGv, .int (held + 1), .long gsum])), (aY, .inr (3, [.ref aS, .ref aW, .ref aF, .ref aK, .ref aN])), (aF, .inr (2, [.int fbase, .ref aFs, .int fcnt])), (aFs, .inl (cI, 201, .inl fsts)), (aS, .inr (0, [.ref aB])), (aB, .inl (cB, 202000, .inl (by_ b_7))), (aP, .inr (5, [.ref aS, .ref aV, .ref aPs, .ref aPe, .ref aPi, .ref aPh, .int pcnt, .int (b2i pfix), .int pown, .ref aPl, .ref aPn, .int plc, .int psr, .int pbs, .int (b2i pms)])), (aV, .inr (1, [.ref aS, .int vplace_7, .int vlimit_7, .int (b2i vfull_7)])), (aPs, .inl (cI, 8, .inl pst)), (aPe, .inl (cI, 8, .inl pen)), (aPi, .inl (cI, 8, .inl pix)), (aGf, .inl (cI, 200, .inl gfi)), (aGn, .inl (cI, 200, .inl gnx)), (aGv, .inl (cI, 200, .inl (upd gvl x4.toNatClampNeg r_7)))] H := hP
          have hD : va_D A [(aU, .inr (7, [.ref aS, .ref aY, .ref aP, .ref aGk, .ref aGh, .ref aGf, .ref aGl, .ref aGn, .int ngr, .ref aGv, .int (held + 1), .long gsum])), (aY, .inr (3, [.ref aS, .ref aW, .ref aF, .ref aK, .ref aN])), (aF, .inr (2, [.int fbase, .ref aFs, .int fcnt])), (aFs, .inl (cI, 201, .inl fsts)), (aS, .inr (0, [.ref aB])), (aB, .inl (cB, 202000, .inl (by_ b_7))), (aP, .inr (5, [.ref aS, .ref aV, .ref aPs, .ref aPe, .ref aPi, .ref aPh, .int pcnt, .int (b2i pfix), .int pown, .ref aPl, .ref aPn, .int plc, .int psr, .int pbs, .int (b2i pms)])), (aV, .inr (1, [.ref aS, .int vplace_7, .int vlimit_7, .int (b2i vfull_7)])), (aPs, .inl (cI, 8, .inl pst)), (aPe, .inl (cI, 8, .inl pen)), (aPi, .inl (cI, 8, .inl pix)), (aGf, .inl (cI, 200, .inl gfi)), (aGn, .inl (cI, 200, .inl gnx)), (aGv, .inl (cI, 200, .inl (upd gvl x4.toNatClampNeg r_7)))] := hD
          refine lv_aload_n hx hb d_GR_collect_92 rfl (lv_at hl 0 rfl) ?_
          refine va_get (D := D) (ci := 7) (v := .ref aGn) (C := R_GR) (T := T_GR) (N := 12) hx hb hT u_GR hown hK hP 0 rfl rfl 7 (by decide) (hT _ k_219) (fun _ h9 => h9) rfl d_GR_collect_93 ?_
          refine lv_iload_n hx hb d_GR_collect_96 rfl (lv_at hl 1 rfl) ?_
          refine va_iald hx hb hK hP 12 1 rfl rfl (in_nn c_5 c_6 rfl) d_GR_collect_97 ?_
          refine lv_istore_n (lv' := [(3, .int (gnx x3.toNatClampNeg)), (0, .ref aU), (4, .int x4)]) hx hb d_GR_collect_98 rfl hl (by decide) rfl (fun ls hl => ?_)
          refine lv_iinc (v := x4 + 1) (lv' := [(4, .int (x4 + 1)), (3, .int (gnx x3.toNatClampNeg)), (0, .ref aU)]) hx hb d_GR_collect_99 hl (k := 2) rfl rfl (by decide) rfl (fun ls hl => ?_)
          refine lv_goto (tgt := 40) hx hb d_GR_collect_102 (by decide) ?_
          exact ih (gnx x3.toNatClampNeg) (x4 + 1) (held + 1) b_7 pcnt pfix pown vplace_7 vlimit_7 vfull_7 pst pen pix (upd gvl x4.toNatClampNeg r_7) (lp_up hm c_4) (hi_7.1) (i_upn hv1 c_4) (h_up c_4) (by rw [hhx]) ((h_of (a := held + 1) (x := x4 + 1) (by rw [hhx]) (i_upn hv1 c_4) (h_up c_4))) (by rw [hV, tw_GR_collect_h40, if_neg c_4, if_neg c_5, if_neg c_6, ← hw_7, tp5_mk]) _ _ hP hD hS ls (lv_sub hl [2, 1, 0] rfl)
set_option maxHeartbeats 4000000 in
set_option maxRecDepth 100000 in
theorem c_GR_collect (l : Launch) (D : va_G) (cB cI : ClassId) (aU aS aY aP aGk aGh aGf aGl aGn aGv aW aF aK aN aFs aB aV aPs aPe aPi aPh aPl aPn : Nat) (fbase : Int32) (ngr : Int32) (gsum : Int64) (fcnt : Int32) (fsts : Nat → Int32) (plc : Int32) (psr : Int32) (pbs : Int32) (pms : Bool) (gfi : Nat → Int32) (gnx : Nat → Int32) (sz : Nat) (held : Int32) (b : Nat → UInt8) (pcnt : Int32) (pfix : Bool) (pown : Int32) (vplace : Int32) (vlimit : Int32) (vfull : Bool) (pst : Nat → Int32) (pen : Nat → Int32) (pix : Nat → Int32) (gvl : Nat → Int32) (p0 : Int32) (p1 : Int32) (hg : 0 ≤ p1.toInt ∧ p1.toInt < 200) : Met l y_GR_collect mw_GR_collect { frames := 86, cells := 0, slots := 0, locals := 2065 } (va_Pc [.ref aU, .int p0, .int p1] (mt_P D cB cI (wd_GR_collect aU aS aY aP aGk aGh aGf aGl aGn aGv aW aF aK aN aFs aB aV aPs aPe aPi aPh aPl aPn cB cI fbase ngr gsum fcnt fsts plc psr pbs pms gfi gnx held b pcnt pfix pown vplace vlimit vfull pst pen pix gvl) sz)) (va_Qv (fun (u : Int32 × (Nat → UInt8) × Int32 × Bool × Int32 × Int32 × Int32 × Bool × (Nat → Int32) × (Nat → Int32) × (Nat → Int32) × (Nat → Int32)) => u = tw_GR_collect fbase fcnt fsts gfi gnx held b pcnt pfix pown vplace vlimit vfull pst pen pix gvl p0 p1 ∧ h_ok u.1) (mt_B D (va_A (wd_GR_collect aU aS aY aP aGk aGh aGf aGl aGn aGv aW aF aK aN aFs aB aV aPs aPe aPi aPh aPl aPn cB cI fbase ngr gsum fcnt fsts plc psr pbs pms gfi gnx held b pcnt pfix pown vplace vlimit vfull pst pen pix gvl) sz) (fun u => wd_GR_collect aU aS aY aP aGk aGh aGf aGl aGn aGv aW aF aK aN aFs aB aV aPs aPe aPi aPh aPl aPn cB cI fbase ngr gsum fcnt fsts plc psr pbs pms gfi gnx u.1 u.2.1 u.2.2.1 u.2.2.2.1 u.2.2.2.2.1 u.2.2.2.2.2.1 u.2.2.2.2.2.2.1 u.2.2.2.2.2.2.2.1 u.2.2.2.2.2.2.2.2.1 u.2.2.2.2.2.2.2.2.2.1 u.2.2.2.2.2.2.2.2.2.2.1 u.2.2.2.2.2.2.2.2.2.2.2)) (va_A (wd_GR_collect aU aS aY aP aGk aGh aGf aGl aGn aGv aW aF aK aN aFs aB aV aPs aPe aPi aPh aPl aPn cB cI fbase ngr gsum fcnt fsts plc psr pbs pms gfi gnx held b pcnt pfix pown vplace vlimit vfull pst pen pix gvl) sz)) 0 0 (va_A (wd_GR_collect aU aS aY aP aGk aGh aGf aGl aGn aGv aW aF aK aN aFs aB aV aPs aPe aPi aPh aPl aPn cB cI fbase ngr gsum fcnt fsts plc psr pbs pms gfi gnx held b pcnt pfix pown vplace vlimit vfull pst pen pix gvl) sz) := by
  refine Met.ofW (cc := b_GR_collect) (maxL := 5) (ret := none) (by decide) rfl ?_
  intro p e s m args below meth c s₁ B0 hml hv
  obtain ⟨rfl, hsz, hP, hk, hD0⟩ := hv
  have hK := hk.1
  have hN := hk.2.1
  have hx := B0.exec
  have hb := B0.bytes
  have hr := B0.returns
  have hT : ∀ w ∈ lw_g, w.before _ s = true := fun w h => atoms_spec (ws := mw_GR_collect) B0.pre w (List.mem_cons_of_mem _ h)
  have hown : s.vm.findClass R_GR = some m.cls := findClass_of_methodNamed B0.named
  have hlocks := B0.notSynchronized
  subst hsz
  have hD := hD0.self (sz := s.heap.size)
  generalize hAe : va_A [(aU, .inr (7, [.ref aS, .ref aY, .ref aP, .ref aGk, .ref aGh, .ref aGf, .ref aGl, .ref aGn, .int ngr, .ref aGv, .int held, .long gsum])), (aY, .inr (3, [.ref aS, .ref aW, .ref aF, .ref aK, .ref aN])), (aF, .inr (2, [.int fbase, .ref aFs, .int fcnt])), (aFs, .inl (cI, 201, .inl fsts)), (aS, .inr (0, [.ref aB])), (aB, .inl (cB, 202000, .inl (by_ b))), (aP, .inr (5, [.ref aS, .ref aV, .ref aPs, .ref aPe, .ref aPi, .ref aPh, .int pcnt, .int (b2i pfix), .int pown, .ref aPl, .ref aPn, .int plc, .int psr, .int pbs, .int (b2i pms)])), (aV, .inr (1, [.ref aS, .int vplace, .int vlimit, .int (b2i vfull)])), (aPs, .inl (cI, 8, .inl pst)), (aPe, .inl (cI, 8, .inl pen)), (aPi, .inl (cI, 8, .inl pix)), (aGf, .inl (cI, 200, .inl gfi)), (aGn, .inl (cI, 200, .inl gnx)), (aGv, .inl (cI, 200, .inl gvl))] s.heap.size = A at hD ⊢
  have hA : ∀ q : Nat, s.heap.size ≤ q → A q := fun q h => by rw [← hAe]; exact Or.inr h
  have hS : va_S A s.heap s.heap [] := va_S.rf
  have hl := lv_entry ([.ref aU, .int p0, .int p1]) (n := 5) (Nat.le_of_ble_eq_true rfl)
  rw [lg_entry_eq]
  generalize (lg_sl ([.ref aU, .int p0, .int p1]) ++ List.replicate (5 - (lg_sl ([.ref aU, .int p0, .int p1])).length) Slot.unset).toArray = ls at hl ⊢
  have hl : lv_has ls 5 [(0, .ref aU), (1, .int p0), (2, .int p1)] := hl
  have C0 : lc_C p s m meth c _ b_GR_collect 5 none R_GR lw_g := ⟨hx, hb, hml, hr, hown, hlocks, hT⟩
  refine lv_aload_n hx hb d_GR_collect_0 rfl (lv_at hl 0 rfl) ?_
  refine lv_iconst (v := 0) hx hb d_GR_collect_1 (by decide) ?_
  refine va_put (D := D) (ci := 7) (v := .int 0) (ty := .int) (C := R_GR) (T := T_GR) (N := 12) hx hb hT u_GR ty_GR tyok_GR nm_GR hown hK hP hD hS 0 rfl rfl 10 (by decide) (hT _ k_222) (fun _ h9 => h9) rfl (by decide +kernel) (rfl) (rfl) (Nat.le_of_ble_eq_true rfl) d_GR_collect_2 (fun H locs hP hD hS => ?_)
  have hP : va_P D vwCl [(aU, .inr (7, [.ref aS, .ref aY, .ref aP, .ref aGk, .ref aGh, .ref aGf, .ref aGl, .ref aGn, .int ngr, .ref aGv, .int 0, .long gsum])), (aY, .inr (3, [.ref aS, .ref aW, .ref aF, .ref aK, .ref aN])), (aF, .inr (2, [.int fbase, .ref aFs, .int fcnt])), (aFs, .inl (cI, 201, .inl fsts)), (aS, .inr (0, [.ref aB])), (aB, .inl (cB, 202000, .inl (by_ b))), (aP, .inr (5, [.ref aS, .ref aV, .ref aPs, .ref aPe, .ref aPi, .ref aPh, .int pcnt, .int (b2i pfix), .int pown, .ref aPl, .ref aPn, .int plc, .int psr, .int pbs, .int (b2i pms)])), (aV, .inr (1, [.ref aS, .int vplace, .int vlimit, .int (b2i vfull)])), (aPs, .inl (cI, 8, .inl pst)), (aPe, .inl (cI, 8, .inl pen)), (aPi, .inl (cI, 8, .inl pix)), (aGf, .inl (cI, 200, .inl gfi)), (aGn, .inl (cI, 200, .inl gnx)), (aGv, .inl (cI, 200, .inl gvl))] H := hP
  have hD : va_D A [(aU, .inr (7, [.ref aS, .ref aY, .ref aP, .ref aGk, .ref aGh, .ref aGf, .ref aGl, .ref aGn, .int ngr, .ref aGv, .int 0, .long gsum])), (aY, .inr (3, [.ref aS, .ref aW, .ref aF, .ref aK, .ref aN])), (aF, .inr (2, [.int fbase, .ref aFs, .int fcnt])), (aFs, .inl (cI, 201, .inl fsts)), (aS, .inr (0, [.ref aB])), (aB, .inl (cB, 202000, .inl (by_ b))), (aP, .inr (5, [.ref aS, .ref aV, .ref aPs, .ref aPe, .ref aPi, .ref aPh, .int pcnt, .int (b2i pfix), .int pown, .ref aPl, .ref aPn, .int plc, .int psr, .int pbs, .int (b2i pms)])), (aV, .inr (1, [.ref aS, .int vplace, .int vlimit, .int (b2i vfull)])), (aPs, .inl (cI, 8, .inl pst)), (aPe, .inl (cI, 8, .inl pen)), (aPi, .inl (cI, 8, .inl pix)), (aGf, .inl (cI, 200, .inl gfi)), (aGn, .inl (cI, 200, .inl gnx)), (aGv, .inl (cI, 200, .inl gvl))] := hD
  refine lv_aload_n hx hb d_GR_collect_5 rfl (lv_at hl 0 rfl) ?_
  refine va_get (D := D) (ci := 7) (v := .ref aP) (C := R_GR) (T := T_GR) (N := 12) hx hb hT u_GR hown hK hP 0 rfl rfl 2 (by decide) (hT _ k_214) (fun _ h9 => h9) rfl d_GR_collect_6 ?_
  refine lv_ldc (v := 162000) hx hb hown (hT _ k_807) d_GR_collect_9 ?_
  refine mt_Vv (As := [.int 162000]) (rest := []) (wr := [(aU, .inr (7, [.ref aS, .ref aY, .ref aP, .ref aGk, .ref aGh, .ref aGf, .ref aGl, .ref aGn, .int ngr, .ref aGv, .int 0, .long gsum])), (aY, .inr (3, [.ref aS, .ref aW, .ref aF, .ref aK, .ref aN])), (aF, .inr (2, [.int fbase, .ref aFs, .int fcnt])), (aFs, .inl (cI, 201, .inl fsts)), (aS, .inr (0, [.ref aB])), (aB, .inl (cB, 202000, .inl (by_ b))), (aPs, .inl (cI, 8, .inl pst)), (aPe, .inl (cI, 8, .inl pen)), (aPi, .inl (cI, 8, .inl pix)), (aGf, .inl (cI, 200, .inl gfi)), (aGn, .inl (cI, 200, .inl gnx)), (aGv, .inl (cI, 200, .inl gvl))]) ⟨hx, hb, hml, hown, hT⟩ (c_PA_makeRowsAt l D cB cI aP aS aV aPs aPe aPi aPh aPl aPn pcnt pfix pown plc psr pbs pms _ vplace vlimit vfull 162000 (by decide)) (cwV 1 hT (gV_of k_749 k_617 k_618 k_7 kc_PA_makeRowsAt) rfl rfl rfl hd_PA_makeRowsAt ⟨Nat.le_of_ble_eq_true rfl, Nat.le_of_ble_eq_true rfl⟩) hk hP hD hS hA [6, 7] [0, 1, 2, 3, 4, 5, 8, 9, 10, 11, 12, 13] rfl rfl rfl (by decide) (by decide) (by decide) (q0 := 0) rfl rfl rfl rfl hl.1 rfl (Nat.le_of_ble_eq_true rfl) d_GR_collect_11 ⟨Nat.zero_le _, Nat.zero_le _⟩ (fun u_1 H locs hw_1 hP hD hS => ?_)
  obtain ⟨vplace_1, vlimit_1, vfull_1⟩ := u_1
  obtain ⟨hw_1, hi_1⟩ := hw_1
  have hP : va_P D vwCl [(aU, .inr (7, [.ref aS, .ref aY, .ref aP, .ref aGk, .ref aGh, .ref aGf, .ref aGl, .ref aGn, .int ngr, .ref aGv, .int 0, .long gsum])), (aY, .inr (3, [.ref aS, .ref aW, .ref aF, .ref aK, .ref aN])), (aF, .inr (2, [.int fbase, .ref aFs, .int fcnt])), (aFs, .inl (cI, 201, .inl fsts)), (aS, .inr (0, [.ref aB])), (aB, .inl (cB, 202000, .inl (by_ b))), (aP, .inr (5, [.ref aS, .ref aV, .ref aPs, .ref aPe, .ref aPi, .ref aPh, .int pcnt, .int (b2i pfix), .int pown, .ref aPl, .ref aPn, .int plc, .int psr, .int pbs, .int (b2i pms)])), (aV, .inr (1, [.ref aS, .int vplace_1, .int vlimit_1, .int (b2i vfull_1)])), (aPs, .inl (cI, 8, .inl pst)), (aPe, .inl (cI, 8, .inl pen)), (aPi, .inl (cI, 8, .inl pix)), (aGf, .inl (cI, 200, .inl gfi)), (aGn, .inl (cI, 200, .inl gnx)), (aGv, .inl (cI, 200, .inl gvl))] H := hP.sub [0, 1, 2, 3, 4, 5, 12, 13, 6, 7, 8, 9, 10, 11] rfl
  have hD : va_D A [(aU, .inr (7, [.ref aS, .ref aY, .ref aP, .ref aGk, .ref aGh, .ref aGf, .ref aGl, .ref aGn, .int ngr, .ref aGv, .int 0, .long gsum])), (aY, .inr (3, [.ref aS, .ref aW, .ref aF, .ref aK, .ref aN])), (aF, .inr (2, [.int fbase, .ref aFs, .int fcnt])), (aFs, .inl (cI, 201, .inl fsts)), (aS, .inr (0, [.ref aB])), (aB, .inl (cB, 202000, .inl (by_ b))), (aP, .inr (5, [.ref aS, .ref aV, .ref aPs, .ref aPe, .ref aPi, .ref aPh, .int pcnt, .int (b2i pfix), .int pown, .ref aPl, .ref aPn, .int plc, .int psr, .int pbs, .int (b2i pms)])), (aV, .inr (1, [.ref aS, .int vplace_1, .int vlimit_1, .int (b2i vfull_1)])), (aPs, .inl (cI, 8, .inl pst)), (aPe, .inl (cI, 8, .inl pen)), (aPi, .inl (cI, 8, .inl pix)), (aGf, .inl (cI, 200, .inl gfi)), (aGn, .inl (cI, 200, .inl gnx)), (aGv, .inl (cI, 200, .inl gvl))] := hD.sub [0, 1, 2, 3, 4, 5, 12, 13, 6, 7, 8, 9, 10, 11] (by decide) rfl
  refine lv_aload_n hx hb d_GR_collect_14 rfl (lv_at hl 0 rfl) ?_
  refine va_get (D := D) (ci := 7) (v := .ref aP) (C := R_GR) (T := T_GR) (N := 12) hx hb hT u_GR hown hK hP 0 rfl rfl 2 (by decide) (hT _ k_214) (fun _ h9 => h9) rfl d_GR_collect_15 ?_
  refine lv_aload_n hx hb d_GR_collect_18 rfl (lv_at hl 0 rfl) ?_
  refine lv_iload_n hx hb d_GR_collect_19 rfl (lv_at hl 1 rfl) ?_
  refine rd_V (val := tw_GR_toldBy b p0) (As := [.int p0]) (rest := [.ref aP]) ⟨hx, hb, hml, hown, hT⟩ (c_GR_toldBy l D cB cI aU aS aY aP aGk aGh aGf aGl aGn aGv aB ngr 0 gsum b p0) (cwV 1 hT (gV_of k_728 k_730 kp_GR_toldBy k_9 kc_GR_toldBy) rfl rfl rfl hd_GR_toldBy ⟨Nat.le_of_ble_eq_true rfl, Nat.le_of_ble_eq_true rfl⟩) hk (hP.sub (ws' := [(aU, .inr (7, [.ref aS, .ref aY, .ref aP, .ref aGk, .ref aGh, .ref aGf, .ref aGl, .ref aGn, .int ngr, .ref aGv, .int 0, .long gsum])), (aS, .inr (0, [.ref aB])), (aB, .inl (cB, 202000, .inl (by_ b)))]) [0, 4, 5] rfl) (q0 := 0) rfl rfl rfl rfl hl.1 rfl (Nat.le_of_ble_eq_true rfl) d_GR_collect_20 ⟨Nat.zero_le _, Nat.zero_le _⟩ ?_
  refine mt_Vi (As := [.int (tw_GR_toldBy b p0)]) (rest := []) (wr := [(aU, .inr (7, [.ref aS, .ref aY, .ref aP, .ref aGk, .ref aGh, .ref aGf, .ref aGl, .ref aGn, .int ngr, .ref aGv, .int 0, .long gsum])), (aY, .inr (3, [.ref aS, .ref aW, .ref aF, .ref aK, .ref aN])), (aF, .inr (2, [.int fbase, .ref aFs, .int fcnt])), (aFs, .inl (cI, 201, .inl fsts)), (aV, .inr (1, [.ref aS, .int vplace_1, .int vlimit_1, .int (b2i vfull_1)])), (aGf, .inl (cI, 200, .inl gfi)), (aGn, .inl (cI, 200, .inl gnx)), (aGv, .inl (cI, 200, .inl gvl))]) ⟨hx, hb, hml, hown, hT⟩ (c_PA_readExpression l D cB cI aP aS aV aPs aPe aPi aPh aPl aPn aB plc psr pbs pms b _ pcnt pfix pown pst pen pix (tw_GR_toldBy b p0)) (cwV 1 hT (gV_of k_722 k_566 k_567 k_7 kc_PA_readExpression) rfl rfl rfl hd_PA_readExpression ⟨Nat.le_of_ble_eq_true rfl, Nat.le_of_ble_eq_true rfl⟩) hk hP hD hS hA [6, 4, 5, 8, 9, 10] [0, 1, 2, 3, 7, 11, 12, 13] rfl rfl rfl (by decide) (by decide) (by decide) (q0 := 0) rfl rfl rfl rfl hl.1 rfl (Nat.le_of_ble_eq_true rfl) d_GR_collect_23 ⟨Nat.zero_le _, Nat.zero_le _⟩ (fun r_2 u_2 H locs hw_2 hP hD hS => ?_)
  obtain ⟨pcnt_2, pfix_2, pown_2, pst_2, pen_2, pix_2⟩ := u_2
  obtain ⟨r_2, rfl, hw_2⟩ := hw_2
  have hP : va_P D vwCl [(aU, .inr (7, [.ref aS, .ref aY, .ref aP, .ref aGk, .ref aGh, .ref aGf, .ref aGl, .ref aGn, .int ngr, .ref aGv, .int 0, .long gsum])), (aY, .inr (3, [.ref aS, .ref aW, .ref aF, .ref aK, .ref aN])), (aF, .inr (2, [.int fbase, .ref aFs, .int fcnt])), (aFs, .inl (cI, 201, .inl fsts)), (aS, .inr (0, [.ref aB])), (aB, .inl (cB, 202000, .inl (by_ b))), (aP, .inr (5, [.ref aS, .ref aV, .ref aPs, .ref aPe, .ref aPi, .ref aPh, .int pcnt_2, .int (b2i pfix_2), .int pown_2, .ref aPl, .ref aPn, .int plc, .int psr, .int pbs, .int (b2i pms)])), (aV, .inr (1, [.ref aS, .int vplace_1, .int vlimit_1, .int (b2i vfull_1)])), (aPs, .inl (cI, 8, .inl pst_2)), (aPe, .inl (cI, 8, .inl pen_2)), (aPi, .inl (cI, 8, .inl pix_2)), (aGf, .inl (cI, 200, .inl gfi)), (aGn, .inl (cI, 200, .inl gnx)), (aGv, .inl (cI, 200, .inl gvl))] H := hP.sub [0, 1, 2, 3, 9, 10, 8, 4, 11, 12, 13, 5, 6, 7] rfl
  have hD : va_D A [(aU, .inr (7, [.ref aS, .ref aY, .ref aP, .ref aGk, .ref aGh, .ref aGf, .ref aGl, .ref aGn, .int ngr, .ref aGv, .int 0, .long gsum])), (aY, .inr (3, [.ref aS, .ref aW, .ref aF, .ref aK, .ref aN])), (aF, .inr (2, [.int fbase, .ref aFs, .int fcnt])), (aFs, .inl (cI, 201, .inl fsts)), (aS, .inr (0, [.ref aB])), (aB, .inl (cB, 202000, .inl (by_ b))), (aP, .inr (5, [.ref aS, .ref aV, .ref aPs, .ref aPe, .ref aPi, .ref aPh, .int pcnt_2, .int (b2i pfix_2), .int pown_2, .ref aPl, .ref aPn, .int plc, .int psr, .int pbs, .int (b2i pms)])), (aV, .inr (1, [.ref aS, .int vplace_1, .int vlimit_1, .int (b2i vfull_1)])), (aPs, .inl (cI, 8, .inl pst_2)), (aPe, .inl (cI, 8, .inl pen_2)), (aPi, .inl (cI, 8, .inl pix_2)), (aGf, .inl (cI, 200, .inl gfi)), (aGn, .inl (cI, 200, .inl gnx)), (aGv, .inl (cI, 200, .inl gvl))] := hD.sub [0, 1, 2, 3, 9, 10, 8, 4, 11, 12, 13, 5, 6, 7] (by decide) rfl
  refine lv_if_ne (tgt := 30) hx hb d_GR_collect_26 (by decide) (fun c_3 => ?_) (fun c_3 => ?_)
  · refine lv_aload_n hx hb d_GR_collect_30 rfl (lv_at hl 0 rfl) ?_
    refine va_get (D := D) (ci := 7) (v := .ref aGf) (C := R_GR) (T := T_GR) (N := 12) hx hb hT u_GR hown hK hP 0 rfl rfl 5 (by decide) (hT _ k_217) (fun _ h9 => h9) rfl d_GR_collect_31 ?_
    refine lv_iload_n hx hb d_GR_collect_34 rfl (lv_at hl 2 rfl) ?_
    refine va_iald hx hb hK hP 11 1 rfl rfl (in_g2 hg) d_GR_collect_35 ?_
    refine lv_istore_n (lv' := [(3, .int (gfi p1.toNatClampNeg)), (0, .ref aU), (1, .int p0), (2, .int p1)]) hx hb d_GR_collect_36 rfl hl (by decide) rfl (fun ls hl => ?_)
    refine lv_iconst (v := 0) hx hb d_GR_collect_37 (by decide) ?_
    refine lv_istore (lv' := [(4, .int 0), (3, .int (gfi p1.toNatClampNeg)), (0, .ref aU), (1, .int p0), (2, .int p1)]) hx hb d_GR_collect_38 hl (by decide) rfl (fun ls hl => ?_)
    exact l_GR_collect_h40 C0 l D cB cI aU aS aY aP aGk aGh aGf aGl aGn aGv aW aF aK aN aFs aB aV aPs aPe aPi aPh aPl aPn fbase ngr gsum fcnt fsts plc psr pbs pms gfi gnx hk hA   ((((200 : Int32).toInt - (0 : Int32).toInt).toNat) + 1) (gfi p1.toNatClampNeg) 0 0 b pcnt_2 pfix_2 pown_2 vplace_1 vlimit_1 vfull_1 pst_2 pen_2 pix_2 gvl (Nat.lt_succ_self _) (hi_1) (by decide) (by decide) (rfl) (h_0) (by rw [tw_GR_collect, ← hw_1, tp3_mk, ← hw_2, tp7_mk, if_neg c_3]) _ _ hP hD hS ls (lv_sub hl [2, 1, 0] rfl)
  · exact W.vret hx hb hr (fun t ht hW => ⟨⟨(0, b, pcnt_2, pfix_2, pown_2, vplace_1, vlimit_1, vfull_1, pst_2, pen_2, pix_2, gvl), rfl, ⟨(by rw [tw_GR_collect, ← hw_1, tp3_mk, ← hw_2, tp7_mk, if_pos c_3]; first | done | rfl), h_0⟩, by rw [ht]; exact hP, hD⟩, hS.F ht⟩) hS.2.2 d_GR_collect_29
abbrev wd_GR_addUp (aU aS aY aP aGk aGh aGf aGl aGn aGv aB : Nat) (cB cI : ClassId) (ngr : Int32) (held : Int32) (b : Nat → UInt8) (gvl : Nat → Int32) (gsum : Int64) : va_W := [(aU, .inr (7, [.ref aS, .ref aY, .ref aP, .ref aGk, .ref aGh, .ref aGf, .ref aGl, .ref aGn, .int ngr, .ref aGv, .int held, .long gsum])), (aS, .inr (0, [.ref aB])), (aB, .inl (cB, 202000, .inl (by_ b))), (aGv, .inl (cI, 200, .inl gvl))]
set_option maxHeartbeats 4000000 in
set_option maxRecDepth 100000 in
theorem l_GR_addUp_h7 {p : Program} {e : Env} {s : State} {m : MethodId} {args : Array Value} {below : List Frame} {meth : Method} {c : Code} {V : Bool × Int64} (C0 : lc_C p s m meth c args b_GR_addUp 8 (some .boolean) R_GR lw_g) (l : Launch) (D : va_G) (cB cI : ClassId) (aU aS aY aP aGk aGh aGf aGl aGn aGv aB : Nat) (ngr : Int32) (held : Int32) (b : Nat → UInt8) (gvl : Nat → Int32) {A : Nat → Prop} (hk : hk_ D cB cI s) (hA : ∀ q : Nat, s.heap.size ≤ q → A q)  (hh : h_ok held) : ∀ (n : Nat) (x1 : Int64) (x3 : Int64) (x5 : Int32) (gsum : Int64), (held.toInt - x5.toInt).toNat < n → ¬ x5 < 0 → V = tw_GR_addUp_h7 held b gvl n x1 x3 x5 gsum → ∀ (H : Heap) (locs : List Loc), va_P D vwCl [(aU, .inr (7, [.ref aS, .ref aY, .ref aP, .ref aGk, .ref aGh, .ref aGf, .ref aGl, .ref aGn, .int ngr, .ref aGv, .int held, .long gsum])), (aS, .inr (0, [.ref aB])), (aB, .inl (cB, 202000, .inl (by_ b))), (aGv, .inl (cI, 200, .inl gvl))] H → va_D A [(aU, .inr (7, [.ref aS, .ref aY, .ref aP, .ref aGk, .ref aGh, .ref aGf, .ref aGl, .ref aGn, .int ngr, .ref aGv, .int held, .long gsum])), (aS, .inr (0, [.ref aB])), (aB, .inl (cB, 202000, .inl (by_ b))), (aGv, .inl (cI, 200, .inl gvl))] → va_S A s.heap H locs → ∀ ls : Array Slot, lv_has ls 8 [(0, .ref aU), (1, .long x1), (3, .long x3), (5, .int x5)] → W p l e ({ frames := 2, cells := 0, slots := 0, locals := 45 }) s m args below meth c H locs 0 0 (MQ below (va_Qi (fun (r : Int32) (u : Int64) => ∃ z9 : Bool, r = b2i z9 ∧ (z9, u) = V) (mt_B D A (fun u => wd_GR_addUp aU aS aY aP aGk aGh aGf aGl aGn aGv aB cB cI ngr held b gvl u)) A) args s 0 0 A) (F0 m 7 ls []) := by
  obtain ⟨hx, hb, hml, hr, hown, hlocks, hT⟩ := id C0
  have hK := hk.1
  have hN := hk.2.1
  intro n
  induction n with
  | zero =>
    intro x1 x3 x5 gsum hm
    exact absurd hm (Nat.not_lt_zero _)
  | succ n ih =>
    intro x1 x3 x5 gsum hm hv1 hV H locs hP hD hS ls hl
    refine lv_iload hx hb d_GR_addUp_7 (lv_at hl 3 rfl) ?_
    refine lv_aload_n hx hb d_GR_addUp_9 rfl (lv_at hl 0 rfl) ?_
    refine va_get (D := D) (ci := 7) (v := .int held) (C := R_GR) (T := T_GR) (N := 12) hx hb hT u_GR hown hK hP 0 rfl rfl 10 (by decide) (hT _ k_222) (fun _ h9 => h9) rfl d_GR_addUp_10 ?_
    refine lv_icmp_ge (tgt := 69) hx hb d_GR_addUp_13 (by decide) (fun c_1 => ?_) (fun c_1 => ?_)
    · refine lv_lload_n hx hb d_GR_addUp_69 rfl (lv_at hl 1 rfl) ?_
      refine lv_lload_n hx hb d_GR_addUp_70 rfl (lv_at hl 2 rfl) ?_
      refine lv_bipush (v := 32) hx hb d_GR_addUp_71 (by decide) ?_
      refine lv_lshr hx hb d_GR_addUp_73 rfl ?_
      refine lv_ladd hx hb d_GR_addUp_74 ?_
      refine lv_lstore_n (lv' := [(1, .long (x1 + (x3 >>> ((32 : Int32).toInt64 &&& 63)))), (0, .ref aU), (3, .long x3), (5, .int x5)]) hx hb d_GR_addUp_75 rfl hl (by decide) rfl (fun ls hl => ?_)
      refine lv_aload_n hx hb d_GR_addUp_76 rfl (lv_at hl 1 rfl) ?_
      refine lv_lload_n hx hb d_GR_addUp_77 rfl (lv_at hl 0 rfl) ?_
      refine lv_bipush (v := 32) hx hb d_GR_addUp_78 (by decide) ?_
      refine lv_lshl hx hb d_GR_addUp_80 rfl ?_
      refine lv_lload_n hx hb d_GR_addUp_81 rfl (lv_at hl 2 rfl) ?_
      refine lv_ldc2 (v := 4294967295) hx hb hown (hT _ k_814) d_GR_addUp_82 ?_
      refine lv_land hx hb d_GR_addUp_85 ?_
      refine lv_lor hx hb d_GR_addUp_86 ?_
      refine va_put (D := D) (ci := 7) (v := .long (((x1 + (x3 >>> ((32 : Int32).toInt64 &&& 63))) <<< ((32 : Int32).toInt64 &&& 63)) ||| (x3 &&& 4294967295))) (ty := .long) (C := R_GR) (T := T_GR) (N := 12) hx hb hT u_GR ty_GR tyok_GR nm_GR hown hK hP hD hS 0 rfl rfl 11 (by decide) (hT _ k_223) (fun _ h9 => h9) rfl (by decide +kernel) (rfl) (rfl) (Nat.le_of_ble_eq_true rfl) d_GR_addUp_87 (fun H locs hP hD hS => ?_)
      have hP : va_P D vwCl [(aU, .inr (7, [.ref aS, .ref aY, .ref aP, .ref aGk, .ref aGh, .ref aGf, .ref aGl, .ref aGn, .int ngr, .ref aGv, .int held, .long (((x1 + (x3 >>> ((32 : Int32).toInt64 &&& 63))) <<< ((32 : Int32).toInt64 &&& 63)) ||| (x3 &&& 4294967295))])), (aS, .inr (0, [.ref aB])), (aB, .inl (cB, 202000, .inl (by_ b))), (aGv, .inl (cI, 200, .inl gvl))] H := hP
      have hD : va_D A [(aU, .inr (7, [.ref aS, .ref aY, .ref aP, .ref aGk, .ref aGh, .ref aGf, .ref aGl, .ref aGn, .int ngr, .ref aGv, .int held, .long (((x1 + (x3 >>> ((32 : Int32).toInt64 &&& 63))) <<< ((32 : Int32).toInt64 &&& 63)) ||| (x3 &&& 4294967295))])), (aS, .inr (0, [.ref aB])), (aB, .inl (cB, 202000, .inl (by_ b))), (aGv, .inl (cI, 200, .inl gvl))] := hD
      refine lv_aload_n hx hb d_GR_addUp_90 rfl (lv_at hl 1 rfl) ?_
      refine va_get (D := D) (ci := 7) (v := .long (((x1 + (x3 >>> ((32 : Int32).toInt64 &&& 63))) <<< ((32 : Int32).toInt64 &&& 63)) ||| (x3 &&& 4294967295))) (C := R_GR) (T := T_GR) (N := 12) hx hb hT u_GR hown hK hP 0 rfl rfl 11 (by decide) (hT _ k_223) (fun _ h9 => h9) rfl d_GR_addUp_91 ?_
      refine lv_bipush (v := 32) hx hb d_GR_addUp_94 (by decide) ?_
      refine lv_lshr hx hb d_GR_addUp_96 rfl ?_
      refine lv_lload_n hx hb d_GR_addUp_97 rfl (lv_at hl 0 rfl) ?_
      refine W.lcmp hx hb d_GR_addUp_98 ?_
      refine lv_if_ne (tgt := 106) hx hb d_GR_addUp_99 (by decide) (fun c_2 => ?_) (fun c_2 => ?_)
      · refine lv_iconst (v := 0) hx hb d_GR_addUp_106 (by decide) ?_
        exact W.zret (v := 0) (ty := .boolean) hx hb hr (rfl) (fun t ht hW => ⟨⟨0, ((x1 + (x3 >>> ((32 : Int32).toInt64 &&& 63))) <<< ((32 : Int32).toInt64 &&& 63)) ||| (x3 &&& 4294967295), rfl, ⟨false, rfl, (by rw [hV, tw_GR_addUp_h7, if_pos c_1, if_neg c_2]; first | done | rfl)⟩, by rw [ht]; exact hP, hD⟩, hS.F ht⟩) hS.2.2 d_GR_addUp_107
      · refine lv_iconst (v := 1) hx hb d_GR_addUp_102 (by decide) ?_
        refine lv_goto (tgt := 107) hx hb d_GR_addUp_103 (by decide) ?_
        exact W.zret (v := 1) (ty := .boolean) hx hb hr (rfl) (fun t ht hW => ⟨⟨1, ((x1 + (x3 >>> ((32 : Int32).toInt64 &&& 63))) <<< ((32 : Int32).toInt64 &&& 63)) ||| (x3 &&& 4294967295), rfl, ⟨true, rfl, (by rw [hV, tw_GR_addUp_h7, if_pos c_1, if_pos c_2]; first | done | rfl)⟩, by rw [ht]; exact hP, hD⟩, hS.F ht⟩) hS.2.2 d_GR_addUp_107
    · refine lv_aload_n hx hb d_GR_addUp_16 rfl (lv_at hl 0 rfl) ?_
      refine va_get (D := D) (ci := 7) (v := .ref aGv) (C := R_GR) (T := T_GR) (N := 12) hx hb hT u_GR hown hK hP 0 rfl rfl 9 (by decide) (hT _ k_221) (fun _ h9 => h9) rfl d_GR_addUp_17 ?_
      refine lv_iload hx hb d_GR_addUp_20 (lv_at hl 3 rfl) ?_
      refine va_iald hx hb hK hP 3 1 rfl rfl (in_hh hv1 c_1 hh) d_GR_addUp_22 ?_
      refine rd_S (val := tw_ST_classOf (gvl x5.toNatClampNeg)) (As := [.int (gvl x5.toNatClampNeg)]) (rest := []) ⟨hx, hb, hml, hown, hT⟩ (c_ST_classOf l D cB cI (gvl x5.toNatClampNeg)) (va_cwS 1 hT (gS_of k_812 k_780 k_2 kc_ST_classOf) rfl rfl rfl hd_ST_classOf ⟨Nat.le_of_ble_eq_true rfl, Nat.le_of_ble_eq_true rfl⟩) hk (va_P_nil) rfl hl.1 rfl (Nat.le_of_ble_eq_true rfl) d_GR_addUp_23 ⟨Nat.zero_le _, Nat.zero_le _⟩ ?_
      refine lv_iconst (v := 2) hx hb d_GR_addUp_26 (by decide) ?_
      refine lv_icmp_ne (tgt := 63) hx hb d_GR_addUp_27 (by decide) (fun c_3 => ?_) (fun c_3 => ?_)
      · refine lv_iinc (v := x5 + 1) (lv' := [(5, .int (x5 + 1)), (0, .ref aU), (1, .long x1), (3, .long x3)]) hx hb d_GR_addUp_63 hl (k := 3) rfl rfl (by decide) rfl (fun ls hl => ?_)
        refine lv_goto (tgt := 7) hx hb d_GR_addUp_66 (by decide) ?_
        exact ih x1 x3 (x5 + 1) gsum (lp_up hm c_1) (i_upn hv1 c_1) (by rw [hV, tw_GR_addUp_h7, if_neg c_1, if_neg c_3]) _ _ hP hD hS ls (lv_sub hl [1, 2, 3, 0] rfl)
      · refine lv_aload_n hx hb d_GR_addUp_30 rfl (lv_at hl 0 rfl) ?_
        refine va_get (D := D) (ci := 7) (v := .ref aS) (C := R_GR) (T := T_GR) (N := 12) hx hb hT u_GR hown hK hP 0 rfl rfl 0 (by decide) (hT _ k_212) (fun _ h9 => h9) rfl d_GR_addUp_31 ?_
        refine lv_aload_n hx hb d_GR_addUp_34 rfl (lv_at hl 0 rfl) ?_
        refine va_get (D := D) (ci := 7) (v := .ref aGv) (C := R_GR) (T := T_GR) (N := 12) hx hb hT u_GR hown hK hP 0 rfl rfl 9 (by decide) (hT _ k_221) (fun _ h9 => h9) rfl d_GR_addUp_35 ?_
        refine lv_iload hx hb d_GR_addUp_38 (lv_at hl 3 rfl) ?_
        refine va_iald hx hb hK hP 3 1 rfl rfl (in_hh hv1 c_1 hh) d_GR_addUp_40 ?_
        refine rd_Vl (val := tw_ST_number b (gvl x5.toNatClampNeg)) (As := [.int (gvl x5.toNatClampNeg)]) (rest := []) ⟨hx, hb, hml, hown, hT⟩ (c_ST_number l D cB cI aS aB b (gvl x5.toNatClampNeg)) (cwV 1 hT (gV_of k_813 k_761 k_762 k_2 kc_ST_number) rfl rfl rfl hd_ST_number ⟨Nat.le_of_ble_eq_true rfl, Nat.le_of_ble_eq_true rfl⟩) hk (hP.sub (ws' := [(aS, .inr (0, [.ref aB])), (aB, .inl (cB, 202000, .inl (by_ b)))]) [1, 2] rfl) (q0 := 0) rfl rfl rfl rfl hl.1 rfl (Nat.le_of_ble_eq_true rfl) d_GR_addUp_41 ⟨Nat.zero_le _, Nat.zero_le _⟩ ?_
        refine lv_lstore (lv' := [(6, .long (tw_ST_number b (gvl x5.toNatClampNeg))), (0, .ref aU), (1, .long x1), (3, .long x3), (5, .int x5)]) hx hb d_GR_addUp_44 hl (by decide) rfl (fun ls hl => ?_)
        refine lv_lload_n hx hb d_GR_addUp_46 rfl (lv_at hl 2 rfl) ?_
        refine lv_lload hx hb d_GR_addUp_47 (lv_at hl 0 rfl) ?_
        refine lv_bipush (v := 32) hx hb d_GR_addUp_49 (by decide) ?_
        refine lv_lshr hx hb d_GR_addUp_51 rfl ?_
        refine lv_ladd hx hb d_GR_addUp_52 ?_
        refine lv_lstore_n (lv' := [(1, .long (x1 + ((tw_ST_number b (gvl x5.toNatClampNeg)) >>> ((32 : Int32).toInt64 &&& 63)))), (6, .long (tw_ST_number b (gvl x5.toNatClampNeg))), (0, .ref aU), (3, .long x3), (5, .int x5)]) hx hb d_GR_addUp_53 rfl hl (by decide) rfl (fun ls hl => ?_)
        refine lv_lload_n hx hb d_GR_addUp_54 rfl (lv_at hl 3 rfl) ?_
        refine lv_lload hx hb d_GR_addUp_55 (lv_at hl 1 rfl) ?_
        refine lv_ldc2 (v := 4294967295) hx hb hown (hT _ k_814) d_GR_addUp_57 ?_
        refine lv_land hx hb d_GR_addUp_60 ?_
        refine lv_ladd hx hb d_GR_addUp_61 ?_
        refine lv_lstore_n (lv' := [(3, .long (x3 + ((tw_ST_number b (gvl x5.toNatClampNeg)) &&& 4294967295))), (1, .long (x1 + ((tw_ST_number b (gvl x5.toNatClampNeg)) >>> ((32 : Int32).toInt64 &&& 63)))), (6, .long (tw_ST_number b (gvl x5.toNatClampNeg))), (0, .ref aU), (5, .int x5)]) hx hb d_GR_addUp_62 rfl hl (by decide) rfl (fun ls hl => ?_)
        refine lv_iinc (v := x5 + 1) (lv' := [(5, .int (x5 + 1)), (3, .long (x3 + ((tw_ST_number b (gvl x5.toNatClampNeg)) &&& 4294967295))), (1, .long (x1 + ((tw_ST_number b (gvl x5.toNatClampNeg)) >>> ((32 : Int32).toInt64 &&& 63)))), (6, .long (tw_ST_number b (gvl x5.toNatClampNeg))), (0, .ref aU)]) hx hb d_GR_addUp_63 hl (k := 4) rfl rfl (by decide) rfl (fun ls hl => ?_)
        refine lv_goto (tgt := 7) hx hb d_GR_addUp_66 (by decide) ?_
        exact ih (x1 + ((tw_ST_number b (gvl x5.toNatClampNeg)) >>> ((32 : Int32).toInt64 &&& 63))) (x3 + ((tw_ST_number b (gvl x5.toNatClampNeg)) &&& 4294967295)) (x5 + 1) gsum (lp_up hm c_1) (i_upn hv1 c_1) (by rw [hV, tw_GR_addUp_h7, if_neg c_1, if_pos c_3]) _ _ hP hD hS ls (lv_sub hl [4, 2, 1, 0] rfl)
set_option maxHeartbeats 4000000 in
set_option maxRecDepth 100000 in
theorem c_GR_addUp (l : Launch) (D : va_G) (cB cI : ClassId) (aU aS aY aP aGk aGh aGf aGl aGn aGv aB : Nat) (ngr : Int32) (held : Int32) (b : Nat → UInt8) (gvl : Nat → Int32) (sz : Nat) (gsum : Int64) (hh : h_ok held) : Met l y_GR_addUp mw_GR_addUp { frames := 2, cells := 0, slots := 0, locals := 45 } (va_Pc [.ref aU] (mt_P D cB cI (wd_GR_addUp aU aS aY aP aGk aGh aGf aGl aGn aGv aB cB cI ngr held b gvl gsum) sz)) (va_Qi (fun (r : Int32) (u : Int64) => ∃ z9 : Bool, r = b2i z9 ∧ (z9, u) = tw_GR_addUp held b gvl gsum) (mt_B D (va_A (wd_GR_addUp aU aS aY aP aGk aGh aGf aGl aGn aGv aB cB cI ngr held b gvl gsum) sz) (fun u => wd_GR_addUp aU aS aY aP aGk aGh aGf aGl aGn aGv aB cB cI ngr held b gvl u)) (va_A (wd_GR_addUp aU aS aY aP aGk aGh aGf aGl aGn aGv aB cB cI ngr held b gvl gsum) sz)) 0 0 (va_A (wd_GR_addUp aU aS aY aP aGk aGh aGf aGl aGn aGv aB cB cI ngr held b gvl gsum) sz) := by
  refine Met.ofW (cc := b_GR_addUp) (maxL := 8) (ret := (some .boolean)) (by decide) rfl ?_
  intro p e s m args below meth c s₁ B0 hml hv
  obtain ⟨rfl, hsz, hP, hk, hD0⟩ := hv
  have hK := hk.1
  have hN := hk.2.1
  have hx := B0.exec
  have hb := B0.bytes
  have hr := B0.returns
  have hT : ∀ w ∈ lw_g, w.before _ s = true := fun w h => atoms_spec (ws := mw_GR_addUp) B0.pre w (List.mem_cons_of_mem _ h)
  have hown : s.vm.findClass R_GR = some m.cls := findClass_of_methodNamed B0.named
  have hlocks := B0.notSynchronized
  subst hsz
  have hD := hD0.self (sz := s.heap.size)
  generalize hAe : va_A [(aU, .inr (7, [.ref aS, .ref aY, .ref aP, .ref aGk, .ref aGh, .ref aGf, .ref aGl, .ref aGn, .int ngr, .ref aGv, .int held, .long gsum])), (aS, .inr (0, [.ref aB])), (aB, .inl (cB, 202000, .inl (by_ b))), (aGv, .inl (cI, 200, .inl gvl))] s.heap.size = A at hD ⊢
  have hA : ∀ q : Nat, s.heap.size ≤ q → A q := fun q h => by rw [← hAe]; exact Or.inr h
  have hS : va_S A s.heap s.heap [] := va_S.rf
  have hl := lv_entry ([.ref aU]) (n := 8) (Nat.le_of_ble_eq_true rfl)
  rw [lg_entry_eq]
  generalize (lg_sl ([.ref aU]) ++ List.replicate (8 - (lg_sl ([.ref aU])).length) Slot.unset).toArray = ls at hl ⊢
  have hl : lv_has ls 8 [(0, .ref aU)] := hl
  have C0 : lc_C p s m meth c _ b_GR_addUp 8 (some .boolean) R_GR lw_g := ⟨hx, hb, hml, hr, hown, hlocks, hT⟩
  refine lv_lconst (v := 0) hx hb d_GR_addUp_0 (by decide) ?_
  refine lv_lstore_n (lv' := [(1, .long 0), (0, .ref aU)]) hx hb d_GR_addUp_1 rfl hl (by decide) rfl (fun ls hl => ?_)
  refine lv_lconst (v := 0) hx hb d_GR_addUp_2 (by decide) ?_
  refine lv_lstore_n (lv' := [(3, .long 0), (1, .long 0), (0, .ref aU)]) hx hb d_GR_addUp_3 rfl hl (by decide) rfl (fun ls hl => ?_)
  refine lv_iconst (v := 0) hx hb d_GR_addUp_4 (by decide) ?_
  refine lv_istore (lv' := [(5, .int 0), (3, .long 0), (1, .long 0), (0, .ref aU)]) hx hb d_GR_addUp_5 hl (by decide) rfl (fun ls hl => ?_)
  exact l_GR_addUp_h7 C0 l D cB cI aU aS aY aP aGk aGh aGf aGl aGn aGv aB ngr held b gvl hk hA  hh (((held.toInt - (0 : Int32).toInt).toNat) + 1) 0 0 0 gsum (Nat.lt_succ_self _) (by decide) (by rw [tw_GR_addUp]) _ _ hP hD hS ls (lv_sub hl [3, 2, 1, 0] rfl)
set_option maxHeartbeats 4000000 in
set_option maxRecDepth 100000 in
theorem c_GR_outermost (l : Launch) (D : va_G) (cB cI : ClassId) (aU aS aY aP aGk aGh aGf aGl aGn aGv : Nat) (ngr : Int32) (held : Int32) (gsum : Int64) (gvl : Nat → Int32) (p0 : Int32) : Met l y_GR_outermost mw_GR_outermost { frames := 0, cells := 0, slots := 0, locals := 0 } (va_Pc [.ref aU, .int p0] (fun U => va_P D vwCl [(aU, .inr (7, [.ref aS, .ref aY, .ref aP, .ref aGk, .ref aGh, .ref aGf, .ref aGl, .ref aGn, .int ngr, .ref aGv, .int held, .long gsum])), (aGv, .inl (cI, 200, .inl gvl))] U.heap ∧ hk_ D cB cI U)) (vp_Si (fun r => r = tw_GR_outermost held gvl p0)) 0 0 (fun _ => False) := by
  refine Met.ofW (cc := b_GR_outermost) (maxL := 3) (ret := (some .int)) (by decide) rfl ?_
  intro p e s m args below meth c s₁ B0 hml hv
  obtain ⟨rfl, hP, hk⟩ := hv
  have hK := hk.1
  have hN := hk.2.1
  have hx := B0.exec
  have hb := B0.bytes
  have hr := B0.returns
  have hT : ∀ w ∈ lw_g, w.before _ s = true := fun w h => atoms_spec (ws := mw_GR_outermost) B0.pre w (List.mem_cons_of_mem _ h)
  have hown : s.vm.findClass R_GR = some m.cls := findClass_of_methodNamed B0.named
  have hlocks := B0.notSynchronized
  have hl := lv_entry ([.ref aU, .int p0]) (n := 3) (Nat.le_of_ble_eq_true rfl)
  rw [lg_entry_eq]
  generalize (lg_sl ([.ref aU, .int p0]) ++ List.replicate (3 - (lg_sl ([.ref aU, .int p0])).length) Slot.unset).toArray = ls at hl ⊢
  have hl : lv_has ls 3 [(0, .ref aU), (1, .int p0)] := hl
  refine lv_iload_n hx hb d_GR_outermost_0 rfl (lv_at hl 1 rfl) ?_
  refine lv_if_eq (tgt := 13) hx hb d_GR_outermost_1 (by decide) (fun c_1 => ?_) (fun c_1 => ?_)
  · refine lv_iconst (v := 0) hx hb d_GR_outermost_13 (by decide) ?_
    refine lv_istore_n (lv' := [(2, .int 0), (0, .ref aU), (1, .int p0)]) hx hb d_GR_outermost_14 rfl hl (by decide) rfl (fun ls hl => ?_)
    refine lv_iload_n hx hb d_GR_outermost_15 rfl (lv_at hl 0 rfl) ?_
    refine lv_if_lt (tgt := 43) hx hb d_GR_outermost_16 (by decide) (fun c_2 => ?_) (fun c_2 => ?_)
    · exact absurd c_2 (by decide)
    · refine lv_iload_n hx hb d_GR_outermost_19 rfl (lv_at hl 0 rfl) ?_
      refine lv_aload_n hx hb d_GR_outermost_20 rfl (lv_at hl 1 rfl) ?_
      refine va_get (D := D) (ci := 7) (v := .int held) (C := R_GR) (T := T_GR) (N := 12) hx hb hT u_GR hown hK hP 0 rfl rfl 10 (by decide) (hT _ k_222) (fun _ h9 => h9) rfl d_GR_outermost_21 ?_
      refine lv_icmp_ge (tgt := 43) hx hb d_GR_outermost_24 (by decide) (fun c_3 => ?_) (fun c_3 => ?_)
      · refine lv_iconst (v := 0) hx hb d_GR_outermost_43 (by decide) ?_
        exact W.iret (v := 0) hx hb hr (fun t ht hW => ⟨0, rfl, (by rw [tw_GR_outermost, if_pos c_1, if_pos c_3]; first | done | rfl), ht⟩) (fun _ h => by cases h) d_GR_outermost_44
      · refine lv_iload_n hx hb d_GR_outermost_27 rfl (lv_at hl 0 rfl) ?_
        refine lv_sipush (v := 200) hx hb d_GR_outermost_28 (by decide) ?_
        refine lv_icmp_ge (tgt := 43) hx hb d_GR_outermost_31 (by decide) (fun c_4 => ?_) (fun c_4 => ?_)
        · exact absurd c_4 (by decide)
        · refine lv_aload_n hx hb d_GR_outermost_34 rfl (lv_at hl 1 rfl) ?_
          refine va_get (D := D) (ci := 7) (v := .ref aGv) (C := R_GR) (T := T_GR) (N := 12) hx hb hT u_GR hown hK hP 0 rfl rfl 9 (by decide) (hT _ k_221) (fun _ h9 => h9) rfl d_GR_outermost_35 ?_
          refine lv_iload_n hx hb d_GR_outermost_38 rfl (lv_at hl 0 rfl) ?_
          refine va_iald hx hb hK hP 1 1 rfl rfl (by unfold vp_in; decide) d_GR_outermost_39 ?_
          refine lv_goto (tgt := 44) hx hb d_GR_outermost_40 (by decide) ?_
          exact W.iret (v := gvl (0 : Int32).toNatClampNeg) hx hb hr (fun t ht hW => ⟨gvl (0 : Int32).toNatClampNeg, rfl, (by rw [tw_GR_outermost, if_pos c_1, if_neg c_3]; first | done | rfl), ht⟩) (fun _ h => by cases h) d_GR_outermost_44
  · refine lv_aload_n hx hb d_GR_outermost_4 rfl (lv_at hl 0 rfl) ?_
    refine va_get (D := D) (ci := 7) (v := .int held) (C := R_GR) (T := T_GR) (N := 12) hx hb hT u_GR hown hK hP 0 rfl rfl 10 (by decide) (hT _ k_222) (fun _ h9 => h9) rfl d_GR_outermost_5 ?_
    refine lv_iconst (v := 1) hx hb d_GR_outermost_8 (by decide) ?_
    refine lv_isub hx hb d_GR_outermost_9 ?_
    refine lv_goto (tgt := 14) hx hb d_GR_outermost_10 (by decide) ?_
    refine lv_istore_n (lv' := [(2, .int (held - 1)), (0, .ref aU), (1, .int p0)]) hx hb d_GR_outermost_14 rfl hl (by decide) rfl (fun ls hl => ?_)
    refine lv_iload_n hx hb d_GR_outermost_15 rfl (lv_at hl 0 rfl) ?_
    refine lv_if_lt (tgt := 43) hx hb d_GR_outermost_16 (by decide) (fun c_5 => ?_) (fun c_5 => ?_)
    · refine lv_iconst (v := 0) hx hb d_GR_outermost_43 (by decide) ?_
      exact W.iret (v := 0) hx hb hr (fun t ht hW => ⟨0, rfl, (by rw [tw_GR_outermost, if_neg c_1, if_pos c_5]; first | done | rfl), ht⟩) (fun _ h => by cases h) d_GR_outermost_44
    · refine lv_iload_n hx hb d_GR_outermost_19 rfl (lv_at hl 0 rfl) ?_
      refine lv_aload_n hx hb d_GR_outermost_20 rfl (lv_at hl 1 rfl) ?_
      refine va_get (D := D) (ci := 7) (v := .int held) (C := R_GR) (T := T_GR) (N := 12) hx hb hT u_GR hown hK hP 0 rfl rfl 10 (by decide) (hT _ k_222) (fun _ h9 => h9) rfl d_GR_outermost_21 ?_
      refine lv_icmp_ge (tgt := 43) hx hb d_GR_outermost_24 (by decide) (fun c_6 => ?_) (fun c_6 => ?_)
      · refine lv_iconst (v := 0) hx hb d_GR_outermost_43 (by decide) ?_
        exact W.iret (v := 0) hx hb hr (fun t ht hW => ⟨0, rfl, (by rw [tw_GR_outermost, if_neg c_1, if_neg c_5, if_pos c_6]; first | done | rfl), ht⟩) (fun _ h => by cases h) d_GR_outermost_44
      · refine lv_iload_n hx hb d_GR_outermost_27 rfl (lv_at hl 0 rfl) ?_
        refine lv_sipush (v := 200) hx hb d_GR_outermost_28 (by decide) ?_
        refine lv_icmp_ge (tgt := 43) hx hb d_GR_outermost_31 (by decide) (fun c_7 => ?_) (fun c_7 => ?_)
        · refine lv_iconst (v := 0) hx hb d_GR_outermost_43 (by decide) ?_
          exact W.iret (v := 0) hx hb hr (fun t ht hW => ⟨0, rfl, (by rw [tw_GR_outermost, if_neg c_1, if_neg c_5, if_neg c_6, if_pos c_7]; first | done | rfl), ht⟩) (fun _ h => by cases h) d_GR_outermost_44
        · refine lv_aload_n hx hb d_GR_outermost_34 rfl (lv_at hl 1 rfl) ?_
          refine va_get (D := D) (ci := 7) (v := .ref aGv) (C := R_GR) (T := T_GR) (N := 12) hx hb hT u_GR hown hK hP 0 rfl rfl 9 (by decide) (hT _ k_221) (fun _ h9 => h9) rfl d_GR_outermost_35 ?_
          refine lv_iload_n hx hb d_GR_outermost_38 rfl (lv_at hl 0 rfl) ?_
          refine va_iald hx hb hK hP 1 1 rfl rfl (in_nn c_5 c_7 rfl) d_GR_outermost_39 ?_
          refine lv_goto (tgt := 44) hx hb d_GR_outermost_40 (by decide) ?_
          exact W.iret (v := gvl (held - 1).toNatClampNeg) hx hb hr (fun t ht hW => ⟨gvl (held - 1).toNatClampNeg, rfl, (by rw [tw_GR_outermost, if_neg c_1, if_neg c_5, if_neg c_6, if_neg c_7]; first | done | rfl), ht⟩) (fun _ h => by cases h) d_GR_outermost_44
set_option maxHeartbeats 4000000 in
set_option maxRecDepth 100000 in
theorem l_GR_least_h4 {p : Program} {e : Env} {s : State} {m : MethodId} {args : Array Value} {below : List Frame} {meth : Method} {c : Code} {V : Int32} (C0 : lc_C p s m meth c args b_GR_least 5 (some .int) R_GR lw_g) (l : Launch) (D : va_G) (cB cI : ClassId) (aU aS aY aP aGk aGh aGf aGl aGn aGv aB : Nat) (ngr : Int32) (held : Int32) (gsum : Int64) (b : Nat → UInt8) (gvl : Nat → Int32) (hP : va_P D vwCl [(aU, .inr (7, [.ref aS, .ref aY, .ref aP, .ref aGk, .ref aGh, .ref aGf, .ref aGl, .ref aGn, .int ngr, .ref aGv, .int held, .long gsum])), (aS, .inr (0, [.ref aB])), (aB, .inl (cB, 202000, .inl (by_ b))), (aGv, .inl (cI, 200, .inl gvl))] s.heap) (hk : hk_ D cB cI s) (p0 : Int32) (hh : h_ok held) : ∀ (n : Nat) (x2 : Int32) (x3 : Int32), (held.toInt - x3.toInt).toNat < n → ¬ x3 < 0 → V = tw_GR_least_h4 held b gvl p0 n x2 x3 → ∀ ls : Array Slot, lv_has ls 5 [(0, .ref aU), (1, .int p0), (2, .int x2), (3, .int x3)] → W p l e ({ frames := 416, cells := 0, slots := 0, locals := 9984 }) s m args below meth c s.heap [] 0 0 (MQ below (vp_Si (fun r => r = V)) args s 0 0 (fun _ => False)) (F0 m 4 ls []) := by
  obtain ⟨hx, hb, hml, hr, hown, hlocks, hT⟩ := id C0
  have hK := hk.1
  have hN := hk.2.1
  intro n
  induction n with
  | zero =>
    intro x2 x3 hm
    exact absurd hm (Nat.not_lt_zero _)
  | succ n ih =>
    intro x2 x3 hm hv1 hV ls hl
    refine lv_iload_n hx hb d_GR_least_4 rfl (lv_at hl 3 rfl) ?_
    refine lv_aload_n hx hb d_GR_least_5 rfl (lv_at hl 0 rfl) ?_
    refine va_get (D := D) (ci := 7) (v := .int held) (C := R_GR) (T := T_GR) (N := 12) hx hb hT u_GR hown hK hP 0 rfl rfl 10 (by decide) (hT _ k_222) (fun _ h9 => h9) rfl d_GR_least_6 ?_
    refine lv_icmp_ge (tgt := 54) hx hb d_GR_least_9 (by decide) (fun c_1 => ?_) (fun c_1 => ?_)
    · refine lv_iload_n hx hb d_GR_least_54 rfl (lv_at hl 2 rfl) ?_
      exact W.iret (v := x2) hx hb hr (fun t ht hW => ⟨x2, rfl, (by rw [hV, tw_GR_least_h4, if_pos c_1]; first | done | rfl), ht⟩) (fun _ h => by cases h) d_GR_least_55
    · refine lv_aload_n hx hb d_GR_least_12 rfl (lv_at hl 0 rfl) ?_
      refine va_get (D := D) (ci := 7) (v := .ref aGv) (C := R_GR) (T := T_GR) (N := 12) hx hb hT u_GR hown hK hP 0 rfl rfl 9 (by decide) (hT _ k_221) (fun _ h9 => h9) rfl d_GR_least_13 ?_
      refine lv_iload_n hx hb d_GR_least_16 rfl (lv_at hl 3 rfl) ?_
      refine va_iald hx hb hK hP 3 1 rfl rfl (in_hh hv1 c_1 hh) d_GR_least_17 ?_
      refine lv_istore (lv' := [(4, .int (gvl x3.toNatClampNeg)), (0, .ref aU), (1, .int p0), (2, .int x2), (3, .int x3)]) hx hb d_GR_least_18 hl (by decide) rfl (fun ls hl => ?_)
      refine lv_iload hx hb d_GR_least_20 (lv_at hl 0 rfl) ?_
      refine lv_if_eq (tgt := 48) hx hb d_GR_least_22 (by decide) (fun c_2 => ?_) (fun c_2 => ?_)
      · refine lv_iinc (v := x3 + 1) (lv' := [(3, .int (x3 + 1)), (4, .int (gvl x3.toNatClampNeg)), (0, .ref aU), (1, .int p0), (2, .int x2)]) hx hb d_GR_least_48 hl (k := 4) rfl rfl (by decide) rfl (fun ls hl => ?_)
        refine lv_goto (tgt := 4) hx hb d_GR_least_51 (by decide) ?_
        exact ih x2 (x3 + 1) (lp_up hm c_1) (i_upn hv1 c_1) (by rw [hV, tw_GR_least_h4, if_neg c_1, if_pos c_2]) ls (lv_sub hl [2, 3, 4, 0] rfl)
      · refine lv_iload_n hx hb d_GR_least_25 rfl (lv_at hl 3 rfl) ?_
        refine lv_if_eq (tgt := 45) hx hb d_GR_least_26 (by decide) (fun c_3 => ?_) (fun c_3 => ?_)
        · refine lv_iload hx hb d_GR_least_45 (lv_at hl 0 rfl) ?_
          refine lv_istore_n (lv' := [(2, .int (gvl x3.toNatClampNeg)), (4, .int (gvl x3.toNatClampNeg)), (0, .ref aU), (1, .int p0), (3, .int x3)]) hx hb d_GR_least_47 rfl hl (by decide) rfl (fun ls hl => ?_)
          refine lv_iinc (v := x3 + 1) (lv' := [(3, .int (x3 + 1)), (2, .int (gvl x3.toNatClampNeg)), (4, .int (gvl x3.toNatClampNeg)), (0, .ref aU), (1, .int p0)]) hx hb d_GR_least_48 hl (k := 4) rfl rfl (by decide) rfl (fun ls hl => ?_)
          refine lv_goto (tgt := 4) hx hb d_GR_least_51 (by decide) ?_
          exact ih (gvl x3.toNatClampNeg) (x3 + 1) (lp_up hm c_1) (i_upn hv1 c_1) (by rw [hV, tw_GR_least_h4, if_neg c_1, if_neg c_2, if_pos c_3]) ls (lv_sub hl [3, 4, 1, 0] rfl)
        · refine lv_aload_n hx hb d_GR_least_29 rfl (lv_at hl 1 rfl) ?_
          refine va_get (D := D) (ci := 7) (v := .ref aS) (C := R_GR) (T := T_GR) (N := 12) hx hb hT u_GR hown hK hP 0 rfl rfl 0 (by decide) (hT _ k_212) (fun _ h9 => h9) rfl d_GR_least_30 ?_
          refine lv_iload hx hb d_GR_least_33 (lv_at hl 0 rfl) ?_
          refine lv_iload_n hx hb d_GR_least_35 rfl (lv_at hl 3 rfl) ?_
          refine lv_iconst (v := 0) hx hb d_GR_least_36 (by decide) ?_
          refine rd_V (val := tw_ST_cmp0 b (gvl x3.toNatClampNeg) x2) (As := [.int (gvl x3.toNatClampNeg), .int x2, .int 0]) (rest := []) ⟨hx, hb, hml, hown, hT⟩ (c_ST_cmp0 l D cB cI aS aB b (gvl x3.toNatClampNeg) x2) (cwV 3 hT (gV_of k_783 k_784 k_785 k_2 kc_ST_compare) rfl rfl rfl hd_ST_compare ⟨Nat.le_of_ble_eq_true rfl, Nat.le_of_ble_eq_true rfl⟩) hk (hP.sub (ws' := [(aS, .inr (0, [.ref aB])), (aB, .inl (cB, 202000, .inl (by_ b)))]) [1, 2] rfl) (q0 := 0) rfl rfl rfl rfl hl.1 rfl (Nat.le_of_ble_eq_true rfl) d_GR_least_37 ⟨Nat.zero_le _, Nat.zero_le _⟩ ?_
          refine lv_iload_n hx hb d_GR_least_40 rfl (lv_at hl 2 rfl) ?_
          refine lv_imul hx hb d_GR_least_41 ?_
          refine lv_if_ge (tgt := 48) hx hb d_GR_least_42 (by decide) (fun c_4 => ?_) (fun c_4 => ?_)
          · refine lv_iinc (v := x3 + 1) (lv' := [(3, .int (x3 + 1)), (4, .int (gvl x3.toNatClampNeg)), (0, .ref aU), (1, .int p0), (2, .int x2)]) hx hb d_GR_least_48 hl (k := 4) rfl rfl (by decide) rfl (fun ls hl => ?_)
            refine lv_goto (tgt := 4) hx hb d_GR_least_51 (by decide) ?_
            exact ih x2 (x3 + 1) (lp_up hm c_1) (i_upn hv1 c_1) (by rw [hV, tw_GR_least_h4, if_neg c_1, if_neg c_2, if_neg c_3, if_pos c_4]) ls (lv_sub hl [2, 3, 4, 0] rfl)
          · refine lv_iload hx hb d_GR_least_45 (lv_at hl 0 rfl) ?_
            refine lv_istore_n (lv' := [(2, .int (gvl x3.toNatClampNeg)), (4, .int (gvl x3.toNatClampNeg)), (0, .ref aU), (1, .int p0), (3, .int x3)]) hx hb d_GR_least_47 rfl hl (by decide) rfl (fun ls hl => ?_)
            refine lv_iinc (v := x3 + 1) (lv' := [(3, .int (x3 + 1)), (2, .int (gvl x3.toNatClampNeg)), (4, .int (gvl x3.toNatClampNeg)), (0, .ref aU), (1, .int p0)]) hx hb d_GR_least_48 hl (k := 4) rfl rfl (by decide) rfl (fun ls hl => ?_)
            refine lv_goto (tgt := 4) hx hb d_GR_least_51 (by decide) ?_
            exact ih (gvl x3.toNatClampNeg) (x3 + 1) (lp_up hm c_1) (i_upn hv1 c_1) (by rw [hV, tw_GR_least_h4, if_neg c_1, if_neg c_2, if_neg c_3, if_neg c_4]) ls (lv_sub hl [3, 4, 1, 0] rfl)
set_option maxHeartbeats 4000000 in
set_option maxRecDepth 100000 in
theorem c_GR_least (l : Launch) (D : va_G) (cB cI : ClassId) (aU aS aY aP aGk aGh aGf aGl aGn aGv aB : Nat) (ngr : Int32) (held : Int32) (gsum : Int64) (b : Nat → UInt8) (gvl : Nat → Int32) (p0 : Int32) (hh : h_ok held) : Met l y_GR_least mw_GR_least { frames := 416, cells := 0, slots := 0, locals := 9984 } (va_Pc [.ref aU, .int p0] (fun U => va_P D vwCl [(aU, .inr (7, [.ref aS, .ref aY, .ref aP, .ref aGk, .ref aGh, .ref aGf, .ref aGl, .ref aGn, .int ngr, .ref aGv, .int held, .long gsum])), (aS, .inr (0, [.ref aB])), (aB, .inl (cB, 202000, .inl (by_ b))), (aGv, .inl (cI, 200, .inl gvl))] U.heap ∧ hk_ D cB cI U)) (vp_Si (fun r => r = tw_GR_least held b gvl p0)) 0 0 (fun _ => False) := by
  refine Met.ofW (cc := b_GR_least) (maxL := 5) (ret := (some .int)) (by decide) rfl ?_
  intro p e s m args below meth c s₁ B0 hml hv
  obtain ⟨rfl, hP, hk⟩ := hv
  have hK := hk.1
  have hN := hk.2.1
  have hx := B0.exec
  have hb := B0.bytes
  have hr := B0.returns
  have hT : ∀ w ∈ lw_g, w.before _ s = true := fun w h => atoms_spec (ws := mw_GR_least) B0.pre w (List.mem_cons_of_mem _ h)
  have hown : s.vm.findClass R_GR = some m.cls := findClass_of_methodNamed B0.named
  have hlocks := B0.notSynchronized
  have hl := lv_entry ([.ref aU, .int p0]) (n := 5) (Nat.le_of_ble_eq_true rfl)
  rw [lg_entry_eq]
  generalize (lg_sl ([.ref aU, .int p0]) ++ List.replicate (5 - (lg_sl ([.ref aU, .int p0])).length) Slot.unset).toArray = ls at hl ⊢
  have hl : lv_has ls 5 [(0, .ref aU), (1, .int p0)] := hl
  have C0 : lc_C p s m meth c _ b_GR_least 5 (some .int) R_GR lw_g := ⟨hx, hb, hml, hr, hown, hlocks, hT⟩
  refine lv_iconst (v := 0) hx hb d_GR_least_0 (by decide) ?_
  refine lv_istore_n (lv' := [(2, .int 0), (0, .ref aU), (1, .int p0)]) hx hb d_GR_least_1 rfl hl (by decide) rfl (fun ls hl => ?_)
  refine lv_iconst (v := 0) hx hb d_GR_least_2 (by decide) ?_
  refine lv_istore_n (lv' := [(3, .int 0), (2, .int 0), (0, .ref aU), (1, .int p0)]) hx hb d_GR_least_3 rfl hl (by decide) rfl (fun ls hl => ?_)
  exact l_GR_least_h4 C0 l D cB cI aU aS aY aP aGk aGh aGf aGl aGn aGv aB ngr held gsum b gvl hP hk p0 hh (((held.toInt - (0 : Int32).toInt).toNat) + 1) 0 0 (Nat.lt_succ_self _) (by decide) (by rw [tw_GR_least]) ls (lv_sub hl [2, 3, 1, 0] rfl)
abbrev wd_GR_dropTwins (aU aS aY aP aGk aGh aGf aGl aGn aGv aB : Nat) (cB cI : ClassId) (ngr : Int32) (held : Int32) (gsum : Int64) (b : Nat → UInt8) (gvl : Nat → Int32) : va_W := [(aU, .inr (7, [.ref aS, .ref aY, .ref aP, .ref aGk, .ref aGh, .ref aGf, .ref aGl, .ref aGn, .int ngr, .ref aGv, .int held, .long gsum])), (aS, .inr (0, [.ref aB])), (aB, .inl (cB, 202000, .inl (by_ b))), (aGv, .inl (cI, 200, .inl gvl))]
set_option maxHeartbeats 4000000 in
set_option maxRecDepth 100000 in
theorem l_GR_dropTwins_h12 {p : Program} {e : Env} {s : State} {m : MethodId} {args : Array Value} {below : List Frame} {meth : Method} {c : Code} {V : (Nat → Int32)} (C0 : lc_C p s m meth c args b_GR_dropTwins 3 none R_GR lw_g) (l : Launch) (D : va_G) (cB cI : ClassId) (aU aS aY aP aGk aGh aGf aGl aGn aGv aB : Nat) (ngr : Int32) (held : Int32) (gsum : Int64) (b : Nat → UInt8) {A : Nat → Prop} (hk : hk_ D cB cI s) (hA : ∀ q : Nat, s.heap.size ≤ q → A q) (x1 : Int32) (hh : h_ok held) (hv1 : ¬ x1 < 0) (hf1 : ¬ held ≤ x1) {K : Int32 → (Nat → Int32) → (Nat → Int32)} (hKx : ∀ (x2 : Int32) (gvl : Nat → Int32), V = K x2 gvl → ∀ (H : Heap) (locs : List Loc), va_P D vwCl [(aU, .inr (7, [.ref aS, .ref aY, .ref aP, .ref aGk, .ref aGh, .ref aGf, .ref aGl, .ref aGn, .int ngr, .ref aGv, .int held, .long gsum])), (aS, .inr (0, [.ref aB])), (aB, .inl (cB, 202000, .inl (by_ b))), (aGv, .inl (cI, 200, .inl gvl))] H → va_D A [(aU, .inr (7, [.ref aS, .ref aY, .ref aP, .ref aGk, .ref aGh, .ref aGf, .ref aGl, .ref aGn, .int ngr, .ref aGv, .int held, .long gsum])), (aS, .inr (0, [.ref aB])), (aB, .inl (cB, 202000, .inl (by_ b))), (aGv, .inl (cI, 200, .inl gvl))] → va_S A s.heap H locs → ∀ ls : Array Slot, lv_has ls 3 [(0, .ref aU), (1, .int x1)] → W p l e ({ frames := 416, cells := 0, slots := 0, locals := 9984 }) s m args below meth c H locs 0 0 (MQ below (va_Qv (fun (u : (Nat → Int32)) => u = V) (mt_B D A (fun u => wd_GR_dropTwins aU aS aY aP aGk aGh aGf aGl aGn aGv aB cB cI ngr held gsum b u)) A) args s 0 0 A) (F0 m 62 ls [])) : ∀ (n : Nat) (x2 : Int32) (gvl : Nat → Int32), (x1.toInt - x2.toInt).toNat < n → ¬ x2 < 0 → V = tw_GR_dropTwins_h12 held b K x1 n x2 gvl → ∀ (H : Heap) (locs : List Loc), va_P D vwCl [(aU, .inr (7, [.ref aS, .ref aY, .ref aP, .ref aGk, .ref aGh, .ref aGf, .ref aGl, .ref aGn, .int ngr, .ref aGv, .int held, .long gsum])), (aS, .inr (0, [.ref aB])), (aB, .inl (cB, 202000, .inl (by_ b))), (aGv, .inl (cI, 200, .inl gvl))] H → va_D A [(aU, .inr (7, [.ref aS, .ref aY, .ref aP, .ref aGk, .ref aGh, .ref aGf, .ref aGl, .ref aGn, .int ngr, .ref aGv, .int held, .long gsum])), (aS, .inr (0, [.ref aB])), (aB, .inl (cB, 202000, .inl (by_ b))), (aGv, .inl (cI, 200, .inl gvl))] → va_S A s.heap H locs → ∀ ls : Array Slot, lv_has ls 3 [(0, .ref aU), (1, .int x1), (2, .int x2)] → W p l e ({ frames := 416, cells := 0, slots := 0, locals := 9984 }) s m args below meth c H locs 0 0 (MQ below (va_Qv (fun (u : (Nat → Int32)) => u = V) (mt_B D A (fun u => wd_GR_dropTwins aU aS aY aP aGk aGh aGf aGl aGn aGv aB cB cI ngr held gsum b u)) A) args s 0 0 A) (F0 m 12 ls []) := by
  obtain ⟨hx, hb, hml, hr, hown, hlocks, hT⟩ := id C0
  have hK := hk.1
  have hN := hk.2.1
  intro n
  induction n with
  | zero =>
    intro x2 gvl hm
    exact absurd hm (Nat.not_lt_zero _)
  | succ n ih =>
    intro x2 gvl hm hv2 hV H locs hP hD hS ls hl
    refine lv_iload_n hx hb d_GR_dropTwins_12 rfl (lv_at hl 2 rfl) ?_
    refine lv_iload_n hx hb d_GR_dropTwins_13 rfl (lv_at hl 1 rfl) ?_
    refine lv_icmp_ge (tgt := 62) hx hb d_GR_dropTwins_14 (by decide) (fun c_2 => ?_) (fun c_2 => ?_)
    · exact hKx x2 gvl (by rw [hV, tw_GR_dropTwins_h12, if_pos c_2]) _ _ hP hD hS ls (lv_sub hl [0, 1] rfl)
    · refine lv_aload_n hx hb d_GR_dropTwins_17 rfl (lv_at hl 0 rfl) ?_
      refine va_get (D := D) (ci := 7) (v := .ref aGv) (C := R_GR) (T := T_GR) (N := 12) hx hb hT u_GR hown hK hP 0 rfl rfl 9 (by decide) (hT _ k_221) (fun _ h9 => h9) rfl d_GR_dropTwins_18 ?_
      refine lv_iload_n hx hb d_GR_dropTwins_21 rfl (lv_at hl 1 rfl) ?_
      refine va_iald hx hb hK hP 3 1 rfl rfl (in_hh hv1 hf1 hh) d_GR_dropTwins_22 ?_
      refine lv_if_eq (tgt := 62) hx hb d_GR_dropTwins_23 (by decide) (fun c_3 => ?_) (fun c_3 => ?_)
      · exact hKx x2 gvl (by rw [hV, tw_GR_dropTwins_h12, if_neg c_2, if_pos c_3]) _ _ hP hD hS ls (lv_sub hl [0, 1] rfl)
      · refine lv_aload_n hx hb d_GR_dropTwins_26 rfl (lv_at hl 0 rfl) ?_
        refine va_get (D := D) (ci := 7) (v := .ref aS) (C := R_GR) (T := T_GR) (N := 12) hx hb hT u_GR hown hK hP 0 rfl rfl 0 (by decide) (hT _ k_212) (fun _ h9 => h9) rfl d_GR_dropTwins_27 ?_
        refine lv_aload_n hx hb d_GR_dropTwins_30 rfl (lv_at hl 0 rfl) ?_
        refine va_get (D := D) (ci := 7) (v := .ref aGv) (C := R_GR) (T := T_GR) (N := 12) hx hb hT u_GR hown hK hP 0 rfl rfl 9 (by decide) (hT _ k_221) (fun _ h9 => h9) rfl d_GR_dropTwins_31 ?_
        refine lv_iload_n hx hb d_GR_dropTwins_34 rfl (lv_at hl 2 rfl) ?_
        refine va_iald hx hb hK hP 3 1 rfl rfl (in_lt2 hv2 c_2 hf1 hh) d_GR_dropTwins_35 ?_
        refine lv_aload_n hx hb d_GR_dropTwins_36 rfl (lv_at hl 0 rfl) ?_
        refine va_get (D := D) (ci := 7) (v := .ref aGv) (C := R_GR) (T := T_GR) (N := 12) hx hb hT u_GR hown hK hP 0 rfl rfl 9 (by decide) (hT _ k_221) (fun _ h9 => h9) rfl d_GR_dropTwins_37 ?_
        refine lv_iload_n hx hb d_GR_dropTwins_40 rfl (lv_at hl 1 rfl) ?_
        refine va_iald hx hb hK hP 3 1 rfl rfl (in_hh hv1 hf1 hh) d_GR_dropTwins_41 ?_
        refine lv_iconst (v := 0) hx hb d_GR_dropTwins_42 (by decide) ?_
        refine rd_V (val := tw_ST_cmp0 b (gvl x2.toNatClampNeg) (gvl x1.toNatClampNeg)) (As := [.int (gvl x2.toNatClampNeg), .int (gvl x1.toNatClampNeg), .int 0]) (rest := []) ⟨hx, hb, hml, hown, hT⟩ (c_ST_cmp0 l D cB cI aS aB b (gvl x2.toNatClampNeg) (gvl x1.toNatClampNeg)) (cwV 3 hT (gV_of k_783 k_784 k_785 k_2 kc_ST_compare) rfl rfl rfl hd_ST_compare ⟨Nat.le_of_ble_eq_true rfl, Nat.le_of_ble_eq_true rfl⟩) hk (hP.sub (ws' := [(aS, .inr (0, [.ref aB])), (aB, .inl (cB, 202000, .inl (by_ b)))]) [1, 2] rfl) (q0 := 0) rfl rfl rfl rfl hl.1 rfl (Nat.le_of_ble_eq_true rfl) d_GR_dropTwins_43 ⟨Nat.zero_le _, Nat.zero_le _⟩ ?_
        refine lv_if_ne (tgt := 56) hx hb d_GR_dropTwins_46 (by decide) (fun c_4 => ?_) (fun c_4 => ?_)
        · refine lv_iinc (v := x2 + 1) (lv' := [(2, .int (x2 + 1)), (0, .ref aU), (1, .int x1)]) hx hb d_GR_dropTwins_56 hl (k := 2) rfl rfl (by decide) rfl (fun ls hl => ?_)
          refine lv_goto (tgt := 12) hx hb d_GR_dropTwins_59 (by decide) ?_
          exact ih (x2 + 1) gvl (lp_up hm c_2) (i_upn hv2 c_2) (by rw [hV, tw_GR_dropTwins_h12, if_neg c_2, if_neg c_3, if_neg c_4]) _ _ hP hD hS ls (lv_sub hl [1, 2, 0] rfl)
        · refine lv_aload_n hx hb d_GR_dropTwins_49 rfl (lv_at hl 0 rfl) ?_
          refine va_get (D := D) (ci := 7) (v := .ref aGv) (C := R_GR) (T := T_GR) (N := 12) hx hb hT u_GR hown hK hP 0 rfl rfl 9 (by decide) (hT _ k_221) (fun _ h9 => h9) rfl d_GR_dropTwins_50 ?_
          refine lv_iload_n hx hb d_GR_dropTwins_53 rfl (lv_at hl 1 rfl) ?_
          refine lv_iconst (v := 0) hx hb d_GR_dropTwins_54 (by decide) ?_
          refine va_iast hx hb hK hP hD hS 3 1 rfl rfl (in_hh hv1 hf1 hh) d_GR_dropTwins_55 (fun H locs hP hD hS => ?_)
          have hP : va_P D vwCl [(aU, .inr (7, [.ref aS, .ref aY, .ref aP, .ref aGk, .ref aGh, .ref aGf, .ref aGl, .ref aGn, .int ngr, .ref aGv, .int held, .long gsum])), (aS, .inr (0, [.ref aB])), (aB, .inl (cB, 202000, .inl (by_ b))), (aGv, .inl (cI, 200, .inl (upd gvl x1.toNatClampNeg 0)))] H := hP
          have hD : va_D A [(aU, .inr (7, [.ref aS, .ref aY, .ref aP, .ref aGk, .ref aGh, .ref aGf, .ref aGl, .ref aGn, .int ngr, .ref aGv, .int held, .long gsum])), (aS, .inr (0, [.ref aB])), (aB, .inl (cB, 202000, .inl (by_ b))), (aGv, .inl (cI, 200, .inl (upd gvl x1.toNatClampNeg 0)))] := hD
          refine lv_iinc (v := x2 + 1) (lv' := [(2, .int (x2 + 1)), (0, .ref aU), (1, .int x1)]) hx hb d_GR_dropTwins_56 hl (k := 2) rfl rfl (by decide) rfl (fun ls hl => ?_)
          refine lv_goto (tgt := 12) hx hb d_GR_dropTwins_59 (by decide) ?_
          exact ih (x2 + 1) (upd gvl x1.toNatClampNeg 0) (lp_up hm c_2) (i_upn hv2 c_2) (by rw [hV, tw_GR_dropTwins_h12, if_neg c_2, if_neg c_3, if_pos c_4]) _ _ hP hD hS ls (lv_sub hl [1, 2, 0] rfl)
set_option maxHeartbeats 4000000 in
set_option maxRecDepth 100000 in
theorem l_GR_dropTwins_h2 {p : Program} {e : Env} {s : State} {m : MethodId} {args : Array Value} {below : List Frame} {meth : Method} {c : Code} {V : (Nat → Int32)} (C0 : lc_C p s m meth c args b_GR_dropTwins 3 none R_GR lw_g) (l : Launch) (D : va_G) (cB cI : ClassId) (aU aS aY aP aGk aGh aGf aGl aGn aGv aB : Nat) (ngr : Int32) (held : Int32) (gsum : Int64) (b : Nat → UInt8) {A : Nat → Prop} (hk : hk_ D cB cI s) (hA : ∀ q : Nat, s.heap.size ≤ q → A q)  (hh : h_ok held) : ∀ (n : Nat) (x1 : Int32) (gvl : Nat → Int32), (held.toInt - x1.toInt).toNat < n → ¬ x1 < 0 → V = tw_GR_dropTwins_h2 held b n x1 gvl → ∀ (H : Heap) (locs : List Loc), va_P D vwCl [(aU, .inr (7, [.ref aS, .ref aY, .ref aP, .ref aGk, .ref aGh, .ref aGf, .ref aGl, .ref aGn, .int ngr, .ref aGv, .int held, .long gsum])), (aS, .inr (0, [.ref aB])), (aB, .inl (cB, 202000, .inl (by_ b))), (aGv, .inl (cI, 200, .inl gvl))] H → va_D A [(aU, .inr (7, [.ref aS, .ref aY, .ref aP, .ref aGk, .ref aGh, .ref aGf, .ref aGl, .ref aGn, .int ngr, .ref aGv, .int held, .long gsum])), (aS, .inr (0, [.ref aB])), (aB, .inl (cB, 202000, .inl (by_ b))), (aGv, .inl (cI, 200, .inl gvl))] → va_S A s.heap H locs → ∀ ls : Array Slot, lv_has ls 3 [(0, .ref aU), (1, .int x1)] → W p l e ({ frames := 416, cells := 0, slots := 0, locals := 9984 }) s m args below meth c H locs 0 0 (MQ below (va_Qv (fun (u : (Nat → Int32)) => u = V) (mt_B D A (fun u => wd_GR_dropTwins aU aS aY aP aGk aGh aGf aGl aGn aGv aB cB cI ngr held gsum b u)) A) args s 0 0 A) (F0 m 2 ls []) := by
  obtain ⟨hx, hb, hml, hr, hown, hlocks, hT⟩ := id C0
  have hK := hk.1
  have hN := hk.2.1
  intro n
  induction n with
  | zero =>
    intro x1 gvl hm
    exact absurd hm (Nat.not_lt_zero _)
  | succ n ih =>
    intro x1 gvl hm hv1 hV H locs hP hD hS ls hl
    refine lv_iload_n hx hb d_GR_dropTwins_2 rfl (lv_at hl 1 rfl) ?_
    refine lv_aload_n hx hb d_GR_dropTwins_3 rfl (lv_at hl 0 rfl) ?_
    refine va_get (D := D) (ci := 7) (v := .int held) (C := R_GR) (T := T_GR) (N := 12) hx hb hT u_GR hown hK hP 0 rfl rfl 10 (by decide) (hT _ k_222) (fun _ h9 => h9) rfl d_GR_dropTwins_4 ?_
    refine lv_icmp_ge (tgt := 68) hx hb d_GR_dropTwins_7 (by decide) (fun c_1 => ?_) (fun c_1 => ?_)
    · exact W.vret hx hb hr (fun t ht hW => ⟨⟨gvl, rfl, (by rw [hV, tw_GR_dropTwins_h2, if_pos c_1]; first | done | rfl), by rw [ht]; exact hP, hD⟩, hS.F ht⟩) hS.2.2 d_GR_dropTwins_68
    · refine lv_iconst (v := 0) hx hb d_GR_dropTwins_10 (by decide) ?_
      refine lv_istore_n (lv' := [(2, .int 0), (0, .ref aU), (1, .int x1)]) hx hb d_GR_dropTwins_11 rfl hl (by decide) rfl (fun ls hl => ?_)
      refine l_GR_dropTwins_h12 C0 l D cB cI aU aS aY aP aGk aGh aGf aGl aGn aGv aB ngr held gsum b hk hA x1 hh hv1 c_1 (K := (fun (x2_5 : Int32) (gvl_5 : Nat → Int32) =>
          tw_GR_dropTwins_h2 held b n (x1 + 1) gvl_5)) ?_ (((x1.toInt - (0 : Int32).toInt).toNat) + 1) 0 gvl (Nat.lt_succ_self _) (by decide) (by rw [hV, tw_GR_dropTwins_h2, if_neg c_1]) _ _ hP hD hS ls (lv_sub hl [1, 2, 0] rfl)
      intro x2_5 gvl_5 hV_5 H locs hP hD hS ls hl
      refine lv_iinc (v := x1 + 1) (lv' := [(1, .int (x1 + 1)), (0, .ref aU)]) hx hb d_GR_dropTwins_62 hl (k := 1) rfl rfl (by decide) rfl (fun ls hl => ?_)
      refine lv_goto (tgt := 2) hx hb d_GR_dropTwins_65 (by decide) ?_
      exact ih (x1 + 1) gvl_5 (lp_up hm c_1) (i_upn hv1 c_1) (by rw [hV_5]) _ _ hP hD hS ls (lv_sub hl [1, 0] rfl)
set_option maxHeartbeats 4000000 in
set_option maxRecDepth 100000 in
theorem c_GR_dropTwins (l : Launch) (D : va_G) (cB cI : ClassId) (aU aS aY aP aGk aGh aGf aGl aGn aGv aB : Nat) (ngr : Int32) (held : Int32) (gsum : Int64) (b : Nat → UInt8) (sz : Nat) (gvl : Nat → Int32) (hh : h_ok held) : Met l y_GR_dropTwins mw_GR_dropTwins { frames := 416, cells := 0, slots := 0, locals := 9984 } (va_Pc [.ref aU] (mt_P D cB cI (wd_GR_dropTwins aU aS aY aP aGk aGh aGf aGl aGn aGv aB cB cI ngr held gsum b gvl) sz)) (va_Qv (fun (u : (Nat → Int32)) => u = tw_GR_dropTwins held b gvl) (mt_B D (va_A (wd_GR_dropTwins aU aS aY aP aGk aGh aGf aGl aGn aGv aB cB cI ngr held gsum b gvl) sz) (fun u => wd_GR_dropTwins aU aS aY aP aGk aGh aGf aGl aGn aGv aB cB cI ngr held gsum b u)) (va_A (wd_GR_dropTwins aU aS aY aP aGk aGh aGf aGl aGn aGv aB cB cI ngr held gsum b gvl) sz)) 0 0 (va_A (wd_GR_dropTwins aU aS aY aP aGk aGh aGf aGl aGn aGv aB cB cI ngr held gsum b gvl) sz) := by
  refine Met.ofW (cc := b_GR_dropTwins) (maxL := 3) (ret := none) (by decide) rfl ?_
  intro p e s m args below meth c s₁ B0 hml hv
  obtain ⟨rfl, hsz, hP, hk, hD0⟩ := hv
  have hK := hk.1
  have hN := hk.2.1
  have hx := B0.exec
  have hb := B0.bytes
  have hr := B0.returns
  have hT : ∀ w ∈ lw_g, w.before _ s = true := fun w h => atoms_spec (ws := mw_GR_dropTwins) B0.pre w (List.mem_cons_of_mem _ h)
  have hown : s.vm.findClass R_GR = some m.cls := findClass_of_methodNamed B0.named
  have hlocks := B0.notSynchronized
  subst hsz
  have hD := hD0.self (sz := s.heap.size)
  generalize hAe : va_A [(aU, .inr (7, [.ref aS, .ref aY, .ref aP, .ref aGk, .ref aGh, .ref aGf, .ref aGl, .ref aGn, .int ngr, .ref aGv, .int held, .long gsum])), (aS, .inr (0, [.ref aB])), (aB, .inl (cB, 202000, .inl (by_ b))), (aGv, .inl (cI, 200, .inl gvl))] s.heap.size = A at hD ⊢
  have hA : ∀ q : Nat, s.heap.size ≤ q → A q := fun q h => by rw [← hAe]; exact Or.inr h
  have hS : va_S A s.heap s.heap [] := va_S.rf
  have hl := lv_entry ([.ref aU]) (n := 3) (Nat.le_of_ble_eq_true rfl)
  rw [lg_entry_eq]
  generalize (lg_sl ([.ref aU]) ++ List.replicate (3 - (lg_sl ([.ref aU])).length) Slot.unset).toArray = ls at hl ⊢
  have hl : lv_has ls 3 [(0, .ref aU)] := hl
  have C0 : lc_C p s m meth c _ b_GR_dropTwins 3 none R_GR lw_g := ⟨hx, hb, hml, hr, hown, hlocks, hT⟩
  refine lv_iconst (v := 1) hx hb d_GR_dropTwins_0 (by decide) ?_
  refine lv_istore_n (lv' := [(1, .int 1), (0, .ref aU)]) hx hb d_GR_dropTwins_1 rfl hl (by decide) rfl (fun ls hl => ?_)
  exact l_GR_dropTwins_h2 C0 l D cB cI aU aS aY aP aGk aGh aGf aGl aGn aGv aB ngr held gsum b hk hA  hh (((held.toInt - (1 : Int32).toInt).toNat) + 1) 1 gvl (Nat.lt_succ_self _) (by decide) (by rw [tw_GR_dropTwins]) _ _ hP hD hS ls (lv_sub hl [1, 0] rfl)
abbrev wd_GR_writeRow (aU aS aY aP aGk aGh aGf aGl aGn aGv aW aB : Nat) (cB cI : ClassId) (ngr : Int32) (held : Int32) (gsum : Int64) (gvl : Nat → Int32) (place : Int32) (limit : Int32) (full : Bool) (b : Nat → UInt8) : va_W := [(aU, .inr (7, [.ref aS, .ref aY, .ref aP, .ref aGk, .ref aGh, .ref aGf, .ref aGl, .ref aGn, .int ngr, .ref aGv, .int held, .long gsum])), (aW, .inr (1, [.ref aS, .int place, .int limit, .int (b2i full)])), (aS, .inr (0, [.ref aB])), (aB, .inl (cB, 202000, .inl (by_ b))), (aGv, .inl (cI, 200, .inl gvl))]
set_option maxHeartbeats 4000000 in
set_option maxRecDepth 100000 in
theorem l_GR_writeRow_h10 {p : Program} {e : Env} {s : State} {m : MethodId} {args : Array Value} {below : List Frame} {meth : Method} {c : Code} {V : Int32 × Int32 × Bool × (Nat → UInt8)} (C0 : lc_C p s m meth c args b_GR_writeRow 5 none R_GR lw_g) (l : Launch) (D : va_G) (cB cI : ClassId) (aU aS aY aP aGk aGh aGf aGl aGn aGv aW aB : Nat) (L9 : Int32) (U9 : Bool) (A9 : Int32) (ngr : Int32) (held : Int32) (gsum : Int64) (gvl : Nat → Int32) {A : Nat → Prop} (hk : hk_ D cB cI s) (hA : ∀ q : Nat, s.heap.size ≤ q → A q) (x2 : Int32) (hh : h_ok held) : ∀ (n : Nat) (x3 : Int32) (x4 : Int32) (place : Int32) (limit : Int32) (full : Bool) (b : Nat → UInt8), (held.toInt - x4.toInt).toNat < n → ¬ x4 < 0 → w_okr L9 U9 A9 place limit full → V = tw_GR_writeRow_h10 held gvl x2 n x3 x4 place limit full b → ∀ (H : Heap) (locs : List Loc), va_P D vwCl [(aU, .inr (7, [.ref aS, .ref aY, .ref aP, .ref aGk, .ref aGh, .ref aGf, .ref aGl, .ref aGn, .int ngr, .ref aGv, .int held, .long gsum])), (aW, .inr (1, [.ref aS, .int place, .int limit, .int (b2i full)])), (aS, .inr (0, [.ref aB])), (aB, .inl (cB, 202000, .inl (by_ b))), (aGv, .inl (cI, 200, .inl gvl))] H → va_D A [(aU, .inr (7, [.ref aS, .ref aY, .ref aP, .ref aGk, .ref aGh, .ref aGf, .ref aGl, .ref aGn, .int ngr, .ref aGv, .int held, .long gsum])), (aW, .inr (1, [.ref aS, .int place, .int limit, .int (b2i full)])), (aS, .inr (0, [.ref aB])), (aB, .inl (cB, 202000, .inl (by_ b))), (aGv, .inl (cI, 200, .inl gvl))] → va_S A s.heap H locs → ∀ ls : Array Slot, lv_has ls 5 [(0, .ref aU), (1, .ref aW), (2, .int x2), (3, .int x3), (4, .int x4)] → W p l e ({ frames := 2, cells := 0, slots := 0, locals := 83 }) s m args below meth c H locs 0 0 (MQ below (va_Qv (fun (u : Int32 × Int32 × Bool × (Nat → UInt8)) => u = V ∧ w_okr L9 U9 A9 u.1 u.2.1 u.2.2.1) (mt_B D A (fun u => wd_GR_writeRow aU aS aY aP aGk aGh aGf aGl aGn aGv aW aB cB cI ngr held gsum gvl u.1 u.2.1 u.2.2.1 u.2.2.2)) A) args s 0 0 A) (F0 m 10 ls []) := by
  obtain ⟨hx, hb, hml, hr, hown, hlocks, hT⟩ := id C0
  have hK := hk.1
  have hN := hk.2.1
  intro n
  induction n with
  | zero =>
    intro x3 x4 place limit full b hm
    exact absurd hm (Nat.not_lt_zero _)
  | succ n ih =>
    intro x3 x4 place limit full b hm hv1 hi hV H locs hP hD hS ls hl
    refine lv_iload hx hb d_GR_writeRow_10 (lv_at hl 4 rfl) ?_
    refine lv_aload_n hx hb d_GR_writeRow_12 rfl (lv_at hl 0 rfl) ?_
    refine va_get (D := D) (ci := 7) (v := .int held) (C := R_GR) (T := T_GR) (N := 12) hx hb hT u_GR hown hK hP 0 rfl rfl 10 (by decide) (hT _ k_222) (fun _ h9 => h9) rfl d_GR_writeRow_13 ?_
    refine lv_icmp_ge (tgt := 81) hx hb d_GR_writeRow_16 (by decide) (fun c_2 => ?_) (fun c_2 => ?_)
    · refine lv_aload_n hx hb d_GR_writeRow_81 rfl (lv_at hl 1 rfl) ?_
      refine lv_iload_n hx hb d_GR_writeRow_82 rfl (lv_at hl 2 rfl) ?_
      refine mt_Vv (As := [.int x2]) (rest := []) (wr := [(aU, .inr (7, [.ref aS, .ref aY, .ref aP, .ref aGk, .ref aGh, .ref aGf, .ref aGl, .ref aGn, .int ngr, .ref aGv, .int held, .long gsum])), (aGv, .inl (cI, 200, .inl gvl))]) ⟨hx, hb, hml, hown, hT⟩ (c_WR_close l D cB cI aW aS aB L9 U9 A9 _ place limit full b x2 hi) (cwV 1 hT (gV_of k_840 k_643 k_644 k_5 kc_WR_close) rfl rfl rfl hd_WR_close ⟨Nat.le_of_ble_eq_true rfl, Nat.le_of_ble_eq_true rfl⟩) hk hP hD hS hA [1, 2, 3] [0, 4] rfl rfl rfl (by decide) (by decide) (by decide) (q0 := 0) rfl rfl rfl rfl hl.1 rfl (Nat.le_of_ble_eq_true rfl) d_GR_writeRow_83 ⟨Nat.zero_le _, Nat.zero_le _⟩ (fun u_3 H locs hw_3 hP hD hS => ?_)
      obtain ⟨place_3, limit_3, full_3, b_3⟩ := u_3
      obtain ⟨hw_3, hi_3⟩ := hw_3
      have hP : va_P D vwCl [(aU, .inr (7, [.ref aS, .ref aY, .ref aP, .ref aGk, .ref aGh, .ref aGf, .ref aGl, .ref aGn, .int ngr, .ref aGv, .int held, .long gsum])), (aW, .inr (1, [.ref aS, .int place_3, .int limit_3, .int (b2i full_3)])), (aS, .inr (0, [.ref aB])), (aB, .inl (cB, 202000, .inl (by_ b_3))), (aGv, .inl (cI, 200, .inl gvl))] H := hP.sub [0, 2, 3, 4, 1] rfl
      have hD : va_D A [(aU, .inr (7, [.ref aS, .ref aY, .ref aP, .ref aGk, .ref aGh, .ref aGf, .ref aGl, .ref aGn, .int ngr, .ref aGv, .int held, .long gsum])), (aW, .inr (1, [.ref aS, .int place_3, .int limit_3, .int (b2i full_3)])), (aS, .inr (0, [.ref aB])), (aB, .inl (cB, 202000, .inl (by_ b_3))), (aGv, .inl (cI, 200, .inl gvl))] := hD.sub [0, 2, 3, 4, 1] (by decide) rfl
      exact W.vret hx hb hr (fun t ht hW => ⟨⟨(place_3, limit_3, full_3, b_3), rfl, ⟨(by rw [hV, tw_GR_writeRow_h10, if_pos c_2, ← hw_3, tp4_mk]; first | done | rfl), hi_3⟩, by rw [ht]; exact hP, hD⟩, hS.F ht⟩) hS.2.2 d_GR_writeRow_86
    · refine lv_aload_n hx hb d_GR_writeRow_19 rfl (lv_at hl 0 rfl) ?_
      refine va_get (D := D) (ci := 7) (v := .ref aGv) (C := R_GR) (T := T_GR) (N := 12) hx hb hT u_GR hown hK hP 0 rfl rfl 9 (by decide) (hT _ k_221) (fun _ h9 => h9) rfl d_GR_writeRow_20 ?_
      refine lv_iload hx hb d_GR_writeRow_23 (lv_at hl 4 rfl) ?_
      refine va_iald hx hb hK hP 4 1 rfl rfl (in_hh hv1 c_2 hh) d_GR_writeRow_25 ?_
      refine lv_if_eq (tgt := 75) hx hb d_GR_writeRow_26 (by decide) (fun c_4 => ?_) (fun c_4 => ?_)
      · refine lv_iinc (v := x4 + 1) (lv' := [(4, .int (x4 + 1)), (0, .ref aU), (1, .ref aW), (2, .int x2), (3, .int x3)]) hx hb d_GR_writeRow_75 hl (k := 4) rfl rfl (by decide) rfl (fun ls hl => ?_)
        refine lv_goto (tgt := 10) hx hb d_GR_writeRow_78 (by decide) ?_
        exact ih x3 (x4 + 1) place limit full b (lp_up hm c_2) (i_upn hv1 c_2) (hi) (by rw [hV, tw_GR_writeRow_h10, if_neg c_2, if_pos c_4]) _ _ hP hD hS ls (lv_sub hl [1, 2, 3, 4, 0] rfl)
      · refine lv_aload_n hx hb d_GR_writeRow_29 rfl (lv_at hl 1 rfl) ?_
        refine lv_aload_n hx hb d_GR_writeRow_30 rfl (lv_at hl 0 rfl) ?_
        refine va_get (D := D) (ci := 7) (v := .ref aGv) (C := R_GR) (T := T_GR) (N := 12) hx hb hT u_GR hown hK hP 0 rfl rfl 9 (by decide) (hT _ k_221) (fun _ h9 => h9) rfl d_GR_writeRow_31 ?_
        refine lv_iload hx hb d_GR_writeRow_34 (lv_at hl 4 rfl) ?_
        refine va_iald hx hb hK hP 4 1 rfl rfl (in_hh hv1 c_2 hh) d_GR_writeRow_36 ?_
        refine rd_S (val := tw_ST_kindOf (gvl x4.toNatClampNeg)) (As := [.int (gvl x4.toNatClampNeg)]) (rest := [.ref aW]) ⟨hx, hb, hml, hown, hT⟩ (c_ST_kindOf l D cB cI (gvl x4.toNatClampNeg)) (va_cwS 1 hT (gS_of k_711 k_555 k_2 kc_ST_kindOf) rfl rfl rfl hd_ST_kindOf ⟨Nat.le_of_ble_eq_true rfl, Nat.le_of_ble_eq_true rfl⟩) hk (va_P_nil) rfl hl.1 rfl (Nat.le_of_ble_eq_true rfl) d_GR_writeRow_37 ⟨Nat.zero_le _, Nat.zero_le _⟩ ?_
        refine lv_iload_n hx hb d_GR_writeRow_40 rfl (lv_at hl 3 rfl) ?_
        refine mt_Vv (As := [.int (tw_ST_kindOf (gvl x4.toNatClampNeg)), .int x3]) (rest := []) (wr := [(aU, .inr (7, [.ref aS, .ref aY, .ref aP, .ref aGk, .ref aGh, .ref aGf, .ref aGl, .ref aGn, .int ngr, .ref aGv, .int held, .long gsum])), (aGv, .inl (cI, 200, .inl gvl))]) ⟨hx, hb, hml, hown, hT⟩ (c_WR_index l D cB cI aW aS aB L9 U9 A9 _ place limit full b (tw_ST_kindOf (gvl x4.toNatClampNeg)) x3 hi) (cwV 2 hT (gV_of k_839 k_636 k_637 k_5 kc_WR_index) rfl rfl rfl hd_WR_index ⟨Nat.le_of_ble_eq_true rfl, Nat.le_of_ble_eq_true rfl⟩) hk hP hD hS hA [1, 2, 3] [0, 4] rfl rfl rfl (by decide) (by decide) (by decide) (q0 := 0) rfl rfl rfl rfl hl.1 rfl (Nat.le_of_ble_eq_true rfl) d_GR_writeRow_41 ⟨Nat.zero_le _, Nat.zero_le _⟩ (fun u_5 H locs hw_5 hP hD hS => ?_)
        obtain ⟨place_5, limit_5, full_5, b_5⟩ := u_5
        obtain ⟨hw_5, hi_5⟩ := hw_5
        have hP : va_P D vwCl [(aU, .inr (7, [.ref aS, .ref aY, .ref aP, .ref aGk, .ref aGh, .ref aGf, .ref aGl, .ref aGn, .int ngr, .ref aGv, .int held, .long gsum])), (aW, .inr (1, [.ref aS, .int place_5, .int limit_5, .int (b2i full_5)])), (aS, .inr (0, [.ref aB])), (aB, .inl (cB, 202000, .inl (by_ b_5))), (aGv, .inl (cI, 200, .inl gvl))] H := hP.sub [0, 2, 3, 4, 1] rfl
        have hD : va_D A [(aU, .inr (7, [.ref aS, .ref aY, .ref aP, .ref aGk, .ref aGh, .ref aGf, .ref aGl, .ref aGn, .int ngr, .ref aGv, .int held, .long gsum])), (aW, .inr (1, [.ref aS, .int place_5, .int limit_5, .int (b2i full_5)])), (aS, .inr (0, [.ref aB])), (aB, .inl (cB, 202000, .inl (by_ b_5))), (aGv, .inl (cI, 200, .inl gvl))] := hD.sub [0, 2, 3, 4, 1] (by decide) rfl
        refine lv_aload_n hx hb d_GR_writeRow_44 rfl (lv_at hl 1 rfl) ?_
        refine lv_aload_n hx hb d_GR_writeRow_45 rfl (lv_at hl 0 rfl) ?_
        refine va_get (D := D) (ci := 7) (v := .ref aGv) (C := R_GR) (T := T_GR) (N := 12) hx hb hT u_GR hown hK hP 0 rfl rfl 9 (by decide) (hT _ k_221) (fun _ h9 => h9) rfl d_GR_writeRow_46 ?_
        refine lv_iload hx hb d_GR_writeRow_49 (lv_at hl 4 rfl) ?_
        refine va_iald hx hb hK hP 4 1 rfl rfl (in_hh hv1 c_2 hh) d_GR_writeRow_51 ?_
        refine rd_S (val := tw_ST_placeOf (gvl x4.toNatClampNeg)) (As := [.int (gvl x4.toNatClampNeg)]) (rest := [.ref aW]) ⟨hx, hb, hml, hown, hT⟩ (c_ST_placeOf l D cB cI (gvl x4.toNatClampNeg)) (va_cwS 1 hT (gS_of k_714 k_403 k_2 kc_ST_placeOf) rfl rfl rfl hd_ST_placeOf ⟨Nat.le_of_ble_eq_true rfl, Nat.le_of_ble_eq_true rfl⟩) hk (va_P_nil) rfl hl.1 rfl (Nat.le_of_ble_eq_true rfl) d_GR_writeRow_52 ⟨Nat.zero_le _, Nat.zero_le _⟩ ?_
        refine lv_aload_n hx hb d_GR_writeRow_55 rfl (lv_at hl 0 rfl) ?_
        refine va_get (D := D) (ci := 7) (v := .ref aS) (C := R_GR) (T := T_GR) (N := 12) hx hb hT u_GR hown hK hP 0 rfl rfl 0 (by decide) (hT _ k_212) (fun _ h9 => h9) rfl d_GR_writeRow_56 ?_
        refine lv_aload_n hx hb d_GR_writeRow_59 rfl (lv_at hl 0 rfl) ?_
        refine va_get (D := D) (ci := 7) (v := .ref aGv) (C := R_GR) (T := T_GR) (N := 12) hx hb hT u_GR hown hK hP 0 rfl rfl 9 (by decide) (hT _ k_221) (fun _ h9 => h9) rfl d_GR_writeRow_60 ?_
        refine lv_iload hx hb d_GR_writeRow_63 (lv_at hl 4 rfl) ?_
        refine va_iald hx hb hK hP 4 1 rfl rfl (in_hh hv1 c_2 hh) d_GR_writeRow_65 ?_
        refine rd_V (val := tw_ST_endOf b_5 (gvl x4.toNatClampNeg)) (As := [.int (gvl x4.toNatClampNeg)]) (rest := [.int (tw_ST_placeOf (gvl x4.toNatClampNeg)), .ref aW]) ⟨hx, hb, hml, hown, hT⟩ (c_ST_endOf l D cB cI aS aB b_5 (gvl x4.toNatClampNeg)) (cwV 1 hT (gV_of k_713 k_416 k_417 k_2 kc_ST_endOf) rfl rfl rfl hd_ST_endOf ⟨Nat.le_of_ble_eq_true rfl, Nat.le_of_ble_eq_true rfl⟩) hk (hP.sub (ws' := [(aS, .inr (0, [.ref aB])), (aB, .inl (cB, 202000, .inl (by_ b_5)))]) [2, 3] rfl) (q0 := 0) rfl rfl rfl rfl hl.1 rfl (Nat.le_of_ble_eq_true rfl) d_GR_writeRow_66 ⟨Nat.zero_le _, Nat.zero_le _⟩ ?_
        refine mt_Vv (As := [.int (tw_ST_placeOf (gvl x4.toNatClampNeg)), .int (tw_ST_endOf b_5 (gvl x4.toNatClampNeg))]) (rest := []) (wr := [(aU, .inr (7, [.ref aS, .ref aY, .ref aP, .ref aGk, .ref aGh, .ref aGf, .ref aGl, .ref aGn, .int ngr, .ref aGv, .int held, .long gsum])), (aGv, .inl (cI, 200, .inl gvl))]) ⟨hx, hb, hml, hown, hT⟩ (c_WR_copy l D cB cI aW aS aB L9 U9 A9 _ place_5 limit_5 full_5 b_5 (tw_ST_placeOf (gvl x4.toNatClampNeg)) (tw_ST_endOf b_5 (gvl x4.toNatClampNeg)) (Or.inl (pl_le _)) hi_5) (cwV 2 hT (gV_of k_822 k_451 k_452 k_5 kc_WR_copy) rfl rfl rfl hd_WR_copy ⟨Nat.le_of_ble_eq_true rfl, Nat.le_of_ble_eq_true rfl⟩) hk hP hD hS hA [1, 2, 3] [0, 4] rfl rfl rfl (by decide) (by decide) (by decide) (q0 := 0) rfl rfl rfl rfl hl.1 rfl (Nat.le_of_ble_eq_true rfl) d_GR_writeRow_69 ⟨Nat.zero_le _, Nat.zero_le _⟩ (fun u_6 H locs hw_6 hP hD hS => ?_)
        obtain ⟨place_6, limit_6, full_6, b_6⟩ := u_6
        obtain ⟨hw_6, hi_6⟩ := hw_6
        have hP : va_P D vwCl [(aU, .inr (7, [.ref aS, .ref aY, .ref aP, .ref aGk, .ref aGh, .ref aGf, .ref aGl, .ref aGn, .int ngr, .ref aGv, .int held, .long gsum])), (aW, .inr (1, [.ref aS, .int place_6, .int limit_6, .int (b2i full_6)])), (aS, .inr (0, [.ref aB])), (aB, .inl (cB, 202000, .inl (by_ b_6))), (aGv, .inl (cI, 200, .inl gvl))] H := hP.sub [0, 2, 3, 4, 1] rfl
        have hD : va_D A [(aU, .inr (7, [.ref aS, .ref aY, .ref aP, .ref aGk, .ref aGh, .ref aGf, .ref aGl, .ref aGn, .int ngr, .ref aGv, .int held, .long gsum])), (aW, .inr (1, [.ref aS, .int place_6, .int limit_6, .int (b2i full_6)])), (aS, .inr (0, [.ref aB])), (aB, .inl (cB, 202000, .inl (by_ b_6))), (aGv, .inl (cI, 200, .inl gvl))] := hD.sub [0, 2, 3, 4, 1] (by decide) rfl
        refine lv_iinc (v := x3 + 1) (lv' := [(3, .int (x3 + 1)), (0, .ref aU), (1, .ref aW), (2, .int x2), (4, .int x4)]) hx hb d_GR_writeRow_72 hl (k := 3) rfl rfl (by decide) rfl (fun ls hl => ?_)
        refine lv_iinc (v := x4 + 1) (lv' := [(4, .int (x4 + 1)), (3, .int (x3 + 1)), (0, .ref aU), (1, .ref aW), (2, .int x2)]) hx hb d_GR_writeRow_75 hl (k := 4) rfl rfl (by decide) rfl (fun ls hl => ?_)
        refine lv_goto (tgt := 10) hx hb d_GR_writeRow_78 (by decide) ?_
        exact ih (x3 + 1) (x4 + 1) place_6 limit_6 full_6 b_6 (lp_up hm c_2) (i_upn hv1 c_2) (hi_6) (by rw [hV, tw_GR_writeRow_h10, if_neg c_2, if_neg c_4, ← hw_5, tp4_mk, ← hw_6, tp4_mk]) _ _ hP hD hS ls (lv_sub hl [2, 3, 4, 1, 0] rfl)
set_option maxHeartbeats 4000000 in
set_option maxRecDepth 100000 in
theorem c_GR_writeRow (l : Launch) (D : va_G) (cB cI : ClassId) (aU aS aY aP aGk aGh aGf aGl aGn aGv aW aB : Nat) (L9 : Int32) (U9 : Bool) (A9 : Int32) (ngr : Int32) (held : Int32) (gsum : Int64) (gvl : Nat → Int32) (sz : Nat) (place : Int32) (limit : Int32) (full : Bool) (b : Nat → UInt8) (hh : h_ok held) (hi : w_okr L9 U9 A9 place limit full) : Met l y_GR_writeRow mw_GR_writeRow { frames := 2, cells := 0, slots := 0, locals := 83 } (va_Pc [.ref aU, .ref aW] (mt_P D cB cI (wd_GR_writeRow aU aS aY aP aGk aGh aGf aGl aGn aGv aW aB cB cI ngr held gsum gvl place limit full b) sz)) (va_Qv (fun (u : Int32 × Int32 × Bool × (Nat → UInt8)) => u = tw_GR_writeRow held gvl place limit full b ∧ w_okr L9 U9 A9 u.1 u.2.1 u.2.2.1) (mt_B D (va_A (wd_GR_writeRow aU aS aY aP aGk aGh aGf aGl aGn aGv aW aB cB cI ngr held gsum gvl place limit full b) sz) (fun u => wd_GR_writeRow aU aS aY aP aGk aGh aGf aGl aGn aGv aW aB cB cI ngr held gsum gvl u.1 u.2.1 u.2.2.1 u.2.2.2)) (va_A (wd_GR_writeRow aU aS aY aP aGk aGh aGf aGl aGn aGv aW aB cB cI ngr held gsum gvl place limit full b) sz)) 0 0 (va_A (wd_GR_writeRow aU aS aY aP aGk aGh aGf aGl aGn aGv aW aB cB cI ngr held gsum gvl place limit full b) sz) := by
  refine Met.ofW (cc := b_GR_writeRow) (maxL := 5) (ret := none) (by decide) rfl ?_
  intro p e s m args below meth c s₁ B0 hml hv
  obtain ⟨rfl, hsz, hP, hk, hD0⟩ := hv
  have hK := hk.1
  have hN := hk.2.1
  have hx := B0.exec
  have hb := B0.bytes
  have hr := B0.returns
  have hT : ∀ w ∈ lw_g, w.before _ s = true := fun w h => atoms_spec (ws := mw_GR_writeRow) B0.pre w (List.mem_cons_of_mem _ h)
  have hown : s.vm.findClass R_GR = some m.cls := findClass_of_methodNamed B0.named
  have hlocks := B0.notSynchronized
  subst hsz
  have hD := hD0.self (sz := s.heap.size)
  generalize hAe : va_A [(aU, .inr (7, [.ref aS, .ref aY, .ref aP, .ref aGk, .ref aGh, .ref aGf, .ref aGl, .ref aGn, .int ngr, .ref aGv, .int held, .long gsum])), (aW, .inr (1, [.ref aS, .int place, .int limit, .int (b2i full)])), (aS, .inr (0, [.ref aB])), (aB, .inl (cB, 202000, .inl (by_ b))), (aGv, .inl (cI, 200, .inl gvl))] s.heap.size = A at hD ⊢
  have hA : ∀ q : Nat, s.heap.size ≤ q → A q := fun q h => by rw [← hAe]; exact Or.inr h
  have hS : va_S A s.heap s.heap [] := va_S.rf
  have hl := lv_entry ([.ref aU, .ref aW]) (n := 5) (Nat.le_of_ble_eq_true rfl)
  rw [lg_entry_eq]
  generalize (lg_sl ([.ref aU, .ref aW]) ++ List.replicate (5 - (lg_sl ([.ref aU, .ref aW])).length) Slot.unset).toArray = ls at hl ⊢
  have hl : lv_has ls 5 [(0, .ref aU), (1, .ref aW)] := hl
  have C0 : lc_C p s m meth c _ b_GR_writeRow 5 none R_GR lw_g := ⟨hx, hb, hml, hr, hown, hlocks, hT⟩
  refine lv_aload_n hx hb d_GR_writeRow_0 rfl (lv_at hl 1 rfl) ?_
  refine mt_Vi (As := []) (rest := []) (wr := [(aU, .inr (7, [.ref aS, .ref aY, .ref aP, .ref aGk, .ref aGh, .ref aGf, .ref aGl, .ref aGn, .int ngr, .ref aGv, .int held, .long gsum])), (aGv, .inl (cI, 200, .inl gvl))]) ⟨hx, hb, hml, hown, hT⟩ (c_WR_open l D cB cI aW aS aB L9 U9 A9 _ place limit full b hi) (cwV 0 hT (gV_of k_820 k_598 k_599 k_5 kc_WR_open) rfl rfl rfl hd_WR_open ⟨Nat.le_of_ble_eq_true rfl, Nat.le_of_ble_eq_true rfl⟩) hk hP hD hS hA [1, 2, 3] [0, 4] rfl rfl rfl (by decide) (by decide) (by decide) (q0 := 0) rfl rfl rfl rfl hl.1 rfl (Nat.le_of_ble_eq_true rfl) d_GR_writeRow_1 ⟨Nat.zero_le _, Nat.zero_le _⟩ (fun r_1 u_1 H locs hw_1 hP hD hS => ?_)
  obtain ⟨place_1, limit_1, full_1, b_1⟩ := u_1
  obtain ⟨hw_1, hi_1⟩ := hw_1
  have hP : va_P D vwCl [(aU, .inr (7, [.ref aS, .ref aY, .ref aP, .ref aGk, .ref aGh, .ref aGf, .ref aGl, .ref aGn, .int ngr, .ref aGv, .int held, .long gsum])), (aW, .inr (1, [.ref aS, .int place_1, .int limit_1, .int (b2i full_1)])), (aS, .inr (0, [.ref aB])), (aB, .inl (cB, 202000, .inl (by_ b_1))), (aGv, .inl (cI, 200, .inl gvl))] H := hP.sub [0, 2, 3, 4, 1] rfl
  have hD : va_D A [(aU, .inr (7, [.ref aS, .ref aY, .ref aP, .ref aGk, .ref aGh, .ref aGf, .ref aGl, .ref aGn, .int ngr, .ref aGv, .int held, .long gsum])), (aW, .inr (1, [.ref aS, .int place_1, .int limit_1, .int (b2i full_1)])), (aS, .inr (0, [.ref aB])), (aB, .inl (cB, 202000, .inl (by_ b_1))), (aGv, .inl (cI, 200, .inl gvl))] := hD.sub [0, 2, 3, 4, 1] (by decide) rfl
  refine lv_istore_n (lv' := [(2, .int r_1), (0, .ref aU), (1, .ref aW)]) hx hb d_GR_writeRow_4 rfl hl (by decide) rfl (fun ls hl => ?_)
  refine lv_iconst (v := 0) hx hb d_GR_writeRow_5 (by decide) ?_
  refine lv_istore_n (lv' := [(3, .int 0), (2, .int r_1), (0, .ref aU), (1, .ref aW)]) hx hb d_GR_writeRow_6 rfl hl (by decide) rfl (fun ls hl => ?_)
  refine lv_iconst (v := 0) hx hb d_GR_writeRow_7 (by decide) ?_
  refine lv_istore (lv' := [(4, .int 0), (3, .int 0), (2, .int r_1), (0, .ref aU), (1, .ref aW)]) hx hb d_GR_writeRow_8 hl (by decide) rfl (fun ls hl => ?_)
  exact l_GR_writeRow_h10 C0 l D cB cI aU aS aY aP aGk aGh aGf aGl aGn aGv aW aB L9 U9 A9 ngr held gsum gvl hk hA r_1 hh (((held.toInt - (0 : Int32).toInt).toNat) + 1) 0 0 place_1 limit_1 full_1 b_1 (Nat.lt_succ_self _) (by decide) (hi_1) (by rw [tw_GR_writeRow, ← hw_1, tp5_mk]) _ _ hP hD hS ls (lv_sub hl [3, 4, 2, 1, 0] rfl)
abbrev wd_GR_writePart (aU aS aY aP aGk aGh aGf aGl aGn aGv aW aB : Nat) (cB cI : ClassId) (ngr : Int32) (held : Int32) (gsum : Int64) (place : Int32) (limit : Int32) (full : Bool) (b : Nat → UInt8) (gvl : Nat → Int32) : va_W := [(aU, .inr (7, [.ref aS, .ref aY, .ref aP, .ref aGk, .ref aGh, .ref aGf, .ref aGl, .ref aGn, .int ngr, .ref aGv, .int held, .long gsum])), (aW, .inr (1, [.ref aS, .int place, .int limit, .int (b2i full)])), (aS, .inr (0, [.ref aB])), (aB, .inl (cB, 202000, .inl (by_ b))), (aGv, .inl (cI, 200, .inl gvl))]
set_option maxHeartbeats 4000000 in
set_option maxRecDepth 100000 in
theorem c_GR_writePart (l : Launch) (D : va_G) (cB cI : ClassId) (aU aS aY aP aGk aGh aGf aGl aGn aGv aW aB : Nat) (L9 : Int32) (U9 : Bool) (A9 : Int32) (ngr : Int32) (held : Int32) (sz : Nat) (gsum : Int64) (place : Int32) (limit : Int32) (full : Bool) (b : Nat → UInt8) (gvl : Nat → Int32) (p1 : Int32) (p2 : Int32) (p3 : Int32) (hh : h_ok held) (hc : p1.toInt ≤ 1073741824 ∨ -1 ≤ p2.toInt) (hi : w_okr L9 U9 A9 place limit full) : Met l y_GR_writePart mw_GR_writePart { frames := 417, cells := 0, slots := 0, locals := 10008 } (va_Pc [.ref aU, .ref aW, .int p1, .int p2, .int p3] (mt_P D cB cI (wd_GR_writePart aU aS aY aP aGk aGh aGf aGl aGn aGv aW aB cB cI ngr held gsum place limit full b gvl) sz)) (va_Qv (fun (u : Int64 × Int32 × Int32 × Bool × (Nat → UInt8) × (Nat → Int32)) => u = tw_GR_writePart held gsum place limit full b gvl p1 p2 p3 ∧ w_okr L9 U9 A9 u.2.1 u.2.2.1 u.2.2.2.1) (mt_B D (va_A (wd_GR_writePart aU aS aY aP aGk aGh aGf aGl aGn aGv aW aB cB cI ngr held gsum place limit full b gvl) sz) (fun u => wd_GR_writePart aU aS aY aP aGk aGh aGf aGl aGn aGv aW aB cB cI ngr held u.1 u.2.1 u.2.2.1 u.2.2.2.1 u.2.2.2.2.1 u.2.2.2.2.2)) (va_A (wd_GR_writePart aU aS aY aP aGk aGh aGf aGl aGn aGv aW aB cB cI ngr held gsum place limit full b gvl) sz)) 0 0 (va_A (wd_GR_writePart aU aS aY aP aGk aGh aGf aGl aGn aGv aW aB cB cI ngr held gsum place limit full b gvl) sz) := by
  refine Met.ofW (cc := b_GR_writePart) (maxL := 7) (ret := none) (by decide) rfl ?_
  intro p e s m args below meth c s₁ B0 hml hv
  obtain ⟨rfl, hsz, hP, hk, hD0⟩ := hv
  have hK := hk.1
  have hN := hk.2.1
  have hx := B0.exec
  have hb := B0.bytes
  have hr := B0.returns
  have hT : ∀ w ∈ lw_g, w.before _ s = true := fun w h => atoms_spec (ws := mw_GR_writePart) B0.pre w (List.mem_cons_of_mem _ h)
  have hown : s.vm.findClass R_GR = some m.cls := findClass_of_methodNamed B0.named
  have hlocks := B0.notSynchronized
  subst hsz
  have hD := hD0.self (sz := s.heap.size)
  generalize hAe : va_A [(aU, .inr (7, [.ref aS, .ref aY, .ref aP, .ref aGk, .ref aGh, .ref aGf, .ref aGl, .ref aGn, .int ngr, .ref aGv, .int held, .long gsum])), (aW, .inr (1, [.ref aS, .int place, .int limit, .int (b2i full)])), (aS, .inr (0, [.ref aB])), (aB, .inl (cB, 202000, .inl (by_ b))), (aGv, .inl (cI, 200, .inl gvl))] s.heap.size = A at hD ⊢
  have hA : ∀ q : Nat, s.heap.size ≤ q → A q := fun q h => by rw [← hAe]; exact Or.inr h
  have hS : va_S A s.heap s.heap [] := va_S.rf
  have hl := lv_entry ([.ref aU, .ref aW, .int p1, .int p2, .int p3]) (n := 7) (Nat.le_of_ble_eq_true rfl)
  rw [lg_entry_eq]
  generalize (lg_sl ([.ref aU, .ref aW, .int p1, .int p2, .int p3]) ++ List.replicate (7 - (lg_sl ([.ref aU, .ref aW, .int p1, .int p2, .int p3])).length) Slot.unset).toArray = ls at hl ⊢
  have hl : lv_has ls 7 [(0, .ref aU), (1, .ref aW), (2, .int p1), (3, .int p2), (4, .int p3)] := hl
  refine lv_iload hx hb d_GR_writePart_0 (lv_at hl 4 rfl) ?_
  refine lv_iconst (v := 1) hx hb d_GR_writePart_2 (by decide) ?_
  refine lv_icmp_ne (tgt := 26) hx hb d_GR_writePart_3 (by decide) (fun c_1 => ?_) (fun c_1 => ?_)
  · refine lv_iload hx hb d_GR_writePart_26 (lv_at hl 4 rfl) ?_
    refine lv_iconst (v := 2) hx hb d_GR_writePart_28 (by decide) ?_
    refine lv_icmp_ne (tgt := 56) hx hb d_GR_writePart_29 (by decide) (fun c_2 => ?_) (fun c_2 => ?_)
    · refine lv_iload hx hb d_GR_writePart_56 (lv_at hl 4 rfl) ?_
      refine lv_bipush (v := 7) hx hb d_GR_writePart_58 (by decide) ?_
      refine lv_icmp_eq (tgt := 70) hx hb d_GR_writePart_60 (by decide) (fun c_3 => ?_) (fun c_3 => ?_)
      · refine lv_iload hx hb d_GR_writePart_70 (lv_at hl 4 rfl) ?_
        refine lv_bipush (v := 8) hx hb d_GR_writePart_72 (by decide) ?_
        refine lv_icmp_ne (tgt := 81) hx hb d_GR_writePart_74 (by decide) (fun c_4 => ?_) (fun c_4 => ?_)
        · refine lv_aload_n hx hb d_GR_writePart_81 rfl (lv_at hl 1 rfl) ?_
          refine lv_iconst (v := 4) hx hb d_GR_writePart_82 (by decide) ?_
          refine lv_iload_n hx hb d_GR_writePart_83 rfl (lv_at hl 2 rfl) ?_
          refine lv_iload_n hx hb d_GR_writePart_84 rfl (lv_at hl 3 rfl) ?_
          refine mt_Vv (As := [.int 4, .int p1, .int p2]) (rest := []) (wr := [(aU, .inr (7, [.ref aS, .ref aY, .ref aP, .ref aGk, .ref aGh, .ref aGf, .ref aGl, .ref aGn, .int ngr, .ref aGv, .int held, .long gsum])), (aGv, .inl (cI, 200, .inl gvl))]) ⟨hx, hb, hml, hown, hT⟩ (c_WR_name l D cB cI aW aS aB L9 U9 A9 _ place limit full b 4 p1 p2 (hc) hi) (cwV 3 hT (gV_of k_821 k_653 k_654 k_5 kc_WR_name) rfl rfl rfl hd_WR_name ⟨Nat.le_of_ble_eq_true rfl, Nat.le_of_ble_eq_true rfl⟩) hk hP hD hS hA [1, 2, 3] [0, 4] rfl rfl rfl (by decide) (by decide) (by decide) (q0 := 0) rfl rfl rfl rfl hl.1 rfl (Nat.le_of_ble_eq_true rfl) d_GR_writePart_85 ⟨Nat.zero_le _, Nat.zero_le _⟩ (fun u_5 H locs hw_5 hP hD hS => ?_)
          obtain ⟨place_5, limit_5, full_5, b_5⟩ := u_5
          obtain ⟨hw_5, hi_5⟩ := hw_5
          have hP : va_P D vwCl [(aU, .inr (7, [.ref aS, .ref aY, .ref aP, .ref aGk, .ref aGh, .ref aGf, .ref aGl, .ref aGn, .int ngr, .ref aGv, .int held, .long gsum])), (aW, .inr (1, [.ref aS, .int place_5, .int limit_5, .int (b2i full_5)])), (aS, .inr (0, [.ref aB])), (aB, .inl (cB, 202000, .inl (by_ b_5))), (aGv, .inl (cI, 200, .inl gvl))] H := hP.sub [0, 2, 3, 4, 1] rfl
          have hD : va_D A [(aU, .inr (7, [.ref aS, .ref aY, .ref aP, .ref aGk, .ref aGh, .ref aGf, .ref aGl, .ref aGn, .int ngr, .ref aGv, .int held, .long gsum])), (aW, .inr (1, [.ref aS, .int place_5, .int limit_5, .int (b2i full_5)])), (aS, .inr (0, [.ref aB])), (aB, .inl (cB, 202000, .inl (by_ b_5))), (aGv, .inl (cI, 200, .inl gvl))] := hD.sub [0, 2, 3, 4, 1] (by decide) rfl
          refine lv_aload_n hx hb d_GR_writePart_88 rfl (lv_at hl 0 rfl) ?_
          refine lv_aload_n hx hb d_GR_writePart_89 rfl (lv_at hl 1 rfl) ?_
          refine mt_Vv (As := [.ref aW]) (rest := []) (wr := []) ⟨hx, hb, hml, hown, hT⟩ (c_GR_writeRow l D cB cI aU aS aY aP aGk aGh aGf aGl aGn aGv aW aB L9 U9 A9 ngr held gsum gvl _ place_5 limit_5 full_5 b_5 (hh) hi_5) (cwV 1 hT (gV_of k_835 k_837 kp_GR_writeRow k_9 kc_GR_writeRow) rfl rfl rfl hd_GR_writeRow ⟨Nat.le_of_ble_eq_true rfl, Nat.le_of_ble_eq_true rfl⟩) hk hP hD hS hA [0, 1, 2, 3, 4] [] rfl rfl rfl (by decide) (by decide) (by decide) (q0 := 0) rfl rfl rfl rfl hl.1 rfl (Nat.le_of_ble_eq_true rfl) d_GR_writePart_90 ⟨Nat.zero_le _, Nat.zero_le _⟩ (fun u_6 H locs hw_6 hP hD hS => ?_)
          obtain ⟨place_6, limit_6, full_6, b_6⟩ := u_6
          obtain ⟨hw_6, hi_6⟩ := hw_6
          have hP : va_P D vwCl [(aU, .inr (7, [.ref aS, .ref aY, .ref aP, .ref aGk, .ref aGh, .ref aGf, .ref aGl, .ref aGn, .int ngr, .ref aGv, .int held, .long gsum])), (aW, .inr (1, [.ref aS, .int place_6, .int limit_6, .int (b2i full_6)])), (aS, .inr (0, [.ref aB])), (aB, .inl (cB, 202000, .inl (by_ b_6))), (aGv, .inl (cI, 200, .inl gvl))] H := hP.sub [0, 1, 2, 3, 4] rfl
          have hD : va_D A [(aU, .inr (7, [.ref aS, .ref aY, .ref aP, .ref aGk, .ref aGh, .ref aGf, .ref aGl, .ref aGn, .int ngr, .ref aGv, .int held, .long gsum])), (aW, .inr (1, [.ref aS, .int place_6, .int limit_6, .int (b2i full_6)])), (aS, .inr (0, [.ref aB])), (aB, .inl (cB, 202000, .inl (by_ b_6))), (aGv, .inl (cI, 200, .inl gvl))] := hD.sub [0, 1, 2, 3, 4] (by decide) rfl
          refine lv_goto (tgt := 185) hx hb d_GR_writePart_93 (by decide) ?_
          exact W.vret hx hb hr (fun t ht hW => ⟨⟨(gsum, place_6, limit_6, full_6, b_6, gvl), rfl, ⟨(by rw [tw_GR_writePart, if_neg c_1, if_neg c_2, if_pos c_3, if_neg c_4, ← hw_5, tp4_mk, ← hw_6, tp4_mk]; first | done | rfl), hi_6⟩, by rw [ht]; exact hP, hD⟩, hS.F ht⟩) hS.2.2 d_GR_writePart_185
        · refine lv_aload_n hx hb d_GR_writePart_77 rfl (lv_at hl 0 rfl) ?_
          refine mt_Vv (As := []) (rest := []) (wr := [(aW, .inr (1, [.ref aS, .int place, .int limit, .int (b2i full)]))]) ⟨hx, hb, hml, hown, hT⟩ (c_GR_dropTwins l D cB cI aU aS aY aP aGk aGh aGf aGl aGn aGv aB ngr held gsum b _ gvl (hh)) (cwV 0 hT (gV_of k_831 k_833 kp_GR_dropTwins k_9 kc_GR_dropTwins) rfl rfl rfl hd_GR_dropTwins ⟨Nat.le_of_ble_eq_true rfl, Nat.le_of_ble_eq_true rfl⟩) hk hP hD hS hA [0, 2, 3, 4] [1] rfl rfl rfl (by decide) (by decide) (by decide) (q0 := 0) rfl rfl rfl rfl hl.1 rfl (Nat.le_of_ble_eq_true rfl) d_GR_writePart_78 ⟨Nat.zero_le _, Nat.zero_le _⟩ (fun u_7 H locs hw_7 hP hD hS => ?_)
          obtain ⟨gvl_7, rfl⟩ : ∃ z, z = u_7 := ⟨_, rfl⟩
          have hP : va_P D vwCl [(aU, .inr (7, [.ref aS, .ref aY, .ref aP, .ref aGk, .ref aGh, .ref aGf, .ref aGl, .ref aGn, .int ngr, .ref aGv, .int held, .long gsum])), (aW, .inr (1, [.ref aS, .int place, .int limit, .int (b2i full)])), (aS, .inr (0, [.ref aB])), (aB, .inl (cB, 202000, .inl (by_ b))), (aGv, .inl (cI, 200, .inl gvl_7))] H := hP.sub [1, 0, 2, 3, 4] rfl
          have hD : va_D A [(aU, .inr (7, [.ref aS, .ref aY, .ref aP, .ref aGk, .ref aGh, .ref aGf, .ref aGl, .ref aGn, .int ngr, .ref aGv, .int held, .long gsum])), (aW, .inr (1, [.ref aS, .int place, .int limit, .int (b2i full)])), (aS, .inr (0, [.ref aB])), (aB, .inl (cB, 202000, .inl (by_ b))), (aGv, .inl (cI, 200, .inl gvl_7))] := hD.sub [1, 0, 2, 3, 4] (by decide) rfl
          refine lv_aload_n hx hb d_GR_writePart_81 rfl (lv_at hl 1 rfl) ?_
          refine lv_iconst (v := 4) hx hb d_GR_writePart_82 (by decide) ?_
          refine lv_iload_n hx hb d_GR_writePart_83 rfl (lv_at hl 2 rfl) ?_
          refine lv_iload_n hx hb d_GR_writePart_84 rfl (lv_at hl 3 rfl) ?_
          refine mt_Vv (As := [.int 4, .int p1, .int p2]) (rest := []) (wr := [(aU, .inr (7, [.ref aS, .ref aY, .ref aP, .ref aGk, .ref aGh, .ref aGf, .ref aGl, .ref aGn, .int ngr, .ref aGv, .int held, .long gsum])), (aGv, .inl (cI, 200, .inl gvl_7))]) ⟨hx, hb, hml, hown, hT⟩ (c_WR_name l D cB cI aW aS aB L9 U9 A9 _ place limit full b 4 p1 p2 (hc) hi) (cwV 3 hT (gV_of k_821 k_653 k_654 k_5 kc_WR_name) rfl rfl rfl hd_WR_name ⟨Nat.le_of_ble_eq_true rfl, Nat.le_of_ble_eq_true rfl⟩) hk hP hD hS hA [1, 2, 3] [0, 4] rfl rfl rfl (by decide) (by decide) (by decide) (q0 := 0) rfl rfl rfl rfl hl.1 rfl (Nat.le_of_ble_eq_true rfl) d_GR_writePart_85 ⟨Nat.zero_le _, Nat.zero_le _⟩ (fun u_8 H locs hw_8 hP hD hS => ?_)
          obtain ⟨place_8, limit_8, full_8, b_8⟩ := u_8
          obtain ⟨hw_8, hi_8⟩ := hw_8
          have hP : va_P D vwCl [(aU, .inr (7, [.ref aS, .ref aY, .ref aP, .ref aGk, .ref aGh, .ref aGf, .ref aGl, .ref aGn, .int ngr, .ref aGv, .int held, .long gsum])), (aW, .inr (1, [.ref aS, .int place_8, .int limit_8, .int (b2i full_8)])), (aS, .inr (0, [.ref aB])), (aB, .inl (cB, 202000, .inl (by_ b_8))), (aGv, .inl (cI, 200, .inl gvl_7))] H := hP.sub [0, 2, 3, 4, 1] rfl
          have hD : va_D A [(aU, .inr (7, [.ref aS, .ref aY, .ref aP, .ref aGk, .ref aGh, .ref aGf, .ref aGl, .ref aGn, .int ngr, .ref aGv, .int held, .long gsum])), (aW, .inr (1, [.ref aS, .int place_8, .int limit_8, .int (b2i full_8)])), (aS, .inr (0, [.ref aB])), (aB, .inl (cB, 202000, .inl (by_ b_8))), (aGv, .inl (cI, 200, .inl gvl_7))] := hD.sub [0, 2, 3, 4, 1] (by decide) rfl
          refine lv_aload_n hx hb d_GR_writePart_88 rfl (lv_at hl 0 rfl) ?_
          refine lv_aload_n hx hb d_GR_writePart_89 rfl (lv_at hl 1 rfl) ?_
          refine mt_Vv (As := [.ref aW]) (rest := []) (wr := []) ⟨hx, hb, hml, hown, hT⟩ (c_GR_writeRow l D cB cI aU aS aY aP aGk aGh aGf aGl aGn aGv aW aB L9 U9 A9 ngr held gsum gvl_7 _ place_8 limit_8 full_8 b_8 (hh) hi_8) (cwV 1 hT (gV_of k_835 k_837 kp_GR_writeRow k_9 kc_GR_writeRow) rfl rfl rfl hd_GR_writeRow ⟨Nat.le_of_ble_eq_true rfl, Nat.le_of_ble_eq_true rfl⟩) hk hP hD hS hA [0, 1, 2, 3, 4] [] rfl rfl rfl (by decide) (by decide) (by decide) (q0 := 0) rfl rfl rfl rfl hl.1 rfl (Nat.le_of_ble_eq_true rfl) d_GR_writePart_90 ⟨Nat.zero_le _, Nat.zero_le _⟩ (fun u_9 H locs hw_9 hP hD hS => ?_)
          obtain ⟨place_9, limit_9, full_9, b_9⟩ := u_9
          obtain ⟨hw_9, hi_9⟩ := hw_9
          have hP : va_P D vwCl [(aU, .inr (7, [.ref aS, .ref aY, .ref aP, .ref aGk, .ref aGh, .ref aGf, .ref aGl, .ref aGn, .int ngr, .ref aGv, .int held, .long gsum])), (aW, .inr (1, [.ref aS, .int place_9, .int limit_9, .int (b2i full_9)])), (aS, .inr (0, [.ref aB])), (aB, .inl (cB, 202000, .inl (by_ b_9))), (aGv, .inl (cI, 200, .inl gvl_7))] H := hP.sub [0, 1, 2, 3, 4] rfl
          have hD : va_D A [(aU, .inr (7, [.ref aS, .ref aY, .ref aP, .ref aGk, .ref aGh, .ref aGf, .ref aGl, .ref aGn, .int ngr, .ref aGv, .int held, .long gsum])), (aW, .inr (1, [.ref aS, .int place_9, .int limit_9, .int (b2i full_9)])), (aS, .inr (0, [.ref aB])), (aB, .inl (cB, 202000, .inl (by_ b_9))), (aGv, .inl (cI, 200, .inl gvl_7))] := hD.sub [0, 1, 2, 3, 4] (by decide) rfl
          refine lv_goto (tgt := 185) hx hb d_GR_writePart_93 (by decide) ?_
          exact W.vret hx hb hr (fun t ht hW => ⟨⟨(gsum, place_9, limit_9, full_9, b_9, gvl_7), rfl, ⟨(by rw [tw_GR_writePart, if_neg c_1, if_neg c_2, if_pos c_3, if_pos c_4, ← hw_7, tp1_mk, ← hw_8, tp4_mk, ← hw_9, tp4_mk]; first | done | rfl), hi_9⟩, by rw [ht]; exact hP, hD⟩, hS.F ht⟩) hS.2.2 d_GR_writePart_185
      · refine lv_iload hx hb d_GR_writePart_63 (lv_at hl 4 rfl) ?_
        refine lv_bipush (v := 8) hx hb d_GR_writePart_65 (by decide) ?_
        refine lv_icmp_ne (tgt := 96) hx hb d_GR_writePart_67 (by decide) (fun c_10 => ?_) (fun c_10 => ?_)
        · refine lv_iload hx hb d_GR_writePart_96 (lv_at hl 4 rfl) ?_
          refine lv_iconst (v := 3) hx hb d_GR_writePart_98 (by decide) ?_
          refine lv_icmp_ne (tgt := 110) hx hb d_GR_writePart_99 (by decide) (fun c_11 => ?_) (fun c_11 => ?_)
          · refine lv_iload hx hb d_GR_writePart_110 (lv_at hl 4 rfl) ?_
            refine lv_iconst (v := 4) hx hb d_GR_writePart_112 (by decide) ?_
            refine lv_icmp_ne (tgt := 124) hx hb d_GR_writePart_113 (by decide) (fun c_12 => ?_) (fun c_12 => ?_)
            · refine lv_aload_n hx hb d_GR_writePart_124 rfl (lv_at hl 0 rfl) ?_
              refine lv_iload hx hb d_GR_writePart_125 (lv_at hl 4 rfl) ?_
              refine lv_bipush (v := 6) hx hb d_GR_writePart_127 (by decide) ?_
              refine lv_icmp_ne (tgt := 136) hx hb d_GR_writePart_129 (by decide) (fun c_13 => ?_) (fun c_13 => ?_)
              · refine lv_iconst (v := 0) hx hb d_GR_writePart_136 (by decide) ?_
                refine rd_V (val := tw_GR_outermost held gvl 0) (As := [.int 0]) (rest := []) ⟨hx, hb, hml, hown, hT⟩ (c_GR_outermost l D cB cI aU aS aY aP aGk aGh aGf aGl aGn aGv ngr held gsum gvl 0) (cwV 1 hT (gV_of k_845 k_847 kp_GR_outermost k_9 kc_GR_outermost) rfl rfl rfl hd_GR_outermost ⟨Nat.le_of_ble_eq_true rfl, Nat.le_of_ble_eq_true rfl⟩) hk (hP.sub (ws' := [(aU, .inr (7, [.ref aS, .ref aY, .ref aP, .ref aGk, .ref aGh, .ref aGf, .ref aGl, .ref aGn, .int ngr, .ref aGv, .int held, .long gsum])), (aGv, .inl (cI, 200, .inl gvl))]) [0, 4] rfl) (q0 := 0) rfl rfl rfl rfl hl.1 rfl (Nat.le_of_ble_eq_true rfl) d_GR_writePart_137 ⟨Nat.zero_le _, Nat.zero_le _⟩ ?_
                refine lv_istore (lv' := [(5, .int (tw_GR_outermost held gvl 0)), (0, .ref aU), (1, .ref aW), (2, .int p1), (3, .int p2), (4, .int p3)]) hx hb d_GR_writePart_140 hl (by decide) rfl (fun ls hl => ?_)
                refine lv_iload hx hb d_GR_writePart_142 (lv_at hl 0 rfl) ?_
                refine lv_if_ne (tgt := 152) hx hb d_GR_writePart_144 (by decide) (fun c_14 => ?_) (fun c_14 => ?_)
                · refine lv_iload hx hb d_GR_writePart_152 (lv_at hl 0 rfl) ?_
                  refine lv_istore (lv' := [(6, .int (tw_GR_outermost held gvl 0)), (5, .int (tw_GR_outermost held gvl 0)), (0, .ref aU), (1, .ref aW), (2, .int p1), (3, .int p2), (4, .int p3)]) hx hb d_GR_writePart_154 hl (by decide) rfl (fun ls hl => ?_)
                  refine lv_aload_n hx hb d_GR_writePart_156 rfl (lv_at hl 3 rfl) ?_
                  refine lv_iload hx hb d_GR_writePart_157 (lv_at hl 0 rfl) ?_
                  refine rd_S (val := tw_ST_kindOf (tw_GR_outermost held gvl 0)) (As := [.int (tw_GR_outermost held gvl 0)]) (rest := [.ref aW]) ⟨hx, hb, hml, hown, hT⟩ (c_ST_kindOf l D cB cI (tw_GR_outermost held gvl 0)) (va_cwS 1 hT (gS_of k_711 k_555 k_2 kc_ST_kindOf) rfl rfl rfl hd_ST_kindOf ⟨Nat.le_of_ble_eq_true rfl, Nat.le_of_ble_eq_true rfl⟩) hk (va_P_nil) rfl hl.1 rfl (Nat.le_of_ble_eq_true rfl) d_GR_writePart_159 ⟨Nat.zero_le _, Nat.zero_le _⟩ ?_
                  refine lv_iload_n hx hb d_GR_writePart_162 rfl (lv_at hl 4 rfl) ?_
                  refine lv_iload_n hx hb d_GR_writePart_163 rfl (lv_at hl 5 rfl) ?_
                  refine mt_Vv (As := [.int (tw_ST_kindOf (tw_GR_outermost held gvl 0)), .int p1, .int p2]) (rest := []) (wr := [(aU, .inr (7, [.ref aS, .ref aY, .ref aP, .ref aGk, .ref aGh, .ref aGf, .ref aGl, .ref aGn, .int ngr, .ref aGv, .int held, .long gsum])), (aGv, .inl (cI, 200, .inl gvl))]) ⟨hx, hb, hml, hown, hT⟩ (c_WR_name l D cB cI aW aS aB L9 U9 A9 _ place limit full b (tw_ST_kindOf (tw_GR_outermost held gvl 0)) p1 p2 (hc) hi) (cwV 3 hT (gV_of k_821 k_653 k_654 k_5 kc_WR_name) rfl rfl rfl hd_WR_name ⟨Nat.le_of_ble_eq_true rfl, Nat.le_of_ble_eq_true rfl⟩) hk hP hD hS hA [1, 2, 3] [0, 4] rfl rfl rfl (by decide) (by decide) (by decide) (q0 := 0) rfl rfl rfl rfl hl.1 rfl (Nat.le_of_ble_eq_true rfl) d_GR_writePart_164 ⟨Nat.zero_le _, Nat.zero_le _⟩ (fun u_15 H locs hw_15 hP hD hS => ?_)
                  obtain ⟨place_15, limit_15, full_15, b_15⟩ := u_15
                  obtain ⟨hw_15, hi_15⟩ := hw_15
                  have hP : va_P D vwCl [(aU, .inr (7, [.ref aS, .ref aY, .ref aP, .ref aGk, .ref aGh, .ref aGf, .ref aGl, .ref aGn, .int ngr, .ref aGv, .int held, .long gsum])), (aW, .inr (1, [.ref aS, .int place_15, .int limit_15, .int (b2i full_15)])), (aS, .inr (0, [.ref aB])), (aB, .inl (cB, 202000, .inl (by_ b_15))), (aGv, .inl (cI, 200, .inl gvl))] H := hP.sub [0, 2, 3, 4, 1] rfl
                  have hD : va_D A [(aU, .inr (7, [.ref aS, .ref aY, .ref aP, .ref aGk, .ref aGh, .ref aGf, .ref aGl, .ref aGn, .int ngr, .ref aGv, .int held, .long gsum])), (aW, .inr (1, [.ref aS, .int place_15, .int limit_15, .int (b2i full_15)])), (aS, .inr (0, [.ref aB])), (aB, .inl (cB, 202000, .inl (by_ b_15))), (aGv, .inl (cI, 200, .inl gvl))] := hD.sub [0, 2, 3, 4, 1] (by decide) rfl
                  refine lv_aload_n hx hb d_GR_writePart_167 rfl (lv_at hl 3 rfl) ?_
                  refine lv_iload hx hb d_GR_writePart_168 (lv_at hl 0 rfl) ?_
                  refine rd_S (val := tw_ST_placeOf (tw_GR_outermost held gvl 0)) (As := [.int (tw_GR_outermost held gvl 0)]) (rest := [.ref aW]) ⟨hx, hb, hml, hown, hT⟩ (c_ST_placeOf l D cB cI (tw_GR_outermost held gvl 0)) (va_cwS 1 hT (gS_of k_714 k_403 k_2 kc_ST_placeOf) rfl rfl rfl hd_ST_placeOf ⟨Nat.le_of_ble_eq_true rfl, Nat.le_of_ble_eq_true rfl⟩) hk (va_P_nil) rfl hl.1 rfl (Nat.le_of_ble_eq_true rfl) d_GR_writePart_170 ⟨Nat.zero_le _, Nat.zero_le _⟩ ?_
                  refine lv_aload_n hx hb d_GR_writePart_173 rfl (lv_at hl 2 rfl) ?_
                  refine va_get (D := D) (ci := 7) (v := .ref aS) (C := R_GR) (T := T_GR) (N := 12) hx hb hT u_GR hown hK hP 0 rfl rfl 0 (by decide) (hT _ k_212) (fun _ h9 => h9) rfl d_GR_writePart_174 ?_
                  refine lv_iload hx hb d_GR_writePart_177 (lv_at hl 0 rfl) ?_
                  refine rd_V (val := tw_ST_endOf b_15 (tw_GR_outermost held gvl 0)) (As := [.int (tw_GR_outermost held gvl 0)]) (rest := [.int (tw_ST_placeOf (tw_GR_outermost held gvl 0)), .ref aW]) ⟨hx, hb, hml, hown, hT⟩ (c_ST_endOf l D cB cI aS aB b_15 (tw_GR_outermost held gvl 0)) (cwV 1 hT (gV_of k_713 k_416 k_417 k_2 kc_ST_endOf) rfl rfl rfl hd_ST_endOf ⟨Nat.le_of_ble_eq_true rfl, Nat.le_of_ble_eq_true rfl⟩) hk (hP.sub (ws' := [(aS, .inr (0, [.ref aB])), (aB, .inl (cB, 202000, .inl (by_ b_15)))]) [2, 3] rfl) (q0 := 0) rfl rfl rfl rfl hl.1 rfl (Nat.le_of_ble_eq_true rfl) d_GR_writePart_179 ⟨Nat.zero_le _, Nat.zero_le _⟩ ?_
                  refine mt_Vv (As := [.int (tw_ST_placeOf (tw_GR_outermost held gvl 0)), .int (tw_ST_endOf b_15 (tw_GR_outermost held gvl 0))]) (rest := []) (wr := [(aU, .inr (7, [.ref aS, .ref aY, .ref aP, .ref aGk, .ref aGh, .ref aGf, .ref aGl, .ref aGn, .int ngr, .ref aGv, .int held, .long gsum])), (aGv, .inl (cI, 200, .inl gvl))]) ⟨hx, hb, hml, hown, hT⟩ (c_WR_copy l D cB cI aW aS aB L9 U9 A9 _ place_15 limit_15 full_15 b_15 (tw_ST_placeOf (tw_GR_outermost held gvl 0)) (tw_ST_endOf b_15 (tw_GR_outermost held gvl 0)) (Or.inl (pl_le _)) hi_15) (cwV 2 hT (gV_of k_822 k_451 k_452 k_5 kc_WR_copy) rfl rfl rfl hd_WR_copy ⟨Nat.le_of_ble_eq_true rfl, Nat.le_of_ble_eq_true rfl⟩) hk hP hD hS hA [1, 2, 3] [0, 4] rfl rfl rfl (by decide) (by decide) (by decide) (q0 := 0) rfl rfl rfl rfl hl.1 rfl (Nat.le_of_ble_eq_true rfl) d_GR_writePart_182 ⟨Nat.zero_le _, Nat.zero_le _⟩ (fun u_16 H locs hw_16 hP hD hS => ?_)
                  obtain ⟨place_16, limit_16, full_16, b_16⟩ := u_16
                  obtain ⟨hw_16, hi_16⟩ := hw_16
                  have hP : va_P D vwCl [(aU, .inr (7, [.ref aS, .ref aY, .ref aP, .ref aGk, .ref aGh, .ref aGf, .ref aGl, .ref aGn, .int ngr, .ref aGv, .int held, .long gsum])), (aW, .inr (1, [.ref aS, .int place_16, .int limit_16, .int (b2i full_16)])), (aS, .inr (0, [.ref aB])), (aB, .inl (cB, 202000, .inl (by_ b_16))), (aGv, .inl (cI, 200, .inl gvl))] H := hP.sub [0, 2, 3, 4, 1] rfl
                  have hD : va_D A [(aU, .inr (7, [.ref aS, .ref aY, .ref aP, .ref aGk, .ref aGh, .ref aGf, .ref aGl, .ref aGn, .int ngr, .ref aGv, .int held, .long gsum])), (aW, .inr (1, [.ref aS, .int place_16, .int limit_16, .int (b2i full_16)])), (aS, .inr (0, [.ref aB])), (aB, .inl (cB, 202000, .inl (by_ b_16))), (aGv, .inl (cI, 200, .inl gvl))] := hD.sub [0, 2, 3, 4, 1] (by decide) rfl
                  exact W.vret hx hb hr (fun t ht hW => ⟨⟨(gsum, place_16, limit_16, full_16, b_16, gvl), rfl, ⟨(by rw [tw_GR_writePart, if_neg c_1, if_neg c_2, if_neg c_3, if_neg c_10, if_neg c_11, if_neg c_12, if_neg c_13, if_neg c_14, ← hw_15, tp4_mk, ← hw_16, tp4_mk]; first | done | rfl), hi_16⟩, by rw [ht]; exact hP, hD⟩, hS.F ht⟩) hS.2.2 d_GR_writePart_185
                · refine lv_bipush (v := 10) hx hb d_GR_writePart_147 (by decide) ?_
                  refine lv_goto (tgt := 154) hx hb d_GR_writePart_149 (by decide) ?_
                  refine lv_istore (lv' := [(6, .int 10), (5, .int (tw_GR_outermost held gvl 0)), (0, .ref aU), (1, .ref aW), (2, .int p1), (3, .int p2), (4, .int p3)]) hx hb d_GR_writePart_154 hl (by decide) rfl (fun ls hl => ?_)
                  refine lv_aload_n hx hb d_GR_writePart_156 rfl (lv_at hl 3 rfl) ?_
                  refine lv_iload hx hb d_GR_writePart_157 (lv_at hl 0 rfl) ?_
                  refine rd_S (val := tw_ST_kindOf 10) (As := [.int 10]) (rest := [.ref aW]) ⟨hx, hb, hml, hown, hT⟩ (c_ST_kindOf l D cB cI 10) (va_cwS 1 hT (gS_of k_711 k_555 k_2 kc_ST_kindOf) rfl rfl rfl hd_ST_kindOf ⟨Nat.le_of_ble_eq_true rfl, Nat.le_of_ble_eq_true rfl⟩) hk (va_P_nil) rfl hl.1 rfl (Nat.le_of_ble_eq_true rfl) d_GR_writePart_159 ⟨Nat.zero_le _, Nat.zero_le _⟩ ?_
                  refine lv_iload_n hx hb d_GR_writePart_162 rfl (lv_at hl 4 rfl) ?_
                  refine lv_iload_n hx hb d_GR_writePart_163 rfl (lv_at hl 5 rfl) ?_
                  refine mt_Vv (As := [.int (tw_ST_kindOf 10), .int p1, .int p2]) (rest := []) (wr := [(aU, .inr (7, [.ref aS, .ref aY, .ref aP, .ref aGk, .ref aGh, .ref aGf, .ref aGl, .ref aGn, .int ngr, .ref aGv, .int held, .long gsum])), (aGv, .inl (cI, 200, .inl gvl))]) ⟨hx, hb, hml, hown, hT⟩ (c_WR_name l D cB cI aW aS aB L9 U9 A9 _ place limit full b (tw_ST_kindOf 10) p1 p2 (hc) hi) (cwV 3 hT (gV_of k_821 k_653 k_654 k_5 kc_WR_name) rfl rfl rfl hd_WR_name ⟨Nat.le_of_ble_eq_true rfl, Nat.le_of_ble_eq_true rfl⟩) hk hP hD hS hA [1, 2, 3] [0, 4] rfl rfl rfl (by decide) (by decide) (by decide) (q0 := 0) rfl rfl rfl rfl hl.1 rfl (Nat.le_of_ble_eq_true rfl) d_GR_writePart_164 ⟨Nat.zero_le _, Nat.zero_le _⟩ (fun u_17 H locs hw_17 hP hD hS => ?_)
                  obtain ⟨place_17, limit_17, full_17, b_17⟩ := u_17
                  obtain ⟨hw_17, hi_17⟩ := hw_17
                  have hP : va_P D vwCl [(aU, .inr (7, [.ref aS, .ref aY, .ref aP, .ref aGk, .ref aGh, .ref aGf, .ref aGl, .ref aGn, .int ngr, .ref aGv, .int held, .long gsum])), (aW, .inr (1, [.ref aS, .int place_17, .int limit_17, .int (b2i full_17)])), (aS, .inr (0, [.ref aB])), (aB, .inl (cB, 202000, .inl (by_ b_17))), (aGv, .inl (cI, 200, .inl gvl))] H := hP.sub [0, 2, 3, 4, 1] rfl
                  have hD : va_D A [(aU, .inr (7, [.ref aS, .ref aY, .ref aP, .ref aGk, .ref aGh, .ref aGf, .ref aGl, .ref aGn, .int ngr, .ref aGv, .int held, .long gsum])), (aW, .inr (1, [.ref aS, .int place_17, .int limit_17, .int (b2i full_17)])), (aS, .inr (0, [.ref aB])), (aB, .inl (cB, 202000, .inl (by_ b_17))), (aGv, .inl (cI, 200, .inl gvl))] := hD.sub [0, 2, 3, 4, 1] (by decide) rfl
                  refine lv_aload_n hx hb d_GR_writePart_167 rfl (lv_at hl 3 rfl) ?_
                  refine lv_iload hx hb d_GR_writePart_168 (lv_at hl 0 rfl) ?_
                  refine rd_S (val := tw_ST_placeOf 10) (As := [.int 10]) (rest := [.ref aW]) ⟨hx, hb, hml, hown, hT⟩ (c_ST_placeOf l D cB cI 10) (va_cwS 1 hT (gS_of k_714 k_403 k_2 kc_ST_placeOf) rfl rfl rfl hd_ST_placeOf ⟨Nat.le_of_ble_eq_true rfl, Nat.le_of_ble_eq_true rfl⟩) hk (va_P_nil) rfl hl.1 rfl (Nat.le_of_ble_eq_true rfl) d_GR_writePart_170 ⟨Nat.zero_le _, Nat.zero_le _⟩ ?_
                  refine lv_aload_n hx hb d_GR_writePart_173 rfl (lv_at hl 2 rfl) ?_
                  refine va_get (D := D) (ci := 7) (v := .ref aS) (C := R_GR) (T := T_GR) (N := 12) hx hb hT u_GR hown hK hP 0 rfl rfl 0 (by decide) (hT _ k_212) (fun _ h9 => h9) rfl d_GR_writePart_174 ?_
                  refine lv_iload hx hb d_GR_writePart_177 (lv_at hl 0 rfl) ?_
                  refine rd_V (val := tw_ST_endOf b_17 10) (As := [.int 10]) (rest := [.int (tw_ST_placeOf 10), .ref aW]) ⟨hx, hb, hml, hown, hT⟩ (c_ST_endOf l D cB cI aS aB b_17 10) (cwV 1 hT (gV_of k_713 k_416 k_417 k_2 kc_ST_endOf) rfl rfl rfl hd_ST_endOf ⟨Nat.le_of_ble_eq_true rfl, Nat.le_of_ble_eq_true rfl⟩) hk (hP.sub (ws' := [(aS, .inr (0, [.ref aB])), (aB, .inl (cB, 202000, .inl (by_ b_17)))]) [2, 3] rfl) (q0 := 0) rfl rfl rfl rfl hl.1 rfl (Nat.le_of_ble_eq_true rfl) d_GR_writePart_179 ⟨Nat.zero_le _, Nat.zero_le _⟩ ?_
                  refine mt_Vv (As := [.int (tw_ST_placeOf 10), .int (tw_ST_endOf b_17 10)]) (rest := []) (wr := [(aU, .inr (7, [.ref aS, .ref aY, .ref aP, .ref aGk, .ref aGh, .ref aGf, .ref aGl, .ref aGn, .int ngr, .ref aGv, .int held, .long gsum])), (aGv, .inl (cI, 200, .inl gvl))]) ⟨hx, hb, hml, hown, hT⟩ (c_WR_copy l D cB cI aW aS aB L9 U9 A9 _ place_17 limit_17 full_17 b_17 (tw_ST_placeOf 10) (tw_ST_endOf b_17 10) (Or.inl (pl_le _)) hi_17) (cwV 2 hT (gV_of k_822 k_451 k_452 k_5 kc_WR_copy) rfl rfl rfl hd_WR_copy ⟨Nat.le_of_ble_eq_true rfl, Nat.le_of_ble_eq_true rfl⟩) hk hP hD hS hA [1, 2, 3] [0, 4] rfl rfl rfl (by decide) (by decide) (by decide) (q0 := 0) rfl rfl rfl rfl hl.1 rfl (Nat.le_of_ble_eq_true rfl) d_GR_writePart_182 ⟨Nat.zero_le _, Nat.zero_le _⟩ (fun u_18 H locs hw_18 hP hD hS => ?_)
                  obtain ⟨place_18, limit_18, full_18, b_18⟩ := u_18
                  obtain ⟨hw_18, hi_18⟩ := hw_18
                  have hP : va_P D vwCl [(aU, .inr (7, [.ref aS, .ref aY, .ref aP, .ref aGk, .ref aGh, .ref aGf, .ref aGl, .ref aGn, .int ngr, .ref aGv, .int held, .long gsum])), (aW, .inr (1, [.ref aS, .int place_18, .int limit_18, .int (b2i full_18)])), (aS, .inr (0, [.ref aB])), (aB, .inl (cB, 202000, .inl (by_ b_18))), (aGv, .inl (cI, 200, .inl gvl))] H := hP.sub [0, 2, 3, 4, 1] rfl
                  have hD : va_D A [(aU, .inr (7, [.ref aS, .ref aY, .ref aP, .ref aGk, .ref aGh, .ref aGf, .ref aGl, .ref aGn, .int ngr, .ref aGv, .int held, .long gsum])), (aW, .inr (1, [.ref aS, .int place_18, .int limit_18, .int (b2i full_18)])), (aS, .inr (0, [.ref aB])), (aB, .inl (cB, 202000, .inl (by_ b_18))), (aGv, .inl (cI, 200, .inl gvl))] := hD.sub [0, 2, 3, 4, 1] (by decide) rfl
                  exact W.vret hx hb hr (fun t ht hW => ⟨⟨(gsum, place_18, limit_18, full_18, b_18, gvl), rfl, ⟨(by rw [tw_GR_writePart, if_neg c_1, if_neg c_2, if_neg c_3, if_neg c_10, if_neg c_11, if_neg c_12, if_neg c_13, if_pos c_14, ← hw_17, tp4_mk, ← hw_18, tp4_mk]; first | done | rfl), hi_18⟩, by rw [ht]; exact hP, hD⟩, hS.F ht⟩) hS.2.2 d_GR_writePart_185
              · refine lv_iconst (v := 1) hx hb d_GR_writePart_132 (by decide) ?_
                refine lv_goto (tgt := 137) hx hb d_GR_writePart_133 (by decide) ?_
                refine rd_V (val := tw_GR_outermost held gvl 1) (As := [.int 1]) (rest := []) ⟨hx, hb, hml, hown, hT⟩ (c_GR_outermost l D cB cI aU aS aY aP aGk aGh aGf aGl aGn aGv ngr held gsum gvl 1) (cwV 1 hT (gV_of k_845 k_847 kp_GR_outermost k_9 kc_GR_outermost) rfl rfl rfl hd_GR_outermost ⟨Nat.le_of_ble_eq_true rfl, Nat.le_of_ble_eq_true rfl⟩) hk (hP.sub (ws' := [(aU, .inr (7, [.ref aS, .ref aY, .ref aP, .ref aGk, .ref aGh, .ref aGf, .ref aGl, .ref aGn, .int ngr, .ref aGv, .int held, .long gsum])), (aGv, .inl (cI, 200, .inl gvl))]) [0, 4] rfl) (q0 := 0) rfl rfl rfl rfl hl.1 rfl (Nat.le_of_ble_eq_true rfl) d_GR_writePart_137 ⟨Nat.zero_le _, Nat.zero_le _⟩ ?_
                refine lv_istore (lv' := [(5, .int (tw_GR_outermost held gvl 1)), (0, .ref aU), (1, .ref aW), (2, .int p1), (3, .int p2), (4, .int p3)]) hx hb d_GR_writePart_140 hl (by decide) rfl (fun ls hl => ?_)
                refine lv_iload hx hb d_GR_writePart_142 (lv_at hl 0 rfl) ?_
                refine lv_if_ne (tgt := 152) hx hb d_GR_writePart_144 (by decide) (fun c_19 => ?_) (fun c_19 => ?_)
                · refine lv_iload hx hb d_GR_writePart_152 (lv_at hl 0 rfl) ?_
                  refine lv_istore (lv' := [(6, .int (tw_GR_outermost held gvl 1)), (5, .int (tw_GR_outermost held gvl 1)), (0, .ref aU), (1, .ref aW), (2, .int p1), (3, .int p2), (4, .int p3)]) hx hb d_GR_writePart_154 hl (by decide) rfl (fun ls hl => ?_)
                  refine lv_aload_n hx hb d_GR_writePart_156 rfl (lv_at hl 3 rfl) ?_
                  refine lv_iload hx hb d_GR_writePart_157 (lv_at hl 0 rfl) ?_
                  refine rd_S (val := tw_ST_kindOf (tw_GR_outermost held gvl 1)) (As := [.int (tw_GR_outermost held gvl 1)]) (rest := [.ref aW]) ⟨hx, hb, hml, hown, hT⟩ (c_ST_kindOf l D cB cI (tw_GR_outermost held gvl 1)) (va_cwS 1 hT (gS_of k_711 k_555 k_2 kc_ST_kindOf) rfl rfl rfl hd_ST_kindOf ⟨Nat.le_of_ble_eq_true rfl, Nat.le_of_ble_eq_true rfl⟩) hk (va_P_nil) rfl hl.1 rfl (Nat.le_of_ble_eq_true rfl) d_GR_writePart_159 ⟨Nat.zero_le _, Nat.zero_le _⟩ ?_
                  refine lv_iload_n hx hb d_GR_writePart_162 rfl (lv_at hl 4 rfl) ?_
                  refine lv_iload_n hx hb d_GR_writePart_163 rfl (lv_at hl 5 rfl) ?_
                  refine mt_Vv (As := [.int (tw_ST_kindOf (tw_GR_outermost held gvl 1)), .int p1, .int p2]) (rest := []) (wr := [(aU, .inr (7, [.ref aS, .ref aY, .ref aP, .ref aGk, .ref aGh, .ref aGf, .ref aGl, .ref aGn, .int ngr, .ref aGv, .int held, .long gsum])), (aGv, .inl (cI, 200, .inl gvl))]) ⟨hx, hb, hml, hown, hT⟩ (c_WR_name l D cB cI aW aS aB L9 U9 A9 _ place limit full b (tw_ST_kindOf (tw_GR_outermost held gvl 1)) p1 p2 (hc) hi) (cwV 3 hT (gV_of k_821 k_653 k_654 k_5 kc_WR_name) rfl rfl rfl hd_WR_name ⟨Nat.le_of_ble_eq_true rfl, Nat.le_of_ble_eq_true rfl⟩) hk hP hD hS hA [1, 2, 3] [0, 4] rfl rfl rfl (by decide) (by decide) (by decide) (q0 := 0) rfl rfl rfl rfl hl.1 rfl (Nat.le_of_ble_eq_true rfl) d_GR_writePart_164 ⟨Nat.zero_le _, Nat.zero_le _⟩ (fun u_20 H locs hw_20 hP hD hS => ?_)
                  obtain ⟨place_20, limit_20, full_20, b_20⟩ := u_20
                  obtain ⟨hw_20, hi_20⟩ := hw_20
                  have hP : va_P D vwCl [(aU, .inr (7, [.ref aS, .ref aY, .ref aP, .ref aGk, .ref aGh, .ref aGf, .ref aGl, .ref aGn, .int ngr, .ref aGv, .int held, .long gsum])), (aW, .inr (1, [.ref aS, .int place_20, .int limit_20, .int (b2i full_20)])), (aS, .inr (0, [.ref aB])), (aB, .inl (cB, 202000, .inl (by_ b_20))), (aGv, .inl (cI, 200, .inl gvl))] H := hP.sub [0, 2, 3, 4, 1] rfl
                  have hD : va_D A [(aU, .inr (7, [.ref aS, .ref aY, .ref aP, .ref aGk, .ref aGh, .ref aGf, .ref aGl, .ref aGn, .int ngr, .ref aGv, .int held, .long gsum])), (aW, .inr (1, [.ref aS, .int place_20, .int limit_20, .int (b2i full_20)])), (aS, .inr (0, [.ref aB])), (aB, .inl (cB, 202000, .inl (by_ b_20))), (aGv, .inl (cI, 200, .inl gvl))] := hD.sub [0, 2, 3, 4, 1] (by decide) rfl
                  refine lv_aload_n hx hb d_GR_writePart_167 rfl (lv_at hl 3 rfl) ?_
                  refine lv_iload hx hb d_GR_writePart_168 (lv_at hl 0 rfl) ?_
                  refine rd_S (val := tw_ST_placeOf (tw_GR_outermost held gvl 1)) (As := [.int (tw_GR_outermost held gvl 1)]) (rest := [.ref aW]) ⟨hx, hb, hml, hown, hT⟩ (c_ST_placeOf l D cB cI (tw_GR_outermost held gvl 1)) (va_cwS 1 hT (gS_of k_714 k_403 k_2 kc_ST_placeOf) rfl rfl rfl hd_ST_placeOf ⟨Nat.le_of_ble_eq_true rfl, Nat.le_of_ble_eq_true rfl⟩) hk (va_P_nil) rfl hl.1 rfl (Nat.le_of_ble_eq_true rfl) d_GR_writePart_170 ⟨Nat.zero_le _, Nat.zero_le _⟩ ?_
                  refine lv_aload_n hx hb d_GR_writePart_173 rfl (lv_at hl 2 rfl) ?_
                  refine va_get (D := D) (ci := 7) (v := .ref aS) (C := R_GR) (T := T_GR) (N := 12) hx hb hT u_GR hown hK hP 0 rfl rfl 0 (by decide) (hT _ k_212) (fun _ h9 => h9) rfl d_GR_writePart_174 ?_
                  refine lv_iload hx hb d_GR_writePart_177 (lv_at hl 0 rfl) ?_
                  refine rd_V (val := tw_ST_endOf b_20 (tw_GR_outermost held gvl 1)) (As := [.int (tw_GR_outermost held gvl 1)]) (rest := [.int (tw_ST_placeOf (tw_GR_outermost held gvl 1)), .ref aW]) ⟨hx, hb, hml, hown, hT⟩ (c_ST_endOf l D cB cI aS aB b_20 (tw_GR_outermost held gvl 1)) (cwV 1 hT (gV_of k_713 k_416 k_417 k_2 kc_ST_endOf) rfl rfl rfl hd_ST_endOf ⟨Nat.le_of_ble_eq_true rfl, Nat.le_of_ble_eq_true rfl⟩) hk (hP.sub (ws' := [(aS, .inr (0, [.ref aB])), (aB, .inl (cB, 202000, .inl (by_ b_20)))]) [2, 3] rfl) (q0 := 0) rfl rfl rfl rfl hl.1 rfl (Nat.le_of_ble_eq_true rfl) d_GR_writePart_179 ⟨Nat.zero_le _, Nat.zero_le _⟩ ?_
                  refine mt_Vv (As := [.int (tw_ST_placeOf (tw_GR_outermost held gvl 1)), .int (tw_ST_endOf b_20 (tw_GR_outermost held gvl 1))]) (rest := []) (wr := [(aU, .inr (7, [.ref aS, .ref aY, .ref aP, .ref aGk, .ref aGh, .ref aGf, .ref aGl, .ref aGn, .int ngr, .ref aGv, .int held, .long gsum])), (aGv, .inl (cI, 200, .inl gvl))]) ⟨hx, hb, hml, hown, hT⟩ (c_WR_copy l D cB cI aW aS aB L9 U9 A9 _ place_20 limit_20 full_20 b_20 (tw_ST_placeOf (tw_GR_outermost held gvl 1)) (tw_ST_endOf b_20 (tw_GR_outermost held gvl 1)) (Or.inl (pl_le _)) hi_20) (cwV 2 hT (gV_of k_822 k_451 k_452 k_5 kc_WR_copy) rfl rfl rfl hd_WR_copy ⟨Nat.le_of_ble_eq_true rfl, Nat.le_of_ble_eq_true rfl⟩) hk hP hD hS hA [1, 2, 3] [0, 4] rfl rfl rfl (by decide) (by decide) (by decide) (q0 := 0) rfl rfl rfl rfl hl.1 rfl (Nat.le_of_ble_eq_true rfl) d_GR_writePart_182 ⟨Nat.zero_le _, Nat.zero_le _⟩ (fun u_21 H locs hw_21 hP hD hS => ?_)
                  obtain ⟨place_21, limit_21, full_21, b_21⟩ := u_21
                  obtain ⟨hw_21, hi_21⟩ := hw_21
                  have hP : va_P D vwCl [(aU, .inr (7, [.ref aS, .ref aY, .ref aP, .ref aGk, .ref aGh, .ref aGf, .ref aGl, .ref aGn, .int ngr, .ref aGv, .int held, .long gsum])), (aW, .inr (1, [.ref aS, .int place_21, .int limit_21, .int (b2i full_21)])), (aS, .inr (0, [.ref aB])), (aB, .inl (cB, 202000, .inl (by_ b_21))), (aGv, .inl (cI, 200, .inl gvl))] H := hP.sub [0, 2, 3, 4, 1] rfl
                  have hD : va_D A [(aU, .inr (7, [.ref aS, .ref aY, .ref aP, .ref aGk, .ref aGh, .ref aGf, .ref aGl, .ref aGn, .int ngr, .ref aGv, .int held, .long gsum])), (aW, .inr (1, [.ref aS, .int place_21, .int limit_21, .int (b2i full_21)])), (aS, .inr (0, [.ref aB])), (aB, .inl (cB, 202000, .inl (by_ b_21))), (aGv, .inl (cI, 200, .inl gvl))] := hD.sub [0, 2, 3, 4, 1] (by decide) rfl
                  exact W.vret hx hb hr (fun t ht hW => ⟨⟨(gsum, place_21, limit_21, full_21, b_21, gvl), rfl, ⟨(by rw [tw_GR_writePart, if_neg c_1, if_neg c_2, if_neg c_3, if_neg c_10, if_neg c_11, if_neg c_12, if_pos c_13, if_neg c_19, ← hw_20, tp4_mk, ← hw_21, tp4_mk]; first | done | rfl), hi_21⟩, by rw [ht]; exact hP, hD⟩, hS.F ht⟩) hS.2.2 d_GR_writePart_185
                · refine lv_bipush (v := 10) hx hb d_GR_writePart_147 (by decide) ?_
                  refine lv_goto (tgt := 154) hx hb d_GR_writePart_149 (by decide) ?_
                  refine lv_istore (lv' := [(6, .int 10), (5, .int (tw_GR_outermost held gvl 1)), (0, .ref aU), (1, .ref aW), (2, .int p1), (3, .int p2), (4, .int p3)]) hx hb d_GR_writePart_154 hl (by decide) rfl (fun ls hl => ?_)
                  refine lv_aload_n hx hb d_GR_writePart_156 rfl (lv_at hl 3 rfl) ?_
                  refine lv_iload hx hb d_GR_writePart_157 (lv_at hl 0 rfl) ?_
                  refine rd_S (val := tw_ST_kindOf 10) (As := [.int 10]) (rest := [.ref aW]) ⟨hx, hb, hml, hown, hT⟩ (c_ST_kindOf l D cB cI 10) (va_cwS 1 hT (gS_of k_711 k_555 k_2 kc_ST_kindOf) rfl rfl rfl hd_ST_kindOf ⟨Nat.le_of_ble_eq_true rfl, Nat.le_of_ble_eq_true rfl⟩) hk (va_P_nil) rfl hl.1 rfl (Nat.le_of_ble_eq_true rfl) d_GR_writePart_159 ⟨Nat.zero_le _, Nat.zero_le _⟩ ?_
                  refine lv_iload_n hx hb d_GR_writePart_162 rfl (lv_at hl 4 rfl) ?_
                  refine lv_iload_n hx hb d_GR_writePart_163 rfl (lv_at hl 5 rfl) ?_
                  refine mt_Vv (As := [.int (tw_ST_kindOf 10), .int p1, .int p2]) (rest := []) (wr := [(aU, .inr (7, [.ref aS, .ref aY, .ref aP, .ref aGk, .ref aGh, .ref aGf, .ref aGl, .ref aGn, .int ngr, .ref aGv, .int held, .long gsum])), (aGv, .inl (cI, 200, .inl gvl))]) ⟨hx, hb, hml, hown, hT⟩ (c_WR_name l D cB cI aW aS aB L9 U9 A9 _ place limit full b (tw_ST_kindOf 10) p1 p2 (hc) hi) (cwV 3 hT (gV_of k_821 k_653 k_654 k_5 kc_WR_name) rfl rfl rfl hd_WR_name ⟨Nat.le_of_ble_eq_true rfl, Nat.le_of_ble_eq_true rfl⟩) hk hP hD hS hA [1, 2, 3] [0, 4] rfl rfl rfl (by decide) (by decide) (by decide) (q0 := 0) rfl rfl rfl rfl hl.1 rfl (Nat.le_of_ble_eq_true rfl) d_GR_writePart_164 ⟨Nat.zero_le _, Nat.zero_le _⟩ (fun u_22 H locs hw_22 hP hD hS => ?_)
                  obtain ⟨place_22, limit_22, full_22, b_22⟩ := u_22
                  obtain ⟨hw_22, hi_22⟩ := hw_22
                  have hP : va_P D vwCl [(aU, .inr (7, [.ref aS, .ref aY, .ref aP, .ref aGk, .ref aGh, .ref aGf, .ref aGl, .ref aGn, .int ngr, .ref aGv, .int held, .long gsum])), (aW, .inr (1, [.ref aS, .int place_22, .int limit_22, .int (b2i full_22)])), (aS, .inr (0, [.ref aB])), (aB, .inl (cB, 202000, .inl (by_ b_22))), (aGv, .inl (cI, 200, .inl gvl))] H := hP.sub [0, 2, 3, 4, 1] rfl
                  have hD : va_D A [(aU, .inr (7, [.ref aS, .ref aY, .ref aP, .ref aGk, .ref aGh, .ref aGf, .ref aGl, .ref aGn, .int ngr, .ref aGv, .int held, .long gsum])), (aW, .inr (1, [.ref aS, .int place_22, .int limit_22, .int (b2i full_22)])), (aS, .inr (0, [.ref aB])), (aB, .inl (cB, 202000, .inl (by_ b_22))), (aGv, .inl (cI, 200, .inl gvl))] := hD.sub [0, 2, 3, 4, 1] (by decide) rfl
                  refine lv_aload_n hx hb d_GR_writePart_167 rfl (lv_at hl 3 rfl) ?_
                  refine lv_iload hx hb d_GR_writePart_168 (lv_at hl 0 rfl) ?_
                  refine rd_S (val := tw_ST_placeOf 10) (As := [.int 10]) (rest := [.ref aW]) ⟨hx, hb, hml, hown, hT⟩ (c_ST_placeOf l D cB cI 10) (va_cwS 1 hT (gS_of k_714 k_403 k_2 kc_ST_placeOf) rfl rfl rfl hd_ST_placeOf ⟨Nat.le_of_ble_eq_true rfl, Nat.le_of_ble_eq_true rfl⟩) hk (va_P_nil) rfl hl.1 rfl (Nat.le_of_ble_eq_true rfl) d_GR_writePart_170 ⟨Nat.zero_le _, Nat.zero_le _⟩ ?_
                  refine lv_aload_n hx hb d_GR_writePart_173 rfl (lv_at hl 2 rfl) ?_
                  refine va_get (D := D) (ci := 7) (v := .ref aS) (C := R_GR) (T := T_GR) (N := 12) hx hb hT u_GR hown hK hP 0 rfl rfl 0 (by decide) (hT _ k_212) (fun _ h9 => h9) rfl d_GR_writePart_174 ?_
                  refine lv_iload hx hb d_GR_writePart_177 (lv_at hl 0 rfl) ?_
                  refine rd_V (val := tw_ST_endOf b_22 10) (As := [.int 10]) (rest := [.int (tw_ST_placeOf 10), .ref aW]) ⟨hx, hb, hml, hown, hT⟩ (c_ST_endOf l D cB cI aS aB b_22 10) (cwV 1 hT (gV_of k_713 k_416 k_417 k_2 kc_ST_endOf) rfl rfl rfl hd_ST_endOf ⟨Nat.le_of_ble_eq_true rfl, Nat.le_of_ble_eq_true rfl⟩) hk (hP.sub (ws' := [(aS, .inr (0, [.ref aB])), (aB, .inl (cB, 202000, .inl (by_ b_22)))]) [2, 3] rfl) (q0 := 0) rfl rfl rfl rfl hl.1 rfl (Nat.le_of_ble_eq_true rfl) d_GR_writePart_179 ⟨Nat.zero_le _, Nat.zero_le _⟩ ?_
                  refine mt_Vv (As := [.int (tw_ST_placeOf 10), .int (tw_ST_endOf b_22 10)]) (rest := []) (wr := [(aU, .inr (7, [.ref aS, .ref aY, .ref aP, .ref aGk, .ref aGh, .ref aGf, .ref aGl, .ref aGn, .int ngr, .ref aGv, .int held, .long gsum])), (aGv, .inl (cI, 200, .inl gvl))]) ⟨hx, hb, hml, hown, hT⟩ (c_WR_copy l D cB cI aW aS aB L9 U9 A9 _ place_22 limit_22 full_22 b_22 (tw_ST_placeOf 10) (tw_ST_endOf b_22 10) (Or.inl (pl_le _)) hi_22) (cwV 2 hT (gV_of k_822 k_451 k_452 k_5 kc_WR_copy) rfl rfl rfl hd_WR_copy ⟨Nat.le_of_ble_eq_true rfl, Nat.le_of_ble_eq_true rfl⟩) hk hP hD hS hA [1, 2, 3] [0, 4] rfl rfl rfl (by decide) (by decide) (by decide) (q0 := 0) rfl rfl rfl rfl hl.1 rfl (Nat.le_of_ble_eq_true rfl) d_GR_writePart_182 ⟨Nat.zero_le _, Nat.zero_le _⟩ (fun u_23 H locs hw_23 hP hD hS => ?_)
                  obtain ⟨place_23, limit_23, full_23, b_23⟩ := u_23
                  obtain ⟨hw_23, hi_23⟩ := hw_23
                  have hP : va_P D vwCl [(aU, .inr (7, [.ref aS, .ref aY, .ref aP, .ref aGk, .ref aGh, .ref aGf, .ref aGl, .ref aGn, .int ngr, .ref aGv, .int held, .long gsum])), (aW, .inr (1, [.ref aS, .int place_23, .int limit_23, .int (b2i full_23)])), (aS, .inr (0, [.ref aB])), (aB, .inl (cB, 202000, .inl (by_ b_23))), (aGv, .inl (cI, 200, .inl gvl))] H := hP.sub [0, 2, 3, 4, 1] rfl
                  have hD : va_D A [(aU, .inr (7, [.ref aS, .ref aY, .ref aP, .ref aGk, .ref aGh, .ref aGf, .ref aGl, .ref aGn, .int ngr, .ref aGv, .int held, .long gsum])), (aW, .inr (1, [.ref aS, .int place_23, .int limit_23, .int (b2i full_23)])), (aS, .inr (0, [.ref aB])), (aB, .inl (cB, 202000, .inl (by_ b_23))), (aGv, .inl (cI, 200, .inl gvl))] := hD.sub [0, 2, 3, 4, 1] (by decide) rfl
                  exact W.vret hx hb hr (fun t ht hW => ⟨⟨(gsum, place_23, limit_23, full_23, b_23, gvl), rfl, ⟨(by rw [tw_GR_writePart, if_neg c_1, if_neg c_2, if_neg c_3, if_neg c_10, if_neg c_11, if_neg c_12, if_pos c_13, if_pos c_19, ← hw_22, tp4_mk, ← hw_23, tp4_mk]; first | done | rfl), hi_23⟩, by rw [ht]; exact hP, hD⟩, hS.F ht⟩) hS.2.2 d_GR_writePart_185
            · refine lv_aload_n hx hb d_GR_writePart_116 rfl (lv_at hl 0 rfl) ?_
              refine lv_iconst (v := -1) hx hb d_GR_writePart_117 (by decide) ?_
              refine rd_V (val := tw_GR_least held b gvl (-1)) (As := [.int (-1)]) (rest := []) ⟨hx, hb, hml, hown, hT⟩ (c_GR_least l D cB cI aU aS aY aP aGk aGh aGf aGl aGn aGv aB ngr held gsum b gvl (-1) (hh)) (cwV 1 hT (gV_of k_841 k_843 kp_GR_least k_9 kc_GR_least) rfl rfl rfl hd_GR_least ⟨Nat.le_of_ble_eq_true rfl, Nat.le_of_ble_eq_true rfl⟩) hk (hP.sub (ws' := [(aU, .inr (7, [.ref aS, .ref aY, .ref aP, .ref aGk, .ref aGh, .ref aGf, .ref aGl, .ref aGn, .int ngr, .ref aGv, .int held, .long gsum])), (aS, .inr (0, [.ref aB])), (aB, .inl (cB, 202000, .inl (by_ b))), (aGv, .inl (cI, 200, .inl gvl))]) [0, 2, 3, 4] rfl) (q0 := 0) rfl rfl rfl rfl hl.1 rfl (Nat.le_of_ble_eq_true rfl) d_GR_writePart_118 ⟨Nat.zero_le _, Nat.zero_le _⟩ ?_
              refine lv_goto (tgt := 140) hx hb d_GR_writePart_121 (by decide) ?_
              refine lv_istore (lv' := [(5, .int (tw_GR_least held b gvl (-1))), (0, .ref aU), (1, .ref aW), (2, .int p1), (3, .int p2), (4, .int p3)]) hx hb d_GR_writePart_140 hl (by decide) rfl (fun ls hl => ?_)
              refine lv_iload hx hb d_GR_writePart_142 (lv_at hl 0 rfl) ?_
              refine lv_if_ne (tgt := 152) hx hb d_GR_writePart_144 (by decide) (fun c_24 => ?_) (fun c_24 => ?_)
              · refine lv_iload hx hb d_GR_writePart_152 (lv_at hl 0 rfl) ?_
                refine lv_istore (lv' := [(6, .int (tw_GR_least held b gvl (-1))), (5, .int (tw_GR_least held b gvl (-1))), (0, .ref aU), (1, .ref aW), (2, .int p1), (3, .int p2), (4, .int p3)]) hx hb d_GR_writePart_154 hl (by decide) rfl (fun ls hl => ?_)
                refine lv_aload_n hx hb d_GR_writePart_156 rfl (lv_at hl 3 rfl) ?_
                refine lv_iload hx hb d_GR_writePart_157 (lv_at hl 0 rfl) ?_
                refine rd_S (val := tw_ST_kindOf (tw_GR_least held b gvl (-1))) (As := [.int (tw_GR_least held b gvl (-1))]) (rest := [.ref aW]) ⟨hx, hb, hml, hown, hT⟩ (c_ST_kindOf l D cB cI (tw_GR_least held b gvl (-1))) (va_cwS 1 hT (gS_of k_711 k_555 k_2 kc_ST_kindOf) rfl rfl rfl hd_ST_kindOf ⟨Nat.le_of_ble_eq_true rfl, Nat.le_of_ble_eq_true rfl⟩) hk (va_P_nil) rfl hl.1 rfl (Nat.le_of_ble_eq_true rfl) d_GR_writePart_159 ⟨Nat.zero_le _, Nat.zero_le _⟩ ?_
                refine lv_iload_n hx hb d_GR_writePart_162 rfl (lv_at hl 4 rfl) ?_
                refine lv_iload_n hx hb d_GR_writePart_163 rfl (lv_at hl 5 rfl) ?_
                refine mt_Vv (As := [.int (tw_ST_kindOf (tw_GR_least held b gvl (-1))), .int p1, .int p2]) (rest := []) (wr := [(aU, .inr (7, [.ref aS, .ref aY, .ref aP, .ref aGk, .ref aGh, .ref aGf, .ref aGl, .ref aGn, .int ngr, .ref aGv, .int held, .long gsum])), (aGv, .inl (cI, 200, .inl gvl))]) ⟨hx, hb, hml, hown, hT⟩ (c_WR_name l D cB cI aW aS aB L9 U9 A9 _ place limit full b (tw_ST_kindOf (tw_GR_least held b gvl (-1))) p1 p2 (hc) hi) (cwV 3 hT (gV_of k_821 k_653 k_654 k_5 kc_WR_name) rfl rfl rfl hd_WR_name ⟨Nat.le_of_ble_eq_true rfl, Nat.le_of_ble_eq_true rfl⟩) hk hP hD hS hA [1, 2, 3] [0, 4] rfl rfl rfl (by decide) (by decide) (by decide) (q0 := 0) rfl rfl rfl rfl hl.1 rfl (Nat.le_of_ble_eq_true rfl) d_GR_writePart_164 ⟨Nat.zero_le _, Nat.zero_le _⟩ (fun u_25 H locs hw_25 hP hD hS => ?_)
                obtain ⟨place_25, limit_25, full_25, b_25⟩ := u_25
                obtain ⟨hw_25, hi_25⟩ := hw_25
                have hP : va_P D vwCl [(aU, .inr (7, [.ref aS, .ref aY, .ref aP, .ref aGk, .ref aGh, .ref aGf, .ref aGl, .ref aGn, .int ngr, .ref aGv, .int held, .long gsum])), (aW, .inr (1, [.ref aS, .int place_25, .int limit_25, .int (b2i full_25)])), (aS, .inr (0, [.ref aB])), (aB, .inl (cB, 202000, .inl (by_ b_25))), (aGv, .inl (cI, 200, .inl gvl))] H := hP.sub [0, 2, 3, 4, 1] rfl
                have hD : va_D A [(aU, .inr (7, [.ref aS, .ref aY, .ref aP, .ref aGk, .ref aGh, .ref aGf, .ref aGl, .ref aGn, .int ngr, .ref aGv, .int held, .long gsum])), (aW, .inr (1, [.ref aS, .int place_25, .int limit_25, .int (b2i full_25)])), (aS, .inr (0, [.ref aB])), (aB, .inl (cB, 202000, .inl (by_ b_25))), (aGv, .inl (cI, 200, .inl gvl))] := hD.sub [0, 2, 3, 4, 1] (by decide) rfl
                refine lv_aload_n hx hb d_GR_writePart_167 rfl (lv_at hl 3 rfl) ?_
                refine lv_iload hx hb d_GR_writePart_168 (lv_at hl 0 rfl) ?_
                refine rd_S (val := tw_ST_placeOf (tw_GR_least held b gvl (-1))) (As := [.int (tw_GR_least held b gvl (-1))]) (rest := [.ref aW]) ⟨hx, hb, hml, hown, hT⟩ (c_ST_placeOf l D cB cI (tw_GR_least held b gvl (-1))) (va_cwS 1 hT (gS_of k_714 k_403 k_2 kc_ST_placeOf) rfl rfl rfl hd_ST_placeOf ⟨Nat.le_of_ble_eq_true rfl, Nat.le_of_ble_eq_true rfl⟩) hk (va_P_nil) rfl hl.1 rfl (Nat.le_of_ble_eq_true rfl) d_GR_writePart_170 ⟨Nat.zero_le _, Nat.zero_le _⟩ ?_
                refine lv_aload_n hx hb d_GR_writePart_173 rfl (lv_at hl 2 rfl) ?_
                refine va_get (D := D) (ci := 7) (v := .ref aS) (C := R_GR) (T := T_GR) (N := 12) hx hb hT u_GR hown hK hP 0 rfl rfl 0 (by decide) (hT _ k_212) (fun _ h9 => h9) rfl d_GR_writePart_174 ?_
                refine lv_iload hx hb d_GR_writePart_177 (lv_at hl 0 rfl) ?_
                refine rd_V (val := tw_ST_endOf b_25 (tw_GR_least held b gvl (-1))) (As := [.int (tw_GR_least held b gvl (-1))]) (rest := [.int (tw_ST_placeOf (tw_GR_least held b gvl (-1))), .ref aW]) ⟨hx, hb, hml, hown, hT⟩ (c_ST_endOf l D cB cI aS aB b_25 (tw_GR_least held b gvl (-1))) (cwV 1 hT (gV_of k_713 k_416 k_417 k_2 kc_ST_endOf) rfl rfl rfl hd_ST_endOf ⟨Nat.le_of_ble_eq_true rfl, Nat.le_of_ble_eq_true rfl⟩) hk (hP.sub (ws' := [(aS, .inr (0, [.ref aB])), (aB, .inl (cB, 202000, .inl (by_ b_25)))]) [2, 3] rfl) (q0 := 0) rfl rfl rfl rfl hl.1 rfl (Nat.le_of_ble_eq_true rfl) d_GR_writePart_179 ⟨Nat.zero_le _, Nat.zero_le _⟩ ?_
                refine mt_Vv (As := [.int (tw_ST_placeOf (tw_GR_least held b gvl (-1))), .int (tw_ST_endOf b_25 (tw_GR_least held b gvl (-1)))]) (rest := []) (wr := [(aU, .inr (7, [.ref aS, .ref aY, .ref aP, .ref aGk, .ref aGh, .ref aGf, .ref aGl, .ref aGn, .int ngr, .ref aGv, .int held, .long gsum])), (aGv, .inl (cI, 200, .inl gvl))]) ⟨hx, hb, hml, hown, hT⟩ (c_WR_copy l D cB cI aW aS aB L9 U9 A9 _ place_25 limit_25 full_25 b_25 (tw_ST_placeOf (tw_GR_least held b gvl (-1))) (tw_ST_endOf b_25 (tw_GR_least held b gvl (-1))) (Or.inl (pl_le _)) hi_25) (cwV 2 hT (gV_of k_822 k_451 k_452 k_5 kc_WR_copy) rfl rfl rfl hd_WR_copy ⟨Nat.le_of_ble_eq_true rfl, Nat.le_of_ble_eq_true rfl⟩) hk hP hD hS hA [1, 2, 3] [0, 4] rfl rfl rfl (by decide) (by decide) (by decide) (q0 := 0) rfl rfl rfl rfl hl.1 rfl (Nat.le_of_ble_eq_true rfl) d_GR_writePart_182 ⟨Nat.zero_le _, Nat.zero_le _⟩ (fun u_26 H locs hw_26 hP hD hS => ?_)
                obtain ⟨place_26, limit_26, full_26, b_26⟩ := u_26
                obtain ⟨hw_26, hi_26⟩ := hw_26
                have hP : va_P D vwCl [(aU, .inr (7, [.ref aS, .ref aY, .ref aP, .ref aGk, .ref aGh, .ref aGf, .ref aGl, .ref aGn, .int ngr, .ref aGv, .int held, .long gsum])), (aW, .inr (1, [.ref aS, .int place_26, .int limit_26, .int (b2i full_26)])), (aS, .inr (0, [.ref aB])), (aB, .inl (cB, 202000, .inl (by_ b_26))), (aGv, .inl (cI, 200, .inl gvl))] H := hP.sub [0, 2, 3, 4, 1] rfl
                have hD : va_D A [(aU, .inr (7, [.ref aS, .ref aY, .ref aP, .ref aGk, .ref aGh, .ref aGf, .ref aGl, .ref aGn, .int ngr, .ref aGv, .int held, .long gsum])), (aW, .inr (1, [.ref aS, .int place_26, .int limit_26, .int (b2i full_26)])), (aS, .inr (0, [.ref aB])), (aB, .inl (cB, 202000, .inl (by_ b_26))), (aGv, .inl (cI, 200, .inl gvl))] := hD.sub [0, 2, 3, 4, 1] (by decide) rfl
                exact W.vret hx hb hr (fun t ht hW => ⟨⟨(gsum, place_26, limit_26, full_26, b_26, gvl), rfl, ⟨(by rw [tw_GR_writePart, if_neg c_1, if_neg c_2, if_neg c_3, if_neg c_10, if_neg c_11, if_pos c_12, if_neg c_24, ← hw_25, tp4_mk, ← hw_26, tp4_mk]; first | done | rfl), hi_26⟩, by rw [ht]; exact hP, hD⟩, hS.F ht⟩) hS.2.2 d_GR_writePart_185
              · refine lv_bipush (v := 10) hx hb d_GR_writePart_147 (by decide) ?_
                refine lv_goto (tgt := 154) hx hb d_GR_writePart_149 (by decide) ?_
                refine lv_istore (lv' := [(6, .int 10), (5, .int (tw_GR_least held b gvl (-1))), (0, .ref aU), (1, .ref aW), (2, .int p1), (3, .int p2), (4, .int p3)]) hx hb d_GR_writePart_154 hl (by decide) rfl (fun ls hl => ?_)
                refine lv_aload_n hx hb d_GR_writePart_156 rfl (lv_at hl 3 rfl) ?_
                refine lv_iload hx hb d_GR_writePart_157 (lv_at hl 0 rfl) ?_
                refine rd_S (val := tw_ST_kindOf 10) (As := [.int 10]) (rest := [.ref aW]) ⟨hx, hb, hml, hown, hT⟩ (c_ST_kindOf l D cB cI 10) (va_cwS 1 hT (gS_of k_711 k_555 k_2 kc_ST_kindOf) rfl rfl rfl hd_ST_kindOf ⟨Nat.le_of_ble_eq_true rfl, Nat.le_of_ble_eq_true rfl⟩) hk (va_P_nil) rfl hl.1 rfl (Nat.le_of_ble_eq_true rfl) d_GR_writePart_159 ⟨Nat.zero_le _, Nat.zero_le _⟩ ?_
                refine lv_iload_n hx hb d_GR_writePart_162 rfl (lv_at hl 4 rfl) ?_
                refine lv_iload_n hx hb d_GR_writePart_163 rfl (lv_at hl 5 rfl) ?_
                refine mt_Vv (As := [.int (tw_ST_kindOf 10), .int p1, .int p2]) (rest := []) (wr := [(aU, .inr (7, [.ref aS, .ref aY, .ref aP, .ref aGk, .ref aGh, .ref aGf, .ref aGl, .ref aGn, .int ngr, .ref aGv, .int held, .long gsum])), (aGv, .inl (cI, 200, .inl gvl))]) ⟨hx, hb, hml, hown, hT⟩ (c_WR_name l D cB cI aW aS aB L9 U9 A9 _ place limit full b (tw_ST_kindOf 10) p1 p2 (hc) hi) (cwV 3 hT (gV_of k_821 k_653 k_654 k_5 kc_WR_name) rfl rfl rfl hd_WR_name ⟨Nat.le_of_ble_eq_true rfl, Nat.le_of_ble_eq_true rfl⟩) hk hP hD hS hA [1, 2, 3] [0, 4] rfl rfl rfl (by decide) (by decide) (by decide) (q0 := 0) rfl rfl rfl rfl hl.1 rfl (Nat.le_of_ble_eq_true rfl) d_GR_writePart_164 ⟨Nat.zero_le _, Nat.zero_le _⟩ (fun u_27 H locs hw_27 hP hD hS => ?_)
                obtain ⟨place_27, limit_27, full_27, b_27⟩ := u_27
                obtain ⟨hw_27, hi_27⟩ := hw_27
                have hP : va_P D vwCl [(aU, .inr (7, [.ref aS, .ref aY, .ref aP, .ref aGk, .ref aGh, .ref aGf, .ref aGl, .ref aGn, .int ngr, .ref aGv, .int held, .long gsum])), (aW, .inr (1, [.ref aS, .int place_27, .int limit_27, .int (b2i full_27)])), (aS, .inr (0, [.ref aB])), (aB, .inl (cB, 202000, .inl (by_ b_27))), (aGv, .inl (cI, 200, .inl gvl))] H := hP.sub [0, 2, 3, 4, 1] rfl
                have hD : va_D A [(aU, .inr (7, [.ref aS, .ref aY, .ref aP, .ref aGk, .ref aGh, .ref aGf, .ref aGl, .ref aGn, .int ngr, .ref aGv, .int held, .long gsum])), (aW, .inr (1, [.ref aS, .int place_27, .int limit_27, .int (b2i full_27)])), (aS, .inr (0, [.ref aB])), (aB, .inl (cB, 202000, .inl (by_ b_27))), (aGv, .inl (cI, 200, .inl gvl))] := hD.sub [0, 2, 3, 4, 1] (by decide) rfl
                refine lv_aload_n hx hb d_GR_writePart_167 rfl (lv_at hl 3 rfl) ?_
                refine lv_iload hx hb d_GR_writePart_168 (lv_at hl 0 rfl) ?_
                refine rd_S (val := tw_ST_placeOf 10) (As := [.int 10]) (rest := [.ref aW]) ⟨hx, hb, hml, hown, hT⟩ (c_ST_placeOf l D cB cI 10) (va_cwS 1 hT (gS_of k_714 k_403 k_2 kc_ST_placeOf) rfl rfl rfl hd_ST_placeOf ⟨Nat.le_of_ble_eq_true rfl, Nat.le_of_ble_eq_true rfl⟩) hk (va_P_nil) rfl hl.1 rfl (Nat.le_of_ble_eq_true rfl) d_GR_writePart_170 ⟨Nat.zero_le _, Nat.zero_le _⟩ ?_
                refine lv_aload_n hx hb d_GR_writePart_173 rfl (lv_at hl 2 rfl) ?_
                refine va_get (D := D) (ci := 7) (v := .ref aS) (C := R_GR) (T := T_GR) (N := 12) hx hb hT u_GR hown hK hP 0 rfl rfl 0 (by decide) (hT _ k_212) (fun _ h9 => h9) rfl d_GR_writePart_174 ?_
                refine lv_iload hx hb d_GR_writePart_177 (lv_at hl 0 rfl) ?_
                refine rd_V (val := tw_ST_endOf b_27 10) (As := [.int 10]) (rest := [.int (tw_ST_placeOf 10), .ref aW]) ⟨hx, hb, hml, hown, hT⟩ (c_ST_endOf l D cB cI aS aB b_27 10) (cwV 1 hT (gV_of k_713 k_416 k_417 k_2 kc_ST_endOf) rfl rfl rfl hd_ST_endOf ⟨Nat.le_of_ble_eq_true rfl, Nat.le_of_ble_eq_true rfl⟩) hk (hP.sub (ws' := [(aS, .inr (0, [.ref aB])), (aB, .inl (cB, 202000, .inl (by_ b_27)))]) [2, 3] rfl) (q0 := 0) rfl rfl rfl rfl hl.1 rfl (Nat.le_of_ble_eq_true rfl) d_GR_writePart_179 ⟨Nat.zero_le _, Nat.zero_le _⟩ ?_
                refine mt_Vv (As := [.int (tw_ST_placeOf 10), .int (tw_ST_endOf b_27 10)]) (rest := []) (wr := [(aU, .inr (7, [.ref aS, .ref aY, .ref aP, .ref aGk, .ref aGh, .ref aGf, .ref aGl, .ref aGn, .int ngr, .ref aGv, .int held, .long gsum])), (aGv, .inl (cI, 200, .inl gvl))]) ⟨hx, hb, hml, hown, hT⟩ (c_WR_copy l D cB cI aW aS aB L9 U9 A9 _ place_27 limit_27 full_27 b_27 (tw_ST_placeOf 10) (tw_ST_endOf b_27 10) (Or.inl (pl_le _)) hi_27) (cwV 2 hT (gV_of k_822 k_451 k_452 k_5 kc_WR_copy) rfl rfl rfl hd_WR_copy ⟨Nat.le_of_ble_eq_true rfl, Nat.le_of_ble_eq_true rfl⟩) hk hP hD hS hA [1, 2, 3] [0, 4] rfl rfl rfl (by decide) (by decide) (by decide) (q0 := 0) rfl rfl rfl rfl hl.1 rfl (Nat.le_of_ble_eq_true rfl) d_GR_writePart_182 ⟨Nat.zero_le _, Nat.zero_le _⟩ (fun u_28 H locs hw_28 hP hD hS => ?_)
                obtain ⟨place_28, limit_28, full_28, b_28⟩ := u_28
                obtain ⟨hw_28, hi_28⟩ := hw_28
                have hP : va_P D vwCl [(aU, .inr (7, [.ref aS, .ref aY, .ref aP, .ref aGk, .ref aGh, .ref aGf, .ref aGl, .ref aGn, .int ngr, .ref aGv, .int held, .long gsum])), (aW, .inr (1, [.ref aS, .int place_28, .int limit_28, .int (b2i full_28)])), (aS, .inr (0, [.ref aB])), (aB, .inl (cB, 202000, .inl (by_ b_28))), (aGv, .inl (cI, 200, .inl gvl))] H := hP.sub [0, 2, 3, 4, 1] rfl
                have hD : va_D A [(aU, .inr (7, [.ref aS, .ref aY, .ref aP, .ref aGk, .ref aGh, .ref aGf, .ref aGl, .ref aGn, .int ngr, .ref aGv, .int held, .long gsum])), (aW, .inr (1, [.ref aS, .int place_28, .int limit_28, .int (b2i full_28)])), (aS, .inr (0, [.ref aB])), (aB, .inl (cB, 202000, .inl (by_ b_28))), (aGv, .inl (cI, 200, .inl gvl))] := hD.sub [0, 2, 3, 4, 1] (by decide) rfl
                exact W.vret hx hb hr (fun t ht hW => ⟨⟨(gsum, place_28, limit_28, full_28, b_28, gvl), rfl, ⟨(by rw [tw_GR_writePart, if_neg c_1, if_neg c_2, if_neg c_3, if_neg c_10, if_neg c_11, if_pos c_12, if_pos c_24, ← hw_27, tp4_mk, ← hw_28, tp4_mk]; first | done | rfl), hi_28⟩, by rw [ht]; exact hP, hD⟩, hS.F ht⟩) hS.2.2 d_GR_writePart_185
          · refine lv_aload_n hx hb d_GR_writePart_102 rfl (lv_at hl 0 rfl) ?_
            refine lv_iconst (v := 1) hx hb d_GR_writePart_103 (by decide) ?_
            refine rd_V (val := tw_GR_least held b gvl 1) (As := [.int 1]) (rest := []) ⟨hx, hb, hml, hown, hT⟩ (c_GR_least l D cB cI aU aS aY aP aGk aGh aGf aGl aGn aGv aB ngr held gsum b gvl 1 (hh)) (cwV 1 hT (gV_of k_841 k_843 kp_GR_least k_9 kc_GR_least) rfl rfl rfl hd_GR_least ⟨Nat.le_of_ble_eq_true rfl, Nat.le_of_ble_eq_true rfl⟩) hk (hP.sub (ws' := [(aU, .inr (7, [.ref aS, .ref aY, .ref aP, .ref aGk, .ref aGh, .ref aGf, .ref aGl, .ref aGn, .int ngr, .ref aGv, .int held, .long gsum])), (aS, .inr (0, [.ref aB])), (aB, .inl (cB, 202000, .inl (by_ b))), (aGv, .inl (cI, 200, .inl gvl))]) [0, 2, 3, 4] rfl) (q0 := 0) rfl rfl rfl rfl hl.1 rfl (Nat.le_of_ble_eq_true rfl) d_GR_writePart_104 ⟨Nat.zero_le _, Nat.zero_le _⟩ ?_
            refine lv_goto (tgt := 140) hx hb d_GR_writePart_107 (by decide) ?_
            refine lv_istore (lv' := [(5, .int (tw_GR_least held b gvl 1)), (0, .ref aU), (1, .ref aW), (2, .int p1), (3, .int p2), (4, .int p3)]) hx hb d_GR_writePart_140 hl (by decide) rfl (fun ls hl => ?_)
            refine lv_iload hx hb d_GR_writePart_142 (lv_at hl 0 rfl) ?_
            refine lv_if_ne (tgt := 152) hx hb d_GR_writePart_144 (by decide) (fun c_29 => ?_) (fun c_29 => ?_)
            · refine lv_iload hx hb d_GR_writePart_152 (lv_at hl 0 rfl) ?_
              refine lv_istore (lv' := [(6, .int (tw_GR_least held b gvl 1)), (5, .int (tw_GR_least held b gvl 1)), (0, .ref aU), (1, .ref aW), (2, .int p1), (3, .int p2), (4, .int p3)]) hx hb d_GR_writePart_154 hl (by decide) rfl (fun ls hl => ?_)
              refine lv_aload_n hx hb d_GR_writePart_156 rfl (lv_at hl 3 rfl) ?_
              refine lv_iload hx hb d_GR_writePart_157 (lv_at hl 0 rfl) ?_
              refine rd_S (val := tw_ST_kindOf (tw_GR_least held b gvl 1)) (As := [.int (tw_GR_least held b gvl 1)]) (rest := [.ref aW]) ⟨hx, hb, hml, hown, hT⟩ (c_ST_kindOf l D cB cI (tw_GR_least held b gvl 1)) (va_cwS 1 hT (gS_of k_711 k_555 k_2 kc_ST_kindOf) rfl rfl rfl hd_ST_kindOf ⟨Nat.le_of_ble_eq_true rfl, Nat.le_of_ble_eq_true rfl⟩) hk (va_P_nil) rfl hl.1 rfl (Nat.le_of_ble_eq_true rfl) d_GR_writePart_159 ⟨Nat.zero_le _, Nat.zero_le _⟩ ?_
              refine lv_iload_n hx hb d_GR_writePart_162 rfl (lv_at hl 4 rfl) ?_
              refine lv_iload_n hx hb d_GR_writePart_163 rfl (lv_at hl 5 rfl) ?_
              refine mt_Vv (As := [.int (tw_ST_kindOf (tw_GR_least held b gvl 1)), .int p1, .int p2]) (rest := []) (wr := [(aU, .inr (7, [.ref aS, .ref aY, .ref aP, .ref aGk, .ref aGh, .ref aGf, .ref aGl, .ref aGn, .int ngr, .ref aGv, .int held, .long gsum])), (aGv, .inl (cI, 200, .inl gvl))]) ⟨hx, hb, hml, hown, hT⟩ (c_WR_name l D cB cI aW aS aB L9 U9 A9 _ place limit full b (tw_ST_kindOf (tw_GR_least held b gvl 1)) p1 p2 (hc) hi) (cwV 3 hT (gV_of k_821 k_653 k_654 k_5 kc_WR_name) rfl rfl rfl hd_WR_name ⟨Nat.le_of_ble_eq_true rfl, Nat.le_of_ble_eq_true rfl⟩) hk hP hD hS hA [1, 2, 3] [0, 4] rfl rfl rfl (by decide) (by decide) (by decide) (q0 := 0) rfl rfl rfl rfl hl.1 rfl (Nat.le_of_ble_eq_true rfl) d_GR_writePart_164 ⟨Nat.zero_le _, Nat.zero_le _⟩ (fun u_30 H locs hw_30 hP hD hS => ?_)
              obtain ⟨place_30, limit_30, full_30, b_30⟩ := u_30
              obtain ⟨hw_30, hi_30⟩ := hw_30
              have hP : va_P D vwCl [(aU, .inr (7, [.ref aS, .ref aY, .ref aP, .ref aGk, .ref aGh, .ref aGf, .ref aGl, .ref aGn, .int ngr, .ref aGv, .int held, .long gsum])), (aW, .inr (1, [.ref aS, .int place_30, .int limit_30, .int (b2i full_30)])), (aS, .inr (0, [.ref aB])), (aB, .inl (cB, 202000, .inl (by_ b_30))), (aGv, .inl (cI, 200, .inl gvl))] H := hP.sub [0, 2, 3, 4, 1] rfl
              have hD : va_D A [(aU, .inr (7, [.ref aS, .ref aY, .ref aP, .ref aGk, .ref aGh, .ref aGf, .ref aGl, .ref aGn, .int ngr, .ref aGv, .int held, .long gsum])), (aW, .inr (1, [.ref aS, .int place_30, .int limit_30, .int (b2i full_30)])), (aS, .inr (0, [.ref aB])), (aB, .inl (cB, 202000, .inl (by_ b_30))), (aGv, .inl (cI, 200, .inl gvl))] := hD.sub [0, 2, 3, 4, 1] (by decide) rfl
              refine lv_aload_n hx hb d_GR_writePart_167 rfl (lv_at hl 3 rfl) ?_
              refine lv_iload hx hb d_GR_writePart_168 (lv_at hl 0 rfl) ?_
              refine rd_S (val := tw_ST_placeOf (tw_GR_least held b gvl 1)) (As := [.int (tw_GR_least held b gvl 1)]) (rest := [.ref aW]) ⟨hx, hb, hml, hown, hT⟩ (c_ST_placeOf l D cB cI (tw_GR_least held b gvl 1)) (va_cwS 1 hT (gS_of k_714 k_403 k_2 kc_ST_placeOf) rfl rfl rfl hd_ST_placeOf ⟨Nat.le_of_ble_eq_true rfl, Nat.le_of_ble_eq_true rfl⟩) hk (va_P_nil) rfl hl.1 rfl (Nat.le_of_ble_eq_true rfl) d_GR_writePart_170 ⟨Nat.zero_le _, Nat.zero_le _⟩ ?_
              refine lv_aload_n hx hb d_GR_writePart_173 rfl (lv_at hl 2 rfl) ?_
              refine va_get (D := D) (ci := 7) (v := .ref aS) (C := R_GR) (T := T_GR) (N := 12) hx hb hT u_GR hown hK hP 0 rfl rfl 0 (by decide) (hT _ k_212) (fun _ h9 => h9) rfl d_GR_writePart_174 ?_
              refine lv_iload hx hb d_GR_writePart_177 (lv_at hl 0 rfl) ?_
              refine rd_V (val := tw_ST_endOf b_30 (tw_GR_least held b gvl 1)) (As := [.int (tw_GR_least held b gvl 1)]) (rest := [.int (tw_ST_placeOf (tw_GR_least held b gvl 1)), .ref aW]) ⟨hx, hb, hml, hown, hT⟩ (c_ST_endOf l D cB cI aS aB b_30 (tw_GR_least held b gvl 1)) (cwV 1 hT (gV_of k_713 k_416 k_417 k_2 kc_ST_endOf) rfl rfl rfl hd_ST_endOf ⟨Nat.le_of_ble_eq_true rfl, Nat.le_of_ble_eq_true rfl⟩) hk (hP.sub (ws' := [(aS, .inr (0, [.ref aB])), (aB, .inl (cB, 202000, .inl (by_ b_30)))]) [2, 3] rfl) (q0 := 0) rfl rfl rfl rfl hl.1 rfl (Nat.le_of_ble_eq_true rfl) d_GR_writePart_179 ⟨Nat.zero_le _, Nat.zero_le _⟩ ?_
              refine mt_Vv (As := [.int (tw_ST_placeOf (tw_GR_least held b gvl 1)), .int (tw_ST_endOf b_30 (tw_GR_least held b gvl 1))]) (rest := []) (wr := [(aU, .inr (7, [.ref aS, .ref aY, .ref aP, .ref aGk, .ref aGh, .ref aGf, .ref aGl, .ref aGn, .int ngr, .ref aGv, .int held, .long gsum])), (aGv, .inl (cI, 200, .inl gvl))]) ⟨hx, hb, hml, hown, hT⟩ (c_WR_copy l D cB cI aW aS aB L9 U9 A9 _ place_30 limit_30 full_30 b_30 (tw_ST_placeOf (tw_GR_least held b gvl 1)) (tw_ST_endOf b_30 (tw_GR_least held b gvl 1)) (Or.inl (pl_le _)) hi_30) (cwV 2 hT (gV_of k_822 k_451 k_452 k_5 kc_WR_copy) rfl rfl rfl hd_WR_copy ⟨Nat.le_of_ble_eq_true rfl, Nat.le_of_ble_eq_true rfl⟩) hk hP hD hS hA [1, 2, 3] [0, 4] rfl rfl rfl (by decide) (by decide) (by decide) (q0 := 0) rfl rfl rfl rfl hl.1 rfl (Nat.le_of_ble_eq_true rfl) d_GR_writePart_182 ⟨Nat.zero_le _, Nat.zero_le _⟩ (fun u_31 H locs hw_31 hP hD hS => ?_)
              obtain ⟨place_31, limit_31, full_31, b_31⟩ := u_31
              obtain ⟨hw_31, hi_31⟩ := hw_31
              have hP : va_P D vwCl [(aU, .inr (7, [.ref aS, .ref aY, .ref aP, .ref aGk, .ref aGh, .ref aGf, .ref aGl, .ref aGn, .int ngr, .ref aGv, .int held, .long gsum])), (aW, .inr (1, [.ref aS, .int place_31, .int limit_31, .int (b2i full_31)])), (aS, .inr (0, [.ref aB])), (aB, .inl (cB, 202000, .inl (by_ b_31))), (aGv, .inl (cI, 200, .inl gvl))] H := hP.sub [0, 2, 3, 4, 1] rfl
              have hD : va_D A [(aU, .inr (7, [.ref aS, .ref aY, .ref aP, .ref aGk, .ref aGh, .ref aGf, .ref aGl, .ref aGn, .int ngr, .ref aGv, .int held, .long gsum])), (aW, .inr (1, [.ref aS, .int place_31, .int limit_31, .int (b2i full_31)])), (aS, .inr (0, [.ref aB])), (aB, .inl (cB, 202000, .inl (by_ b_31))), (aGv, .inl (cI, 200, .inl gvl))] := hD.sub [0, 2, 3, 4, 1] (by decide) rfl
              exact W.vret hx hb hr (fun t ht hW => ⟨⟨(gsum, place_31, limit_31, full_31, b_31, gvl), rfl, ⟨(by rw [tw_GR_writePart, if_neg c_1, if_neg c_2, if_neg c_3, if_neg c_10, if_pos c_11, if_neg c_29, ← hw_30, tp4_mk, ← hw_31, tp4_mk]; first | done | rfl), hi_31⟩, by rw [ht]; exact hP, hD⟩, hS.F ht⟩) hS.2.2 d_GR_writePart_185
            · refine lv_bipush (v := 10) hx hb d_GR_writePart_147 (by decide) ?_
              refine lv_goto (tgt := 154) hx hb d_GR_writePart_149 (by decide) ?_
              refine lv_istore (lv' := [(6, .int 10), (5, .int (tw_GR_least held b gvl 1)), (0, .ref aU), (1, .ref aW), (2, .int p1), (3, .int p2), (4, .int p3)]) hx hb d_GR_writePart_154 hl (by decide) rfl (fun ls hl => ?_)
              refine lv_aload_n hx hb d_GR_writePart_156 rfl (lv_at hl 3 rfl) ?_
              refine lv_iload hx hb d_GR_writePart_157 (lv_at hl 0 rfl) ?_
              refine rd_S (val := tw_ST_kindOf 10) (As := [.int 10]) (rest := [.ref aW]) ⟨hx, hb, hml, hown, hT⟩ (c_ST_kindOf l D cB cI 10) (va_cwS 1 hT (gS_of k_711 k_555 k_2 kc_ST_kindOf) rfl rfl rfl hd_ST_kindOf ⟨Nat.le_of_ble_eq_true rfl, Nat.le_of_ble_eq_true rfl⟩) hk (va_P_nil) rfl hl.1 rfl (Nat.le_of_ble_eq_true rfl) d_GR_writePart_159 ⟨Nat.zero_le _, Nat.zero_le _⟩ ?_
              refine lv_iload_n hx hb d_GR_writePart_162 rfl (lv_at hl 4 rfl) ?_
              refine lv_iload_n hx hb d_GR_writePart_163 rfl (lv_at hl 5 rfl) ?_
              refine mt_Vv (As := [.int (tw_ST_kindOf 10), .int p1, .int p2]) (rest := []) (wr := [(aU, .inr (7, [.ref aS, .ref aY, .ref aP, .ref aGk, .ref aGh, .ref aGf, .ref aGl, .ref aGn, .int ngr, .ref aGv, .int held, .long gsum])), (aGv, .inl (cI, 200, .inl gvl))]) ⟨hx, hb, hml, hown, hT⟩ (c_WR_name l D cB cI aW aS aB L9 U9 A9 _ place limit full b (tw_ST_kindOf 10) p1 p2 (hc) hi) (cwV 3 hT (gV_of k_821 k_653 k_654 k_5 kc_WR_name) rfl rfl rfl hd_WR_name ⟨Nat.le_of_ble_eq_true rfl, Nat.le_of_ble_eq_true rfl⟩) hk hP hD hS hA [1, 2, 3] [0, 4] rfl rfl rfl (by decide) (by decide) (by decide) (q0 := 0) rfl rfl rfl rfl hl.1 rfl (Nat.le_of_ble_eq_true rfl) d_GR_writePart_164 ⟨Nat.zero_le _, Nat.zero_le _⟩ (fun u_32 H locs hw_32 hP hD hS => ?_)
              obtain ⟨place_32, limit_32, full_32, b_32⟩ := u_32
              obtain ⟨hw_32, hi_32⟩ := hw_32
              have hP : va_P D vwCl [(aU, .inr (7, [.ref aS, .ref aY, .ref aP, .ref aGk, .ref aGh, .ref aGf, .ref aGl, .ref aGn, .int ngr, .ref aGv, .int held, .long gsum])), (aW, .inr (1, [.ref aS, .int place_32, .int limit_32, .int (b2i full_32)])), (aS, .inr (0, [.ref aB])), (aB, .inl (cB, 202000, .inl (by_ b_32))), (aGv, .inl (cI, 200, .inl gvl))] H := hP.sub [0, 2, 3, 4, 1] rfl
              have hD : va_D A [(aU, .inr (7, [.ref aS, .ref aY, .ref aP, .ref aGk, .ref aGh, .ref aGf, .ref aGl, .ref aGn, .int ngr, .ref aGv, .int held, .long gsum])), (aW, .inr (1, [.ref aS, .int place_32, .int limit_32, .int (b2i full_32)])), (aS, .inr (0, [.ref aB])), (aB, .inl (cB, 202000, .inl (by_ b_32))), (aGv, .inl (cI, 200, .inl gvl))] := hD.sub [0, 2, 3, 4, 1] (by decide) rfl
              refine lv_aload_n hx hb d_GR_writePart_167 rfl (lv_at hl 3 rfl) ?_
              refine lv_iload hx hb d_GR_writePart_168 (lv_at hl 0 rfl) ?_
              refine rd_S (val := tw_ST_placeOf 10) (As := [.int 10]) (rest := [.ref aW]) ⟨hx, hb, hml, hown, hT⟩ (c_ST_placeOf l D cB cI 10) (va_cwS 1 hT (gS_of k_714 k_403 k_2 kc_ST_placeOf) rfl rfl rfl hd_ST_placeOf ⟨Nat.le_of_ble_eq_true rfl, Nat.le_of_ble_eq_true rfl⟩) hk (va_P_nil) rfl hl.1 rfl (Nat.le_of_ble_eq_true rfl) d_GR_writePart_170 ⟨Nat.zero_le _, Nat.zero_le _⟩ ?_
              refine lv_aload_n hx hb d_GR_writePart_173 rfl (lv_at hl 2 rfl) ?_
              refine va_get (D := D) (ci := 7) (v := .ref aS) (C := R_GR) (T := T_GR) (N := 12) hx hb hT u_GR hown hK hP 0 rfl rfl 0 (by decide) (hT _ k_212) (fun _ h9 => h9) rfl d_GR_writePart_174 ?_
              refine lv_iload hx hb d_GR_writePart_177 (lv_at hl 0 rfl) ?_
              refine rd_V (val := tw_ST_endOf b_32 10) (As := [.int 10]) (rest := [.int (tw_ST_placeOf 10), .ref aW]) ⟨hx, hb, hml, hown, hT⟩ (c_ST_endOf l D cB cI aS aB b_32 10) (cwV 1 hT (gV_of k_713 k_416 k_417 k_2 kc_ST_endOf) rfl rfl rfl hd_ST_endOf ⟨Nat.le_of_ble_eq_true rfl, Nat.le_of_ble_eq_true rfl⟩) hk (hP.sub (ws' := [(aS, .inr (0, [.ref aB])), (aB, .inl (cB, 202000, .inl (by_ b_32)))]) [2, 3] rfl) (q0 := 0) rfl rfl rfl rfl hl.1 rfl (Nat.le_of_ble_eq_true rfl) d_GR_writePart_179 ⟨Nat.zero_le _, Nat.zero_le _⟩ ?_
              refine mt_Vv (As := [.int (tw_ST_placeOf 10), .int (tw_ST_endOf b_32 10)]) (rest := []) (wr := [(aU, .inr (7, [.ref aS, .ref aY, .ref aP, .ref aGk, .ref aGh, .ref aGf, .ref aGl, .ref aGn, .int ngr, .ref aGv, .int held, .long gsum])), (aGv, .inl (cI, 200, .inl gvl))]) ⟨hx, hb, hml, hown, hT⟩ (c_WR_copy l D cB cI aW aS aB L9 U9 A9 _ place_32 limit_32 full_32 b_32 (tw_ST_placeOf 10) (tw_ST_endOf b_32 10) (Or.inl (pl_le _)) hi_32) (cwV 2 hT (gV_of k_822 k_451 k_452 k_5 kc_WR_copy) rfl rfl rfl hd_WR_copy ⟨Nat.le_of_ble_eq_true rfl, Nat.le_of_ble_eq_true rfl⟩) hk hP hD hS hA [1, 2, 3] [0, 4] rfl rfl rfl (by decide) (by decide) (by decide) (q0 := 0) rfl rfl rfl rfl hl.1 rfl (Nat.le_of_ble_eq_true rfl) d_GR_writePart_182 ⟨Nat.zero_le _, Nat.zero_le _⟩ (fun u_33 H locs hw_33 hP hD hS => ?_)
              obtain ⟨place_33, limit_33, full_33, b_33⟩ := u_33
              obtain ⟨hw_33, hi_33⟩ := hw_33
              have hP : va_P D vwCl [(aU, .inr (7, [.ref aS, .ref aY, .ref aP, .ref aGk, .ref aGh, .ref aGf, .ref aGl, .ref aGn, .int ngr, .ref aGv, .int held, .long gsum])), (aW, .inr (1, [.ref aS, .int place_33, .int limit_33, .int (b2i full_33)])), (aS, .inr (0, [.ref aB])), (aB, .inl (cB, 202000, .inl (by_ b_33))), (aGv, .inl (cI, 200, .inl gvl))] H := hP.sub [0, 2, 3, 4, 1] rfl
              have hD : va_D A [(aU, .inr (7, [.ref aS, .ref aY, .ref aP, .ref aGk, .ref aGh, .ref aGf, .ref aGl, .ref aGn, .int ngr, .ref aGv, .int held, .long gsum])), (aW, .inr (1, [.ref aS, .int place_33, .int limit_33, .int (b2i full_33)])), (aS, .inr (0, [.ref aB])), (aB, .inl (cB, 202000, .inl (by_ b_33))), (aGv, .inl (cI, 200, .inl gvl))] := hD.sub [0, 2, 3, 4, 1] (by decide) rfl
              exact W.vret hx hb hr (fun t ht hW => ⟨⟨(gsum, place_33, limit_33, full_33, b_33, gvl), rfl, ⟨(by rw [tw_GR_writePart, if_neg c_1, if_neg c_2, if_neg c_3, if_neg c_10, if_pos c_11, if_pos c_29, ← hw_32, tp4_mk, ← hw_33, tp4_mk]; first | done | rfl), hi_33⟩, by rw [ht]; exact hP, hD⟩, hS.F ht⟩) hS.2.2 d_GR_writePart_185
        · refine lv_iload hx hb d_GR_writePart_70 (lv_at hl 4 rfl) ?_
          refine lv_bipush (v := 8) hx hb d_GR_writePart_72 (by decide) ?_
          refine lv_icmp_ne (tgt := 81) hx hb d_GR_writePart_74 (by decide) (fun c_34 => ?_) (fun c_34 => ?_)
          · refine lv_aload_n hx hb d_GR_writePart_81 rfl (lv_at hl 1 rfl) ?_
            refine lv_iconst (v := 4) hx hb d_GR_writePart_82 (by decide) ?_
            refine lv_iload_n hx hb d_GR_writePart_83 rfl (lv_at hl 2 rfl) ?_
            refine lv_iload_n hx hb d_GR_writePart_84 rfl (lv_at hl 3 rfl) ?_
            refine mt_Vv (As := [.int 4, .int p1, .int p2]) (rest := []) (wr := [(aU, .inr (7, [.ref aS, .ref aY, .ref aP, .ref aGk, .ref aGh, .ref aGf, .ref aGl, .ref aGn, .int ngr, .ref aGv, .int held, .long gsum])), (aGv, .inl (cI, 200, .inl gvl))]) ⟨hx, hb, hml, hown, hT⟩ (c_WR_name l D cB cI aW aS aB L9 U9 A9 _ place limit full b 4 p1 p2 (hc) hi) (cwV 3 hT (gV_of k_821 k_653 k_654 k_5 kc_WR_name) rfl rfl rfl hd_WR_name ⟨Nat.le_of_ble_eq_true rfl, Nat.le_of_ble_eq_true rfl⟩) hk hP hD hS hA [1, 2, 3] [0, 4] rfl rfl rfl (by decide) (by decide) (by decide) (q0 := 0) rfl rfl rfl rfl hl.1 rfl (Nat.le_of_ble_eq_true rfl) d_GR_writePart_85 ⟨Nat.zero_le _, Nat.zero_le _⟩ (fun u_35 H locs hw_35 hP hD hS => ?_)
            obtain ⟨place_35, limit_35, full_35, b_35⟩ := u_35
            obtain ⟨hw_35, hi_35⟩ := hw_35
            have hP : va_P D vwCl [(aU, .inr (7, [.ref aS, .ref aY, .ref aP, .ref aGk, .ref aGh, .ref aGf, .ref aGl, .ref aGn, .int ngr, .ref aGv, .int held, .long gsum])), (aW, .inr (1, [.ref aS, .int place_35, .int limit_35, .int (b2i full_35)])), (aS, .inr (0, [.ref aB])), (aB, .inl (cB, 202000, .inl (by_ b_35))), (aGv, .inl (cI, 200, .inl gvl))] H := hP.sub [0, 2, 3, 4, 1] rfl
            have hD : va_D A [(aU, .inr (7, [.ref aS, .ref aY, .ref aP, .ref aGk, .ref aGh, .ref aGf, .ref aGl, .ref aGn, .int ngr, .ref aGv, .int held, .long gsum])), (aW, .inr (1, [.ref aS, .int place_35, .int limit_35, .int (b2i full_35)])), (aS, .inr (0, [.ref aB])), (aB, .inl (cB, 202000, .inl (by_ b_35))), (aGv, .inl (cI, 200, .inl gvl))] := hD.sub [0, 2, 3, 4, 1] (by decide) rfl
            refine lv_aload_n hx hb d_GR_writePart_88 rfl (lv_at hl 0 rfl) ?_
            refine lv_aload_n hx hb d_GR_writePart_89 rfl (lv_at hl 1 rfl) ?_
            refine mt_Vv (As := [.ref aW]) (rest := []) (wr := []) ⟨hx, hb, hml, hown, hT⟩ (c_GR_writeRow l D cB cI aU aS aY aP aGk aGh aGf aGl aGn aGv aW aB L9 U9 A9 ngr held gsum gvl _ place_35 limit_35 full_35 b_35 (hh) hi_35) (cwV 1 hT (gV_of k_835 k_837 kp_GR_writeRow k_9 kc_GR_writeRow) rfl rfl rfl hd_GR_writeRow ⟨Nat.le_of_ble_eq_true rfl, Nat.le_of_ble_eq_true rfl⟩) hk hP hD hS hA [0, 1, 2, 3, 4] [] rfl rfl rfl (by decide) (by decide) (by decide) (q0 := 0) rfl rfl rfl rfl hl.1 rfl (Nat.le_of_ble_eq_true rfl) d_GR_writePart_90 ⟨Nat.zero_le _, Nat.zero_le _⟩ (fun u_36 H locs hw_36 hP hD hS => ?_)
            obtain ⟨place_36, limit_36, full_36, b_36⟩ := u_36
            obtain ⟨hw_36, hi_36⟩ := hw_36
            have hP : va_P D vwCl [(aU, .inr (7, [.ref aS, .ref aY, .ref aP, .ref aGk, .ref aGh, .ref aGf, .ref aGl, .ref aGn, .int ngr, .ref aGv, .int held, .long gsum])), (aW, .inr (1, [.ref aS, .int place_36, .int limit_36, .int (b2i full_36)])), (aS, .inr (0, [.ref aB])), (aB, .inl (cB, 202000, .inl (by_ b_36))), (aGv, .inl (cI, 200, .inl gvl))] H := hP.sub [0, 1, 2, 3, 4] rfl
            have hD : va_D A [(aU, .inr (7, [.ref aS, .ref aY, .ref aP, .ref aGk, .ref aGh, .ref aGf, .ref aGl, .ref aGn, .int ngr, .ref aGv, .int held, .long gsum])), (aW, .inr (1, [.ref aS, .int place_36, .int limit_36, .int (b2i full_36)])), (aS, .inr (0, [.ref aB])), (aB, .inl (cB, 202000, .inl (by_ b_36))), (aGv, .inl (cI, 200, .inl gvl))] := hD.sub [0, 1, 2, 3, 4] (by decide) rfl
            refine lv_goto (tgt := 185) hx hb d_GR_writePart_93 (by decide) ?_
            exact W.vret hx hb hr (fun t ht hW => ⟨⟨(gsum, place_36, limit_36, full_36, b_36, gvl), rfl, ⟨(by rw [tw_GR_writePart, if_neg c_1, if_neg c_2, if_neg c_3, if_pos c_10, if_neg c_34, ← hw_35, tp4_mk, ← hw_36, tp4_mk]; first | done | rfl), hi_36⟩, by rw [ht]; exact hP, hD⟩, hS.F ht⟩) hS.2.2 d_GR_writePart_185
          · refine lv_aload_n hx hb d_GR_writePart_77 rfl (lv_at hl 0 rfl) ?_
            refine mt_Vv (As := []) (rest := []) (wr := [(aW, .inr (1, [.ref aS, .int place, .int limit, .int (b2i full)]))]) ⟨hx, hb, hml, hown, hT⟩ (c_GR_dropTwins l D cB cI aU aS aY aP aGk aGh aGf aGl aGn aGv aB ngr held gsum b _ gvl (hh)) (cwV 0 hT (gV_of k_831 k_833 kp_GR_dropTwins k_9 kc_GR_dropTwins) rfl rfl rfl hd_GR_dropTwins ⟨Nat.le_of_ble_eq_true rfl, Nat.le_of_ble_eq_true rfl⟩) hk hP hD hS hA [0, 2, 3, 4] [1] rfl rfl rfl (by decide) (by decide) (by decide) (q0 := 0) rfl rfl rfl rfl hl.1 rfl (Nat.le_of_ble_eq_true rfl) d_GR_writePart_78 ⟨Nat.zero_le _, Nat.zero_le _⟩ (fun u_37 H locs hw_37 hP hD hS => ?_)
            obtain ⟨gvl_37, rfl⟩ : ∃ z, z = u_37 := ⟨_, rfl⟩
            have hP : va_P D vwCl [(aU, .inr (7, [.ref aS, .ref aY, .ref aP, .ref aGk, .ref aGh, .ref aGf, .ref aGl, .ref aGn, .int ngr, .ref aGv, .int held, .long gsum])), (aW, .inr (1, [.ref aS, .int place, .int limit, .int (b2i full)])), (aS, .inr (0, [.ref aB])), (aB, .inl (cB, 202000, .inl (by_ b))), (aGv, .inl (cI, 200, .inl gvl_37))] H := hP.sub [1, 0, 2, 3, 4] rfl
            have hD : va_D A [(aU, .inr (7, [.ref aS, .ref aY, .ref aP, .ref aGk, .ref aGh, .ref aGf, .ref aGl, .ref aGn, .int ngr, .ref aGv, .int held, .long gsum])), (aW, .inr (1, [.ref aS, .int place, .int limit, .int (b2i full)])), (aS, .inr (0, [.ref aB])), (aB, .inl (cB, 202000, .inl (by_ b))), (aGv, .inl (cI, 200, .inl gvl_37))] := hD.sub [1, 0, 2, 3, 4] (by decide) rfl
            refine lv_aload_n hx hb d_GR_writePart_81 rfl (lv_at hl 1 rfl) ?_
            refine lv_iconst (v := 4) hx hb d_GR_writePart_82 (by decide) ?_
            refine lv_iload_n hx hb d_GR_writePart_83 rfl (lv_at hl 2 rfl) ?_
            refine lv_iload_n hx hb d_GR_writePart_84 rfl (lv_at hl 3 rfl) ?_
            refine mt_Vv (As := [.int 4, .int p1, .int p2]) (rest := []) (wr := [(aU, .inr (7, [.ref aS, .ref aY, .ref aP, .ref aGk, .ref aGh, .ref aGf, .ref aGl, .ref aGn, .int ngr, .ref aGv, .int held, .long gsum])), (aGv, .inl (cI, 200, .inl gvl_37))]) ⟨hx, hb, hml, hown, hT⟩ (c_WR_name l D cB cI aW aS aB L9 U9 A9 _ place limit full b 4 p1 p2 (hc) hi) (cwV 3 hT (gV_of k_821 k_653 k_654 k_5 kc_WR_name) rfl rfl rfl hd_WR_name ⟨Nat.le_of_ble_eq_true rfl, Nat.le_of_ble_eq_true rfl⟩) hk hP hD hS hA [1, 2, 3] [0, 4] rfl rfl rfl (by decide) (by decide) (by decide) (q0 := 0) rfl rfl rfl rfl hl.1 rfl (Nat.le_of_ble_eq_true rfl) d_GR_writePart_85 ⟨Nat.zero_le _, Nat.zero_le _⟩ (fun u_38 H locs hw_38 hP hD hS => ?_)
            obtain ⟨place_38, limit_38, full_38, b_38⟩ := u_38
            obtain ⟨hw_38, hi_38⟩ := hw_38
            have hP : va_P D vwCl [(aU, .inr (7, [.ref aS, .ref aY, .ref aP, .ref aGk, .ref aGh, .ref aGf, .ref aGl, .ref aGn, .int ngr, .ref aGv, .int held, .long gsum])), (aW, .inr (1, [.ref aS, .int place_38, .int limit_38, .int (b2i full_38)])), (aS, .inr (0, [.ref aB])), (aB, .inl (cB, 202000, .inl (by_ b_38))), (aGv, .inl (cI, 200, .inl gvl_37))] H := hP.sub [0, 2, 3, 4, 1] rfl
            have hD : va_D A [(aU, .inr (7, [.ref aS, .ref aY, .ref aP, .ref aGk, .ref aGh, .ref aGf, .ref aGl, .ref aGn, .int ngr, .ref aGv, .int held, .long gsum])), (aW, .inr (1, [.ref aS, .int place_38, .int limit_38, .int (b2i full_38)])), (aS, .inr (0, [.ref aB])), (aB, .inl (cB, 202000, .inl (by_ b_38))), (aGv, .inl (cI, 200, .inl gvl_37))] := hD.sub [0, 2, 3, 4, 1] (by decide) rfl
            refine lv_aload_n hx hb d_GR_writePart_88 rfl (lv_at hl 0 rfl) ?_
            refine lv_aload_n hx hb d_GR_writePart_89 rfl (lv_at hl 1 rfl) ?_
            refine mt_Vv (As := [.ref aW]) (rest := []) (wr := []) ⟨hx, hb, hml, hown, hT⟩ (c_GR_writeRow l D cB cI aU aS aY aP aGk aGh aGf aGl aGn aGv aW aB L9 U9 A9 ngr held gsum gvl_37 _ place_38 limit_38 full_38 b_38 (hh) hi_38) (cwV 1 hT (gV_of k_835 k_837 kp_GR_writeRow k_9 kc_GR_writeRow) rfl rfl rfl hd_GR_writeRow ⟨Nat.le_of_ble_eq_true rfl, Nat.le_of_ble_eq_true rfl⟩) hk hP hD hS hA [0, 1, 2, 3, 4] [] rfl rfl rfl (by decide) (by decide) (by decide) (q0 := 0) rfl rfl rfl rfl hl.1 rfl (Nat.le_of_ble_eq_true rfl) d_GR_writePart_90 ⟨Nat.zero_le _, Nat.zero_le _⟩ (fun u_39 H locs hw_39 hP hD hS => ?_)
            obtain ⟨place_39, limit_39, full_39, b_39⟩ := u_39
            obtain ⟨hw_39, hi_39⟩ := hw_39
            have hP : va_P D vwCl [(aU, .inr (7, [.ref aS, .ref aY, .ref aP, .ref aGk, .ref aGh, .ref aGf, .ref aGl, .ref aGn, .int ngr, .ref aGv, .int held, .long gsum])), (aW, .inr (1, [.ref aS, .int place_39, .int limit_39, .int (b2i full_39)])), (aS, .inr (0, [.ref aB])), (aB, .inl (cB, 202000, .inl (by_ b_39))), (aGv, .inl (cI, 200, .inl gvl_37))] H := hP.sub [0, 1, 2, 3, 4] rfl
            have hD : va_D A [(aU, .inr (7, [.ref aS, .ref aY, .ref aP, .ref aGk, .ref aGh, .ref aGf, .ref aGl, .ref aGn, .int ngr, .ref aGv, .int held, .long gsum])), (aW, .inr (1, [.ref aS, .int place_39, .int limit_39, .int (b2i full_39)])), (aS, .inr (0, [.ref aB])), (aB, .inl (cB, 202000, .inl (by_ b_39))), (aGv, .inl (cI, 200, .inl gvl_37))] := hD.sub [0, 1, 2, 3, 4] (by decide) rfl
            refine lv_goto (tgt := 185) hx hb d_GR_writePart_93 (by decide) ?_
            exact W.vret hx hb hr (fun t ht hW => ⟨⟨(gsum, place_39, limit_39, full_39, b_39, gvl_37), rfl, ⟨(by rw [tw_GR_writePart, if_neg c_1, if_neg c_2, if_neg c_3, if_pos c_10, if_pos c_34, ← hw_37, tp1_mk, ← hw_38, tp4_mk, ← hw_39, tp4_mk]; first | done | rfl), hi_39⟩, by rw [ht]; exact hP, hD⟩, hS.F ht⟩) hS.2.2 d_GR_writePart_185
    · refine lv_aload_n hx hb d_GR_writePart_32 rfl (lv_at hl 0 rfl) ?_
      refine mt_Vi (As := []) (rest := []) (wr := [(aW, .inr (1, [.ref aS, .int place, .int limit, .int (b2i full)]))]) ⟨hx, hb, hml, hown, hT⟩ (c_GR_addUp l D cB cI aU aS aY aP aGk aGh aGf aGl aGn aGv aB ngr held b gvl _ gsum (hh)) (cwV 0 hT (gV_of k_808 k_810 kp_GR_addUp k_9 kc_GR_addUp) rfl rfl rfl hd_GR_addUp ⟨Nat.le_of_ble_eq_true rfl, Nat.le_of_ble_eq_true rfl⟩) hk hP hD hS hA [0, 2, 3, 4] [1] rfl rfl rfl (by decide) (by decide) (by decide) (q0 := 0) rfl rfl rfl rfl hl.1 rfl (Nat.le_of_ble_eq_true rfl) d_GR_writePart_33 ⟨Nat.zero_le _, Nat.zero_le _⟩ (fun r_40 u_40 H locs hw_40 hP hD hS => ?_)
      obtain ⟨gsum_40, rfl⟩ : ∃ z, z = u_40 := ⟨_, rfl⟩
      obtain ⟨r_40, rfl, hw_40⟩ := hw_40
      have hP : va_P D vwCl [(aU, .inr (7, [.ref aS, .ref aY, .ref aP, .ref aGk, .ref aGh, .ref aGf, .ref aGl, .ref aGn, .int ngr, .ref aGv, .int held, .long gsum_40])), (aW, .inr (1, [.ref aS, .int place, .int limit, .int (b2i full)])), (aS, .inr (0, [.ref aB])), (aB, .inl (cB, 202000, .inl (by_ b))), (aGv, .inl (cI, 200, .inl gvl))] H := hP.sub [1, 0, 2, 3, 4] rfl
      have hD : va_D A [(aU, .inr (7, [.ref aS, .ref aY, .ref aP, .ref aGk, .ref aGh, .ref aGf, .ref aGl, .ref aGn, .int ngr, .ref aGv, .int held, .long gsum_40])), (aW, .inr (1, [.ref aS, .int place, .int limit, .int (b2i full)])), (aS, .inr (0, [.ref aB])), (aB, .inl (cB, 202000, .inl (by_ b))), (aGv, .inl (cI, 200, .inl gvl))] := hD.sub [1, 0, 2, 3, 4] (by decide) rfl
      refine lv_pop hx hb d_GR_writePart_36 rfl ?_
      refine lv_aload_n hx hb d_GR_writePart_37 rfl (lv_at hl 1 rfl) ?_
      refine lv_bipush (v := 18) hx hb d_GR_writePart_38 (by decide) ?_
      refine lv_iload_n hx hb d_GR_writePart_40 rfl (lv_at hl 2 rfl) ?_
      refine lv_iload_n hx hb d_GR_writePart_41 rfl (lv_at hl 3 rfl) ?_
      refine mt_Vv (As := [.int 18, .int p1, .int p2]) (rest := []) (wr := [(aU, .inr (7, [.ref aS, .ref aY, .ref aP, .ref aGk, .ref aGh, .ref aGf, .ref aGl, .ref aGn, .int ngr, .ref aGv, .int held, .long gsum_40])), (aGv, .inl (cI, 200, .inl gvl))]) ⟨hx, hb, hml, hown, hT⟩ (c_WR_name l D cB cI aW aS aB L9 U9 A9 _ place limit full b 18 p1 p2 (hc) hi) (cwV 3 hT (gV_of k_821 k_653 k_654 k_5 kc_WR_name) rfl rfl rfl hd_WR_name ⟨Nat.le_of_ble_eq_true rfl, Nat.le_of_ble_eq_true rfl⟩) hk hP hD hS hA [1, 2, 3] [0, 4] rfl rfl rfl (by decide) (by decide) (by decide) (q0 := 0) rfl rfl rfl rfl hl.1 rfl (Nat.le_of_ble_eq_true rfl) d_GR_writePart_42 ⟨Nat.zero_le _, Nat.zero_le _⟩ (fun u_41 H locs hw_41 hP hD hS => ?_)
      obtain ⟨place_41, limit_41, full_41, b_41⟩ := u_41
      obtain ⟨hw_41, hi_41⟩ := hw_41
      have hP : va_P D vwCl [(aU, .inr (7, [.ref aS, .ref aY, .ref aP, .ref aGk, .ref aGh, .ref aGf, .ref aGl, .ref aGn, .int ngr, .ref aGv, .int held, .long gsum_40])), (aW, .inr (1, [.ref aS, .int place_41, .int limit_41, .int (b2i full_41)])), (aS, .inr (0, [.ref aB])), (aB, .inl (cB, 202000, .inl (by_ b_41))), (aGv, .inl (cI, 200, .inl gvl))] H := hP.sub [0, 2, 3, 4, 1] rfl
      have hD : va_D A [(aU, .inr (7, [.ref aS, .ref aY, .ref aP, .ref aGk, .ref aGh, .ref aGf, .ref aGl, .ref aGn, .int ngr, .ref aGv, .int held, .long gsum_40])), (aW, .inr (1, [.ref aS, .int place_41, .int limit_41, .int (b2i full_41)])), (aS, .inr (0, [.ref aB])), (aB, .inl (cB, 202000, .inl (by_ b_41))), (aGv, .inl (cI, 200, .inl gvl))] := hD.sub [0, 2, 3, 4, 1] (by decide) rfl
      refine lv_aload_n hx hb d_GR_writePart_45 rfl (lv_at hl 1 rfl) ?_
      refine lv_aload_n hx hb d_GR_writePart_46 rfl (lv_at hl 0 rfl) ?_
      refine va_get (D := D) (ci := 7) (v := .long gsum_40) (C := R_GR) (T := T_GR) (N := 12) hx hb hT u_GR hown hK hP 0 rfl rfl 11 (by decide) (hT _ k_223) (fun _ h9 => h9) rfl d_GR_writePart_47 ?_
      refine mt_Vv (As := [.long gsum_40]) (rest := []) (wr := [(aU, .inr (7, [.ref aS, .ref aY, .ref aP, .ref aGk, .ref aGh, .ref aGf, .ref aGl, .ref aGn, .int ngr, .ref aGv, .int held, .long gsum_40])), (aGv, .inl (cI, 200, .inl gvl))]) ⟨hx, hb, hml, hown, hT⟩ (c_WR_whole64 l D cB cI aW aS aB L9 U9 A9 _ place_41 limit_41 full_41 b_41 gsum_40 hi_41) (cwV 1 hT (gV_of k_827 k_828 k_829 k_5 kc_WR_whole64) rfl rfl rfl hd_WR_whole64 ⟨Nat.le_of_ble_eq_true rfl, Nat.le_of_ble_eq_true rfl⟩) hk hP hD hS hA [1, 2, 3] [0, 4] rfl rfl rfl (by decide) (by decide) (by decide) (q0 := 0) rfl rfl rfl rfl hl.1 rfl (Nat.le_of_ble_eq_true rfl) d_GR_writePart_50 ⟨Nat.zero_le _, Nat.zero_le _⟩ (fun u_42 H locs hw_42 hP hD hS => ?_)
      obtain ⟨place_42, limit_42, full_42, b_42⟩ := u_42
      obtain ⟨hw_42, hi_42⟩ := hw_42
      have hP : va_P D vwCl [(aU, .inr (7, [.ref aS, .ref aY, .ref aP, .ref aGk, .ref aGh, .ref aGf, .ref aGl, .ref aGn, .int ngr, .ref aGv, .int held, .long gsum_40])), (aW, .inr (1, [.ref aS, .int place_42, .int limit_42, .int (b2i full_42)])), (aS, .inr (0, [.ref aB])), (aB, .inl (cB, 202000, .inl (by_ b_42))), (aGv, .inl (cI, 200, .inl gvl))] H := hP.sub [0, 2, 3, 4, 1] rfl
      have hD : va_D A [(aU, .inr (7, [.ref aS, .ref aY, .ref aP, .ref aGk, .ref aGh, .ref aGf, .ref aGl, .ref aGn, .int ngr, .ref aGv, .int held, .long gsum_40])), (aW, .inr (1, [.ref aS, .int place_42, .int limit_42, .int (b2i full_42)])), (aS, .inr (0, [.ref aB])), (aB, .inl (cB, 202000, .inl (by_ b_42))), (aGv, .inl (cI, 200, .inl gvl))] := hD.sub [0, 2, 3, 4, 1] (by decide) rfl
      refine lv_goto (tgt := 185) hx hb d_GR_writePart_53 (by decide) ?_
      exact W.vret hx hb hr (fun t ht hW => ⟨⟨(gsum_40, place_42, limit_42, full_42, b_42, gvl), rfl, ⟨(by rw [tw_GR_writePart, if_neg c_1, if_pos c_2, ← hw_40, tp2_mk, ← hw_41, tp4_mk, ← hw_42, tp4_mk]; first | done | rfl), hi_42⟩, by rw [ht]; exact hP, hD⟩, hS.F ht⟩) hS.2.2 d_GR_writePart_185
  · refine lv_aload_n hx hb d_GR_writePart_6 rfl (lv_at hl 1 rfl) ?_
    refine lv_bipush (v := 18) hx hb d_GR_writePart_7 (by decide) ?_
    refine lv_iload_n hx hb d_GR_writePart_9 rfl (lv_at hl 2 rfl) ?_
    refine lv_iload_n hx hb d_GR_writePart_10 rfl (lv_at hl 3 rfl) ?_
    refine mt_Vv (As := [.int 18, .int p1, .int p2]) (rest := []) (wr := [(aU, .inr (7, [.ref aS, .ref aY, .ref aP, .ref aGk, .ref aGh, .ref aGf, .ref aGl, .ref aGn, .int ngr, .ref aGv, .int held, .long gsum])), (aGv, .inl (cI, 200, .inl gvl))]) ⟨hx, hb, hml, hown, hT⟩ (c_WR_name l D cB cI aW aS aB L9 U9 A9 _ place limit full b 18 p1 p2 (hc) hi) (cwV 3 hT (gV_of k_821 k_653 k_654 k_5 kc_WR_name) rfl rfl rfl hd_WR_name ⟨Nat.le_of_ble_eq_true rfl, Nat.le_of_ble_eq_true rfl⟩) hk hP hD hS hA [1, 2, 3] [0, 4] rfl rfl rfl (by decide) (by decide) (by decide) (q0 := 0) rfl rfl rfl rfl hl.1 rfl (Nat.le_of_ble_eq_true rfl) d_GR_writePart_11 ⟨Nat.zero_le _, Nat.zero_le _⟩ (fun u_43 H locs hw_43 hP hD hS => ?_)
    obtain ⟨place_43, limit_43, full_43, b_43⟩ := u_43
    obtain ⟨hw_43, hi_43⟩ := hw_43
    have hP : va_P D vwCl [(aU, .inr (7, [.ref aS, .ref aY, .ref aP, .ref aGk, .ref aGh, .ref aGf, .ref aGl, .ref aGn, .int ngr, .ref aGv, .int held, .long gsum])), (aW, .inr (1, [.ref aS, .int place_43, .int limit_43, .int (b2i full_43)])), (aS, .inr (0, [.ref aB])), (aB, .inl (cB, 202000, .inl (by_ b_43))), (aGv, .inl (cI, 200, .inl gvl))] H := hP.sub [0, 2, 3, 4, 1] rfl
    have hD : va_D A [(aU, .inr (7, [.ref aS, .ref aY, .ref aP, .ref aGk, .ref aGh, .ref aGf, .ref aGl, .ref aGn, .int ngr, .ref aGv, .int held, .long gsum])), (aW, .inr (1, [.ref aS, .int place_43, .int limit_43, .int (b2i full_43)])), (aS, .inr (0, [.ref aB])), (aB, .inl (cB, 202000, .inl (by_ b_43))), (aGv, .inl (cI, 200, .inl gvl))] := hD.sub [0, 2, 3, 4, 1] (by decide) rfl
    refine lv_aload_n hx hb d_GR_writePart_14 rfl (lv_at hl 1 rfl) ?_
    refine lv_aload_n hx hb d_GR_writePart_15 rfl (lv_at hl 0 rfl) ?_
    refine va_get (D := D) (ci := 7) (v := .int held) (C := R_GR) (T := T_GR) (N := 12) hx hb hT u_GR hown hK hP 0 rfl rfl 10 (by decide) (hT _ k_222) (fun _ h9 => h9) rfl d_GR_writePart_16 ?_
    refine lv_i2l (v := held.toInt64) hx hb d_GR_writePart_19 rfl ?_
    refine mt_Vv (As := [.long held.toInt64]) (rest := []) (wr := [(aU, .inr (7, [.ref aS, .ref aY, .ref aP, .ref aGk, .ref aGh, .ref aGf, .ref aGl, .ref aGn, .int ngr, .ref aGv, .int held, .long gsum])), (aGv, .inl (cI, 200, .inl gvl))]) ⟨hx, hb, hml, hown, hT⟩ (c_WR_whole64 l D cB cI aW aS aB L9 U9 A9 _ place_43 limit_43 full_43 b_43 held.toInt64 hi_43) (cwV 1 hT (gV_of k_827 k_828 k_829 k_5 kc_WR_whole64) rfl rfl rfl hd_WR_whole64 ⟨Nat.le_of_ble_eq_true rfl, Nat.le_of_ble_eq_true rfl⟩) hk hP hD hS hA [1, 2, 3] [0, 4] rfl rfl rfl (by decide) (by decide) (by decide) (q0 := 0) rfl rfl rfl rfl hl.1 rfl (Nat.le_of_ble_eq_true rfl) d_GR_writePart_20 ⟨Nat.zero_le _, Nat.zero_le _⟩ (fun u_44 H locs hw_44 hP hD hS => ?_)
    obtain ⟨place_44, limit_44, full_44, b_44⟩ := u_44
    obtain ⟨hw_44, hi_44⟩ := hw_44
    have hP : va_P D vwCl [(aU, .inr (7, [.ref aS, .ref aY, .ref aP, .ref aGk, .ref aGh, .ref aGf, .ref aGl, .ref aGn, .int ngr, .ref aGv, .int held, .long gsum])), (aW, .inr (1, [.ref aS, .int place_44, .int limit_44, .int (b2i full_44)])), (aS, .inr (0, [.ref aB])), (aB, .inl (cB, 202000, .inl (by_ b_44))), (aGv, .inl (cI, 200, .inl gvl))] H := hP.sub [0, 2, 3, 4, 1] rfl
    have hD : va_D A [(aU, .inr (7, [.ref aS, .ref aY, .ref aP, .ref aGk, .ref aGh, .ref aGf, .ref aGl, .ref aGn, .int ngr, .ref aGv, .int held, .long gsum])), (aW, .inr (1, [.ref aS, .int place_44, .int limit_44, .int (b2i full_44)])), (aS, .inr (0, [.ref aB])), (aB, .inl (cB, 202000, .inl (by_ b_44))), (aGv, .inl (cI, 200, .inl gvl))] := hD.sub [0, 2, 3, 4, 1] (by decide) rfl
    refine lv_goto (tgt := 185) hx hb d_GR_writePart_23 (by decide) ?_
    exact W.vret hx hb hr (fun t ht hW => ⟨⟨(gsum, place_44, limit_44, full_44, b_44, gvl), rfl, ⟨(by rw [tw_GR_writePart, if_pos c_1, ← hw_43, tp4_mk, ← hw_44, tp4_mk]; first | done | rfl), hi_44⟩, by rw [ht]; exact hP, hD⟩, hS.F ht⟩) hS.2.2 d_GR_writePart_185
