/-! printed by wip/gen -/
theorem k_12 : (Jvm.Cond.initialized "PipelineBeltModel") ∈ lw_g := lw_gm (List.mem_append_right _ (List.mem_of_getElem? (i := 12) (by decide +kernel))) rfl
theorem k_1044 : (Jvm.Cond.fieldLink "PipelineBeltModel" (8 : Nat) "PipelineBeltModel" "store" "[I") ∈ lw_g := lw_gm (List.mem_append_right _ (List.mem_of_getElem? (i := 1044) (by decide +kernel))) rfl
theorem k_1046 : (Jvm.Cond.fieldLink "PipelineBeltModel" (14 : Nat) "PipelineBeltModel" "docs" "[I") ∈ lw_g := lw_gm (List.mem_append_right _ (List.mem_of_getElem? (i := 1046) (by decide +kernel))) rfl
theorem k_1047 : (Jvm.Cond.fieldLink "PipelineBeltModel" (17 : Nat) "PipelineBeltModel" "total" "[I") ∈ lw_g := lw_gm (List.mem_append_right _ (List.mem_of_getElem? (i := 1047) (by decide +kernel))) rfl
theorem k_1048 : (Jvm.Cond.fieldLink "PipelineBeltModel" (20 : Nat) "PipelineBeltModel" "from" "[I") ∈ lw_g := lw_gm (List.mem_append_right _ (List.mem_of_getElem? (i := 1048) (by decide +kernel))) rfl
theorem k_1049 : (Jvm.Cond.fieldLink "PipelineBeltModel" (23 : Nat) "PipelineBeltModel" "size" "[I") ∈ lw_g := lw_gm (List.mem_append_right _ (List.mem_of_getElem? (i := 1049) (by decide +kernel))) rfl
theorem k_1148 : (Jvm.Cond.methodLink "PipelineBeltModel" (73 : Nat) ({ cls := "PipelineBeltModel", name := "whole", desc := "(I)I" } : Jvm.MethodName)) ∈ lw_g := lw_gm (List.mem_append_right _ (List.mem_of_getElem? (i := 1148) (by decide +kernel))) rfl
theorem k_1150 : (Jvm.Cond.instanceMethod ({ cls := "PipelineBeltModel", name := "whole", desc := "(I)I" } : Jvm.MethodName)) ∈ lw_g := lw_gm (List.mem_append_right _ (List.mem_of_getElem? (i := 1150) (by decide +kernel))) rfl
theorem k_1152 : (Jvm.Cond.constant "PipelineBeltModel" (106 : Nat) (65536 : Int32)) ∈ lw_g := lw_gm (List.mem_append_right _ (List.mem_of_getElem? (i := 1152) (by decide +kernel))) rfl
theorem k_1153 : (Jvm.Cond.constant "PipelineBeltModel" (107 : Nat) (16777216 : Int32)) ∈ lw_g := lw_gm (List.mem_append_right _ (List.mem_of_getElem? (i := 1153) (by decide +kernel))) rfl
theorem k_1174 : (Jvm.Cond.methodLink "PipelineBeltModel" (95 : Nat) ({ cls := "PipelineBeltModel", name := "nameEndOf", desc := "(I)I" } : Jvm.MethodName)) ∈ lw_g := lw_gm (List.mem_append_right _ (List.mem_of_getElem? (i := 1174) (by decide +kernel))) rfl
theorem k_1176 : (Jvm.Cond.instanceMethod ({ cls := "PipelineBeltModel", name := "nameEndOf", desc := "(I)I" } : Jvm.MethodName)) ∈ lw_g := lw_gm (List.mem_append_right _ (List.mem_of_getElem? (i := 1176) (by decide +kernel))) rfl
theorem k_1182 : (Jvm.Cond.methodLink "PipelineBeltModel" (81 : Nat) ({ cls := "PipelineBeltModel", name := "valueOf", desc := "(I)I" } : Jvm.MethodName)) ∈ lw_g := lw_gm (List.mem_append_right _ (List.mem_of_getElem? (i := 1182) (by decide +kernel))) rfl
theorem k_1184 : (Jvm.Cond.instanceMethod ({ cls := "PipelineBeltModel", name := "valueOf", desc := "(I)I" } : Jvm.MethodName)) ∈ lw_g := lw_gm (List.mem_append_right _ (List.mem_of_getElem? (i := 1184) (by decide +kernel))) rfl
theorem k_1186 : (Jvm.Cond.methodLink "PipelineBeltModel" (84 : Nat) ({ cls := "PipelineBeltModel", name := "lengthOf", desc := "(II)I" } : Jvm.MethodName)) ∈ lw_g := lw_gm (List.mem_append_right _ (List.mem_of_getElem? (i := 1186) (by decide +kernel))) rfl
theorem k_1188 : (Jvm.Cond.instanceMethod ({ cls := "PipelineBeltModel", name := "lengthOf", desc := "(II)I" } : Jvm.MethodName)) ∈ lw_g := lw_gm (List.mem_append_right _ (List.mem_of_getElem? (i := 1188) (by decide +kernel))) rfl
theorem k_1196 : (Jvm.Cond.methodLink "PipelineBeltModel" (108 : Nat) ({ cls := "PipelineBeltModel", name := "firstOf", desc := "(I)I" } : Jvm.MethodName)) ∈ lw_g := lw_gm (List.mem_append_right _ (List.mem_of_getElem? (i := 1196) (by decide +kernel))) rfl
theorem k_1198 : (Jvm.Cond.instanceMethod ({ cls := "PipelineBeltModel", name := "firstOf", desc := "(I)I" } : Jvm.MethodName)) ∈ lw_g := lw_gm (List.mem_append_right _ (List.mem_of_getElem? (i := 1198) (by decide +kernel))) rfl
theorem k_1204 : (Jvm.Cond.methodLink "PipelineBeltModel" (111 : Nat) ({ cls := "PipelineBeltModel", name := "nextOf", desc := "(I)I" } : Jvm.MethodName)) ∈ lw_g := lw_gm (List.mem_append_right _ (List.mem_of_getElem? (i := 1204) (by decide +kernel))) rfl
theorem k_1206 : (Jvm.Cond.instanceMethod ({ cls := "PipelineBeltModel", name := "nextOf", desc := "(I)I" } : Jvm.MethodName)) ∈ lw_g := lw_gm (List.mem_append_right _ (List.mem_of_getElem? (i := 1206) (by decide +kernel))) rfl
theorem k_1221 : (Jvm.Cond.constantLong "PipelineBeltModel" (167 : Nat) (255 : Int64)) ∈ lw_g := lw_gm (List.mem_append_right _ (List.mem_of_getElem? (i := 1221) (by decide +kernel))) rfl
theorem k_1359 : (Jvm.Cond.methodLink "PipelineBeltModel" (131 : Nat) ({ cls := "PipelineBeltModel", name := "isStep", desc := "(II)Z" } : Jvm.MethodName)) ∈ lw_g := lw_gm (List.mem_append_right _ (List.mem_of_getElem? (i := 1359) (by decide +kernel))) rfl
theorem k_1361 : (Jvm.Cond.instanceMethod ({ cls := "PipelineBeltModel", name := "isStep", desc := "(II)Z" } : Jvm.MethodName)) ∈ lw_g := lw_gm (List.mem_append_right _ (List.mem_of_getElem? (i := 1361) (by decide +kernel))) rfl
theorem k_1488 : (Jvm.Cond.methodLink "PipelineBeltModel" (411 : Nat) ({ cls := "PipelineBeltModel", name := "isThere", desc := "(II)Z" } : Jvm.MethodName)) ∈ lw_g := lw_gm (List.mem_append_right _ (List.mem_of_getElem? (i := 1488) (by decide +kernel))) rfl
theorem k_1490 : (Jvm.Cond.instanceMethod ({ cls := "PipelineBeltModel", name := "isThere", desc := "(II)Z" } : Jvm.MethodName)) ∈ lw_g := lw_gm (List.mem_append_right _ (List.mem_of_getElem? (i := 1490) (by decide +kernel))) rfl
abbrev b_MO_classOf : ByteArray := prog_13_method_19_code
def y_MO_classOf : MethodName := ⟨R_MO, "classOf", "(I)I"⟩
theorem kc_MO_classOf : Cond.code y_MO_classOf b_MO_classOf 1 (some .int) ∈ lw_g := lw_gm (List.mem_append_right _ (List.mem_of_getElem? (i := 1414) (by decide +kernel))) rfl
abbrev mw_MO_classOf : List Cond := Cond.code y_MO_classOf b_MO_classOf 1 (some .int) :: lw_g
theorem hd_MO_classOf : y_MO_classOf.cls ≠ "java/lang/invoke/MethodHandle" ∧ y_MO_classOf.cls ≠ "java/lang/invoke/VarHandle" ∧ (parseMethodDescriptor y_MO_classOf.desc).map (fun d => d.parameters.length) = some 1 := by decide +kernel
theorem d_MO_classOf_0 : decode b_MO_classOf 0 = .ok (.iload_n 0, 1) := by decide +kernel
theorem d_MO_classOf_1 : decode b_MO_classOf 1 = .ok (.tableswitch 96 2 18 #[87, 89, 91, 96, 96, 96, 93, 96, 83, 96, 96, 96, 96, 96, 85, 96, 85], 83) := by decide +kernel
theorem d_MO_classOf_84 : decode b_MO_classOf 84 = .ok (.iconst 1, 1) := by decide +kernel
theorem d_MO_classOf_85 : decode b_MO_classOf 85 = .ok (.ireturn, 1) := by decide +kernel
theorem d_MO_classOf_86 : decode b_MO_classOf 86 = .ok (.iconst 2, 1) := by decide +kernel
theorem d_MO_classOf_87 : decode b_MO_classOf 87 = .ok (.ireturn, 1) := by decide +kernel
theorem d_MO_classOf_88 : decode b_MO_classOf 88 = .ok (.iconst 3, 1) := by decide +kernel
theorem d_MO_classOf_89 : decode b_MO_classOf 89 = .ok (.ireturn, 1) := by decide +kernel
theorem d_MO_classOf_90 : decode b_MO_classOf 90 = .ok (.iconst 4, 1) := by decide +kernel
theorem d_MO_classOf_91 : decode b_MO_classOf 91 = .ok (.ireturn, 1) := by decide +kernel
theorem d_MO_classOf_92 : decode b_MO_classOf 92 = .ok (.iconst 5, 1) := by decide +kernel
theorem d_MO_classOf_93 : decode b_MO_classOf 93 = .ok (.ireturn, 1) := by decide +kernel
theorem d_MO_classOf_94 : decode b_MO_classOf 94 = .ok (.bipush 6, 2) := by decide +kernel
theorem d_MO_classOf_96 : decode b_MO_classOf 96 = .ok (.ireturn, 1) := by decide +kernel
theorem d_MO_classOf_97 : decode b_MO_classOf 97 = .ok (.iconst 0, 1) := by decide +kernel
theorem d_MO_classOf_98 : decode b_MO_classOf 98 = .ok (.ireturn, 1) := by decide +kernel
abbrev b_MO_whole : ByteArray := prog_13_method_11_code
def y_MO_whole : MethodName := ⟨R_MO, "whole", "(I)I"⟩
theorem kc_MO_whole : Cond.code y_MO_whole b_MO_whole 2 (some .int) ∈ lw_g := lw_gm (List.mem_append_right _ (List.mem_of_getElem? (i := 1151) (by decide +kernel))) rfl
abbrev mw_MO_whole : List Cond := Cond.code y_MO_whole b_MO_whole 2 (some .int) :: lw_g
theorem hd_MO_whole : y_MO_whole.cls = R_MO ∧ y_MO_whole.cls ≠ "java/lang/invoke/MethodHandle" ∧ y_MO_whole.cls ≠ "java/lang/invoke/VarHandle" ∧ (parseMethodDescriptor y_MO_whole.desc).map (fun d => d.parameters.length) = some 1 := by decide +kernel
theorem kp_MO_whole : Cond.selects R_MO y_MO_whole y_MO_whole ∈ lw_g := lw_gm (List.mem_append_left _ (by decide +kernel)) rfl
theorem d_MO_whole_0 : decode b_MO_whole 0 = .ok (.aload_n 0, 1) := by decide +kernel
theorem d_MO_whole_1 : decode b_MO_whole 1 = .ok (.getfield 8, 3) := by decide +kernel
theorem d_MO_whole_4 : decode b_MO_whole 4 = .ok (.iload_n 1, 1) := by decide +kernel
theorem d_MO_whole_5 : decode b_MO_whole 5 = .ok (.iaload, 1) := by decide +kernel
theorem d_MO_whole_6 : decode b_MO_whole 6 = .ok (.sipush 256, 3) := by decide +kernel
theorem d_MO_whole_9 : decode b_MO_whole 9 = .ok (.aload_n 0, 1) := by decide +kernel
theorem d_MO_whole_10 : decode b_MO_whole 10 = .ok (.getfield 8, 3) := by decide +kernel
theorem d_MO_whole_13 : decode b_MO_whole 13 = .ok (.iload_n 1, 1) := by decide +kernel
theorem d_MO_whole_14 : decode b_MO_whole 14 = .ok (.iconst 1, 1) := by decide +kernel
theorem d_MO_whole_15 : decode b_MO_whole 15 = .ok (.iadd, 1) := by decide +kernel
theorem d_MO_whole_16 : decode b_MO_whole 16 = .ok (.iaload, 1) := by decide +kernel
theorem d_MO_whole_17 : decode b_MO_whole 17 = .ok (.imul, 1) := by decide +kernel
theorem d_MO_whole_18 : decode b_MO_whole 18 = .ok (.iadd, 1) := by decide +kernel
theorem d_MO_whole_19 : decode b_MO_whole 19 = .ok (.ldc 106, 2) := by decide +kernel
theorem d_MO_whole_21 : decode b_MO_whole 21 = .ok (.aload_n 0, 1) := by decide +kernel
theorem d_MO_whole_22 : decode b_MO_whole 22 = .ok (.getfield 8, 3) := by decide +kernel
theorem d_MO_whole_25 : decode b_MO_whole 25 = .ok (.iload_n 1, 1) := by decide +kernel
theorem d_MO_whole_26 : decode b_MO_whole 26 = .ok (.iconst 2, 1) := by decide +kernel
theorem d_MO_whole_27 : decode b_MO_whole 27 = .ok (.iadd, 1) := by decide +kernel
theorem d_MO_whole_28 : decode b_MO_whole 28 = .ok (.iaload, 1) := by decide +kernel
theorem d_MO_whole_29 : decode b_MO_whole 29 = .ok (.imul, 1) := by decide +kernel
theorem d_MO_whole_30 : decode b_MO_whole 30 = .ok (.iadd, 1) := by decide +kernel
theorem d_MO_whole_31 : decode b_MO_whole 31 = .ok (.ldc 107, 2) := by decide +kernel
theorem d_MO_whole_33 : decode b_MO_whole 33 = .ok (.aload_n 0, 1) := by decide +kernel
theorem d_MO_whole_34 : decode b_MO_whole 34 = .ok (.getfield 8, 3) := by decide +kernel
theorem d_MO_whole_37 : decode b_MO_whole 37 = .ok (.iload_n 1, 1) := by decide +kernel
theorem d_MO_whole_38 : decode b_MO_whole 38 = .ok (.iconst 3, 1) := by decide +kernel
theorem d_MO_whole_39 : decode b_MO_whole 39 = .ok (.iadd, 1) := by decide +kernel
theorem d_MO_whole_40 : decode b_MO_whole 40 = .ok (.iaload, 1) := by decide +kernel
theorem d_MO_whole_41 : decode b_MO_whole 41 = .ok (.imul, 1) := by decide +kernel
theorem d_MO_whole_42 : decode b_MO_whole 42 = .ok (.iadd, 1) := by decide +kernel
theorem d_MO_whole_43 : decode b_MO_whole 43 = .ok (.ireturn, 1) := by decide +kernel
abbrev b_MO_nameEndOf : ByteArray := prog_13_method_12_code
def y_MO_nameEndOf : MethodName := ⟨R_MO, "nameEndOf", "(I)I"⟩
theorem kc_MO_nameEndOf : Cond.code y_MO_nameEndOf b_MO_nameEndOf 3 (some .int) ∈ lw_g := lw_gm (List.mem_append_right _ (List.mem_of_getElem? (i := 1177) (by decide +kernel))) rfl
abbrev mw_MO_nameEndOf : List Cond := Cond.code y_MO_nameEndOf b_MO_nameEndOf 3 (some .int) :: lw_g
theorem hd_MO_nameEndOf : y_MO_nameEndOf.cls = R_MO ∧ y_MO_nameEndOf.cls ≠ "java/lang/invoke/MethodHandle" ∧ y_MO_nameEndOf.cls ≠ "java/lang/invoke/VarHandle" ∧ (parseMethodDescriptor y_MO_nameEndOf.desc).map (fun d => d.parameters.length) = some 1 := by decide +kernel
theorem kp_MO_nameEndOf : Cond.selects R_MO y_MO_nameEndOf y_MO_nameEndOf ∈ lw_g := lw_gm (List.mem_append_left _ (by decide +kernel)) rfl
theorem d_MO_nameEndOf_0 : decode b_MO_nameEndOf 0 = .ok (.iload_n 1, 1) := by decide +kernel
theorem d_MO_nameEndOf_1 : decode b_MO_nameEndOf 1 = .ok (.iconst 1, 1) := by decide +kernel
theorem d_MO_nameEndOf_2 : decode b_MO_nameEndOf 2 = .ok (.iadd, 1) := by decide +kernel
theorem d_MO_nameEndOf_3 : decode b_MO_nameEndOf 3 = .ok (.istore_n 2, 1) := by decide +kernel
theorem d_MO_nameEndOf_4 : decode b_MO_nameEndOf 4 = .ok (.aload_n 0, 1) := by decide +kernel
theorem d_MO_nameEndOf_5 : decode b_MO_nameEndOf 5 = .ok (.getfield 8, 3) := by decide +kernel
theorem d_MO_nameEndOf_8 : decode b_MO_nameEndOf 8 = .ok (.iload_n 2, 1) := by decide +kernel
theorem d_MO_nameEndOf_9 : decode b_MO_nameEndOf 9 = .ok (.iaload, 1) := by decide +kernel
theorem d_MO_nameEndOf_10 : decode b_MO_nameEndOf 10 = .ok (.ifCond .eq 9, 3) := by decide +kernel
theorem d_MO_nameEndOf_13 : decode b_MO_nameEndOf 13 = .ok (.iinc 2 1, 3) := by decide +kernel
theorem d_MO_nameEndOf_16 : decode b_MO_nameEndOf 16 = .ok (.goto (-12), 3) := by decide +kernel
theorem d_MO_nameEndOf_19 : decode b_MO_nameEndOf 19 = .ok (.iload_n 2, 1) := by decide +kernel
theorem d_MO_nameEndOf_20 : decode b_MO_nameEndOf 20 = .ok (.ireturn, 1) := by decide +kernel
abbrev b_MO_valueOf : ByteArray := prog_13_method_13_code
def y_MO_valueOf : MethodName := ⟨R_MO, "valueOf", "(I)I"⟩
theorem kc_MO_valueOf : Cond.code y_MO_valueOf b_MO_valueOf 2 (some .int) ∈ lw_g := lw_gm (List.mem_append_right _ (List.mem_of_getElem? (i := 1185) (by decide +kernel))) rfl
abbrev mw_MO_valueOf : List Cond := Cond.code y_MO_valueOf b_MO_valueOf 2 (some .int) :: lw_g
theorem hd_MO_valueOf : y_MO_valueOf.cls = R_MO ∧ y_MO_valueOf.cls ≠ "java/lang/invoke/MethodHandle" ∧ y_MO_valueOf.cls ≠ "java/lang/invoke/VarHandle" ∧ (parseMethodDescriptor y_MO_valueOf.desc).map (fun d => d.parameters.length) = some 1 := by decide +kernel
theorem kp_MO_valueOf : Cond.selects R_MO y_MO_valueOf y_MO_valueOf ∈ lw_g := lw_gm (List.mem_append_left _ (by decide +kernel)) rfl
theorem d_MO_valueOf_0 : decode b_MO_valueOf 0 = .ok (.aload_n 0, 1) := by decide +kernel
theorem d_MO_valueOf_1 : decode b_MO_valueOf 1 = .ok (.iload_n 1, 1) := by decide +kernel
theorem d_MO_valueOf_2 : decode b_MO_valueOf 2 = .ok (.invokevirtual 95, 3) := by decide +kernel
theorem d_MO_valueOf_5 : decode b_MO_valueOf 5 = .ok (.iconst 1, 1) := by decide +kernel
theorem d_MO_valueOf_6 : decode b_MO_valueOf 6 = .ok (.iadd, 1) := by decide +kernel
theorem d_MO_valueOf_7 : decode b_MO_valueOf 7 = .ok (.ireturn, 1) := by decide +kernel
abbrev b_MO_lengthOf : ByteArray := prog_13_method_14_code
def y_MO_lengthOf : MethodName := ⟨R_MO, "lengthOf", "(II)I"⟩
theorem kc_MO_lengthOf : Cond.code y_MO_lengthOf b_MO_lengthOf 3 (some .int) ∈ lw_g := lw_gm (List.mem_append_right _ (List.mem_of_getElem? (i := 1189) (by decide +kernel))) rfl
abbrev mw_MO_lengthOf : List Cond := Cond.code y_MO_lengthOf b_MO_lengthOf 3 (some .int) :: lw_g
theorem hd_MO_lengthOf : y_MO_lengthOf.cls = R_MO ∧ y_MO_lengthOf.cls ≠ "java/lang/invoke/MethodHandle" ∧ y_MO_lengthOf.cls ≠ "java/lang/invoke/VarHandle" ∧ (parseMethodDescriptor y_MO_lengthOf.desc).map (fun d => d.parameters.length) = some 2 := by decide +kernel
theorem kp_MO_lengthOf : Cond.selects R_MO y_MO_lengthOf y_MO_lengthOf ∈ lw_g := lw_gm (List.mem_append_left _ (by decide +kernel)) rfl
theorem d_MO_lengthOf_0 : decode b_MO_lengthOf 0 = .ok (.iload_n 1, 1) := by decide +kernel
theorem d_MO_lengthOf_1 : decode b_MO_lengthOf 1 = .ok (.tableswitch 104 2 18 #[90, 98, 98, 104, 104, 104, 88, 104, 104, 104, 104, 104, 104, 104, 83, 104, 85], 83) := by decide +kernel
theorem d_MO_lengthOf_84 : decode b_MO_lengthOf 84 = .ok (.iconst 4, 1) := by decide +kernel
theorem d_MO_lengthOf_85 : decode b_MO_lengthOf 85 = .ok (.ireturn, 1) := by decide +kernel
theorem d_MO_lengthOf_86 : decode b_MO_lengthOf 86 = .ok (.bipush 8, 2) := by decide +kernel
theorem d_MO_lengthOf_88 : decode b_MO_lengthOf 88 = .ok (.ireturn, 1) := by decide +kernel
theorem d_MO_lengthOf_89 : decode b_MO_lengthOf 89 = .ok (.iconst 1, 1) := by decide +kernel
theorem d_MO_lengthOf_90 : decode b_MO_lengthOf 90 = .ok (.ireturn, 1) := by decide +kernel
theorem d_MO_lengthOf_91 : decode b_MO_lengthOf 91 = .ok (.iconst 4, 1) := by decide +kernel
theorem d_MO_lengthOf_92 : decode b_MO_lengthOf 92 = .ok (.aload_n 0, 1) := by decide +kernel
theorem d_MO_lengthOf_93 : decode b_MO_lengthOf 93 = .ok (.iload_n 2, 1) := by decide +kernel
theorem d_MO_lengthOf_94 : decode b_MO_lengthOf 94 = .ok (.invokevirtual 73, 3) := by decide +kernel
theorem d_MO_lengthOf_97 : decode b_MO_lengthOf 97 = .ok (.iadd, 1) := by decide +kernel
theorem d_MO_lengthOf_98 : decode b_MO_lengthOf 98 = .ok (.ireturn, 1) := by decide +kernel
theorem d_MO_lengthOf_99 : decode b_MO_lengthOf 99 = .ok (.aload_n 0, 1) := by decide +kernel
theorem d_MO_lengthOf_100 : decode b_MO_lengthOf 100 = .ok (.iload_n 2, 1) := by decide +kernel
theorem d_MO_lengthOf_101 : decode b_MO_lengthOf 101 = .ok (.invokevirtual 73, 3) := by decide +kernel
theorem d_MO_lengthOf_104 : decode b_MO_lengthOf 104 = .ok (.ireturn, 1) := by decide +kernel
theorem d_MO_lengthOf_105 : decode b_MO_lengthOf 105 = .ok (.iconst 0, 1) := by decide +kernel
theorem d_MO_lengthOf_106 : decode b_MO_lengthOf 106 = .ok (.ireturn, 1) := by decide +kernel
abbrev b_MO_firstOf : ByteArray := prog_13_method_15_code
def y_MO_firstOf : MethodName := ⟨R_MO, "firstOf", "(I)I"⟩
theorem kc_MO_firstOf : Cond.code y_MO_firstOf b_MO_firstOf 2 (some .int) ∈ lw_g := lw_gm (List.mem_append_right _ (List.mem_of_getElem? (i := 1199) (by decide +kernel))) rfl
abbrev mw_MO_firstOf : List Cond := Cond.code y_MO_firstOf b_MO_firstOf 2 (some .int) :: lw_g
theorem hd_MO_firstOf : y_MO_firstOf.cls = R_MO ∧ y_MO_firstOf.cls ≠ "java/lang/invoke/MethodHandle" ∧ y_MO_firstOf.cls ≠ "java/lang/invoke/VarHandle" ∧ (parseMethodDescriptor y_MO_firstOf.desc).map (fun d => d.parameters.length) = some 1 := by decide +kernel
theorem kp_MO_firstOf : Cond.selects R_MO y_MO_firstOf y_MO_firstOf ∈ lw_g := lw_gm (List.mem_append_left _ (by decide +kernel)) rfl
theorem d_MO_firstOf_0 : decode b_MO_firstOf 0 = .ok (.aload_n 0, 1) := by decide +kernel
theorem d_MO_firstOf_1 : decode b_MO_firstOf 1 = .ok (.getfield 8, 3) := by decide +kernel
theorem d_MO_firstOf_4 : decode b_MO_firstOf 4 = .ok (.iload_n 1, 1) := by decide +kernel
theorem d_MO_firstOf_5 : decode b_MO_firstOf 5 = .ok (.iconst 4, 1) := by decide +kernel
theorem d_MO_firstOf_6 : decode b_MO_firstOf 6 = .ok (.iadd, 1) := by decide +kernel
theorem d_MO_firstOf_7 : decode b_MO_firstOf 7 = .ok (.iaload, 1) := by decide +kernel
theorem d_MO_firstOf_8 : decode b_MO_firstOf 8 = .ok (.ifCond .ne 7, 3) := by decide +kernel
theorem d_MO_firstOf_11 : decode b_MO_firstOf 11 = .ok (.iconst 0, 1) := by decide +kernel
theorem d_MO_firstOf_12 : decode b_MO_firstOf 12 = .ok (.goto 6, 3) := by decide +kernel
theorem d_MO_firstOf_15 : decode b_MO_firstOf 15 = .ok (.iload_n 1, 1) := by decide +kernel
theorem d_MO_firstOf_16 : decode b_MO_firstOf 16 = .ok (.iconst 4, 1) := by decide +kernel
theorem d_MO_firstOf_17 : decode b_MO_firstOf 17 = .ok (.iadd, 1) := by decide +kernel
theorem d_MO_firstOf_18 : decode b_MO_firstOf 18 = .ok (.ireturn, 1) := by decide +kernel
abbrev b_MO_nextOf : ByteArray := prog_13_method_16_code
def y_MO_nextOf : MethodName := ⟨R_MO, "nextOf", "(I)I"⟩
theorem kc_MO_nextOf : Cond.code y_MO_nextOf b_MO_nextOf 4 (some .int) ∈ lw_g := lw_gm (List.mem_append_right _ (List.mem_of_getElem? (i := 1207) (by decide +kernel))) rfl
abbrev mw_MO_nextOf : List Cond := Cond.code y_MO_nextOf b_MO_nextOf 4 (some .int) :: lw_g
theorem hd_MO_nextOf : y_MO_nextOf.cls = R_MO ∧ y_MO_nextOf.cls ≠ "java/lang/invoke/MethodHandle" ∧ y_MO_nextOf.cls ≠ "java/lang/invoke/VarHandle" ∧ (parseMethodDescriptor y_MO_nextOf.desc).map (fun d => d.parameters.length) = some 1 := by decide +kernel
theorem kp_MO_nextOf : Cond.selects R_MO y_MO_nextOf y_MO_nextOf ∈ lw_g := lw_gm (List.mem_append_left _ (by decide +kernel)) rfl
theorem d_MO_nextOf_0 : decode b_MO_nextOf 0 = .ok (.aload_n 0, 1) := by decide +kernel
theorem d_MO_nextOf_1 : decode b_MO_nextOf 1 = .ok (.iload_n 1, 1) := by decide +kernel
theorem d_MO_nextOf_2 : decode b_MO_nextOf 2 = .ok (.invokevirtual 81, 3) := by decide +kernel
theorem d_MO_nextOf_5 : decode b_MO_nextOf 5 = .ok (.istore_n 2, 1) := by decide +kernel
theorem d_MO_nextOf_6 : decode b_MO_nextOf 6 = .ok (.iload_n 2, 1) := by decide +kernel
theorem d_MO_nextOf_7 : decode b_MO_nextOf 7 = .ok (.aload_n 0, 1) := by decide +kernel
theorem d_MO_nextOf_8 : decode b_MO_nextOf 8 = .ok (.aload_n 0, 1) := by decide +kernel
theorem d_MO_nextOf_9 : decode b_MO_nextOf 9 = .ok (.getfield 8, 3) := by decide +kernel
theorem d_MO_nextOf_12 : decode b_MO_nextOf 12 = .ok (.iload_n 1, 1) := by decide +kernel
theorem d_MO_nextOf_13 : decode b_MO_nextOf 13 = .ok (.iaload, 1) := by decide +kernel
theorem d_MO_nextOf_14 : decode b_MO_nextOf 14 = .ok (.iload_n 2, 1) := by decide +kernel
theorem d_MO_nextOf_15 : decode b_MO_nextOf 15 = .ok (.invokevirtual 84, 3) := by decide +kernel
theorem d_MO_nextOf_18 : decode b_MO_nextOf 18 = .ok (.iadd, 1) := by decide +kernel
theorem d_MO_nextOf_19 : decode b_MO_nextOf 19 = .ok (.istore_n 3, 1) := by decide +kernel
theorem d_MO_nextOf_20 : decode b_MO_nextOf 20 = .ok (.aload_n 0, 1) := by decide +kernel
theorem d_MO_nextOf_21 : decode b_MO_nextOf 21 = .ok (.getfield 8, 3) := by decide +kernel
theorem d_MO_nextOf_24 : decode b_MO_nextOf 24 = .ok (.iload_n 3, 1) := by decide +kernel
theorem d_MO_nextOf_25 : decode b_MO_nextOf 25 = .ok (.iaload, 1) := by decide +kernel
theorem d_MO_nextOf_26 : decode b_MO_nextOf 26 = .ok (.ifCond .ne 7, 3) := by decide +kernel
theorem d_MO_nextOf_29 : decode b_MO_nextOf 29 = .ok (.iconst 0, 1) := by decide +kernel
theorem d_MO_nextOf_30 : decode b_MO_nextOf 30 = .ok (.goto 4, 3) := by decide +kernel
theorem d_MO_nextOf_33 : decode b_MO_nextOf 33 = .ok (.iload_n 3, 1) := by decide +kernel
theorem d_MO_nextOf_34 : decode b_MO_nextOf 34 = .ok (.ireturn, 1) := by decide +kernel
abbrev b_MO_countOf : ByteArray := prog_13_method_17_code
def y_MO_countOf : MethodName := ⟨R_MO, "countOf", "(I)I"⟩
theorem kc_MO_countOf : Cond.code y_MO_countOf b_MO_countOf 4 (some .int) ∈ lw_g := lw_gm (List.mem_append_right _ (List.mem_of_getElem? (i := 1203) (by decide +kernel))) rfl
abbrev mw_MO_countOf : List Cond := Cond.code y_MO_countOf b_MO_countOf 4 (some .int) :: lw_g
theorem hd_MO_countOf : y_MO_countOf.cls = R_MO ∧ y_MO_countOf.cls ≠ "java/lang/invoke/MethodHandle" ∧ y_MO_countOf.cls ≠ "java/lang/invoke/VarHandle" ∧ (parseMethodDescriptor y_MO_countOf.desc).map (fun d => d.parameters.length) = some 1 := by decide +kernel
theorem kp_MO_countOf : Cond.selects R_MO y_MO_countOf y_MO_countOf ∈ lw_g := lw_gm (List.mem_append_left _ (by decide +kernel)) rfl
theorem d_MO_countOf_0 : decode b_MO_countOf 0 = .ok (.iconst 0, 1) := by decide +kernel
theorem d_MO_countOf_1 : decode b_MO_countOf 1 = .ok (.istore_n 2, 1) := by decide +kernel
theorem d_MO_countOf_2 : decode b_MO_countOf 2 = .ok (.aload_n 0, 1) := by decide +kernel
theorem d_MO_countOf_3 : decode b_MO_countOf 3 = .ok (.iload_n 1, 1) := by decide +kernel
theorem d_MO_countOf_4 : decode b_MO_countOf 4 = .ok (.invokevirtual 108, 3) := by decide +kernel
theorem d_MO_countOf_7 : decode b_MO_countOf 7 = .ok (.istore_n 3, 1) := by decide +kernel
theorem d_MO_countOf_8 : decode b_MO_countOf 8 = .ok (.iload_n 3, 1) := by decide +kernel
theorem d_MO_countOf_9 : decode b_MO_countOf 9 = .ok (.ifCond .le 15, 3) := by decide +kernel
theorem d_MO_countOf_12 : decode b_MO_countOf 12 = .ok (.iinc 2 1, 3) := by decide +kernel
theorem d_MO_countOf_15 : decode b_MO_countOf 15 = .ok (.aload_n 0, 1) := by decide +kernel
theorem d_MO_countOf_16 : decode b_MO_countOf 16 = .ok (.iload_n 3, 1) := by decide +kernel
theorem d_MO_countOf_17 : decode b_MO_countOf 17 = .ok (.invokevirtual 111, 3) := by decide +kernel
theorem d_MO_countOf_20 : decode b_MO_countOf 20 = .ok (.istore_n 3, 1) := by decide +kernel
theorem d_MO_countOf_21 : decode b_MO_countOf 21 = .ok (.goto (-13), 3) := by decide +kernel
theorem d_MO_countOf_24 : decode b_MO_countOf 24 = .ok (.iload_n 2, 1) := by decide +kernel
theorem d_MO_countOf_25 : decode b_MO_countOf 25 = .ok (.ireturn, 1) := by decide +kernel
abbrev b_MO_number : ByteArray := prog_13_method_18_code
def y_MO_number : MethodName := ⟨R_MO, "number", "(II)J"⟩
theorem kc_MO_number : Cond.code y_MO_number b_MO_number 6 (some .long) ∈ lw_g := lw_gm (List.mem_append_right _ (List.mem_of_getElem? (i := 1280) (by decide +kernel))) rfl
abbrev mw_MO_number : List Cond := Cond.code y_MO_number b_MO_number 6 (some .long) :: lw_g
theorem hd_MO_number : y_MO_number.cls = R_MO ∧ y_MO_number.cls ≠ "java/lang/invoke/MethodHandle" ∧ y_MO_number.cls ≠ "java/lang/invoke/VarHandle" ∧ (parseMethodDescriptor y_MO_number.desc).map (fun d => d.parameters.length) = some 2 := by decide +kernel
theorem kp_MO_number : Cond.selects R_MO y_MO_number y_MO_number ∈ lw_g := lw_gm (List.mem_append_left _ (by decide +kernel)) rfl
theorem d_MO_number_0 : decode b_MO_number 0 = .ok (.iload_n 1, 1) := by decide +kernel
theorem d_MO_number_1 : decode b_MO_number 1 = .ok (.bipush 8, 2) := by decide +kernel
theorem d_MO_number_3 : decode b_MO_number 3 = .ok (.if_icmp .ne 11, 3) := by decide +kernel
theorem d_MO_number_6 : decode b_MO_number 6 = .ok (.aload_n 0, 1) := by decide +kernel
theorem d_MO_number_7 : decode b_MO_number 7 = .ok (.getfield 8, 3) := by decide +kernel
theorem d_MO_number_10 : decode b_MO_number 10 = .ok (.iload_n 2, 1) := by decide +kernel
theorem d_MO_number_11 : decode b_MO_number 11 = .ok (.iaload, 1) := by decide +kernel
theorem d_MO_number_12 : decode b_MO_number 12 = .ok (.i2l, 1) := by decide +kernel
theorem d_MO_number_13 : decode b_MO_number 13 = .ok (.lreturn, 1) := by decide +kernel
theorem d_MO_number_14 : decode b_MO_number 14 = .ok (.iload_n 1, 1) := by decide +kernel
theorem d_MO_number_15 : decode b_MO_number 15 = .ok (.bipush 16, 2) := by decide +kernel
theorem d_MO_number_17 : decode b_MO_number 17 = .ok (.if_icmp .ne 10, 3) := by decide +kernel
theorem d_MO_number_20 : decode b_MO_number 20 = .ok (.aload_n 0, 1) := by decide +kernel
theorem d_MO_number_21 : decode b_MO_number 21 = .ok (.iload_n 2, 1) := by decide +kernel
theorem d_MO_number_22 : decode b_MO_number 22 = .ok (.invokevirtual 73, 3) := by decide +kernel
theorem d_MO_number_25 : decode b_MO_number 25 = .ok (.i2l, 1) := by decide +kernel
theorem d_MO_number_26 : decode b_MO_number 26 = .ok (.lreturn, 1) := by decide +kernel
theorem d_MO_number_27 : decode b_MO_number 27 = .ok (.lconst 0, 1) := by decide +kernel
theorem d_MO_number_28 : decode b_MO_number 28 = .ok (.lstore_n 3, 1) := by decide +kernel
theorem d_MO_number_29 : decode b_MO_number 29 = .ok (.bipush 7, 2) := by decide +kernel
theorem d_MO_number_31 : decode b_MO_number 31 = .ok (.istore 5, 2) := by decide +kernel
theorem d_MO_number_33 : decode b_MO_number 33 = .ok (.iload 5, 2) := by decide +kernel
theorem d_MO_number_35 : decode b_MO_number 35 = .ok (.ifCond .lt 25, 3) := by decide +kernel
theorem d_MO_number_38 : decode b_MO_number 38 = .ok (.lload_n 3, 1) := by decide +kernel
theorem d_MO_number_39 : decode b_MO_number 39 = .ok (.bipush 8, 2) := by decide +kernel
theorem d_MO_number_41 : decode b_MO_number 41 = .ok (.lshl, 1) := by decide +kernel
theorem d_MO_number_42 : decode b_MO_number 42 = .ok (.aload_n 0, 1) := by decide +kernel
theorem d_MO_number_43 : decode b_MO_number 43 = .ok (.getfield 8, 3) := by decide +kernel
theorem d_MO_number_46 : decode b_MO_number 46 = .ok (.iload_n 2, 1) := by decide +kernel
theorem d_MO_number_47 : decode b_MO_number 47 = .ok (.iload 5, 2) := by decide +kernel
theorem d_MO_number_49 : decode b_MO_number 49 = .ok (.iadd, 1) := by decide +kernel
theorem d_MO_number_50 : decode b_MO_number 50 = .ok (.iaload, 1) := by decide +kernel
theorem d_MO_number_51 : decode b_MO_number 51 = .ok (.i2l, 1) := by decide +kernel
theorem d_MO_number_52 : decode b_MO_number 52 = .ok (.lor, 1) := by decide +kernel
theorem d_MO_number_53 : decode b_MO_number 53 = .ok (.lstore_n 3, 1) := by decide +kernel
theorem d_MO_number_54 : decode b_MO_number 54 = .ok (.iinc 5 (-1), 3) := by decide +kernel
theorem d_MO_number_57 : decode b_MO_number 57 = .ok (.goto (-24), 3) := by decide +kernel
theorem d_MO_number_60 : decode b_MO_number 60 = .ok (.lload_n 3, 1) := by decide +kernel
theorem d_MO_number_61 : decode b_MO_number 61 = .ok (.lreturn, 1) := by decide +kernel
abbrev b_MO_orderBytes : ByteArray := prog_13_method_20_code
def y_MO_orderBytes : MethodName := ⟨R_MO, "orderBytes", "(IIII)I"⟩
theorem kc_MO_orderBytes : Cond.code y_MO_orderBytes b_MO_orderBytes 6 (some .int) ∈ lw_g := lw_gm (List.mem_append_right _ (List.mem_of_getElem? (i := 1181) (by decide +kernel))) rfl
abbrev mw_MO_orderBytes : List Cond := Cond.code y_MO_orderBytes b_MO_orderBytes 6 (some .int) :: lw_g
theorem hd_MO_orderBytes : y_MO_orderBytes.cls = R_MO ∧ y_MO_orderBytes.cls ≠ "java/lang/invoke/MethodHandle" ∧ y_MO_orderBytes.cls ≠ "java/lang/invoke/VarHandle" ∧ (parseMethodDescriptor y_MO_orderBytes.desc).map (fun d => d.parameters.length) = some 4 := by decide +kernel
theorem kp_MO_orderBytes : Cond.selects R_MO y_MO_orderBytes y_MO_orderBytes ∈ lw_g := lw_gm (List.mem_append_left _ (by decide +kernel)) rfl
theorem d_MO_orderBytes_0 : decode b_MO_orderBytes 0 = .ok (.iconst 0, 1) := by decide +kernel
theorem d_MO_orderBytes_1 : decode b_MO_orderBytes 1 = .ok (.istore 5, 2) := by decide +kernel
theorem d_MO_orderBytes_3 : decode b_MO_orderBytes 3 = .ok (.iload 5, 2) := by decide +kernel
theorem d_MO_orderBytes_5 : decode b_MO_orderBytes 5 = .ok (.iload_n 2, 1) := by decide +kernel
theorem d_MO_orderBytes_6 : decode b_MO_orderBytes 6 = .ok (.if_icmp .ge 37, 3) := by decide +kernel
theorem d_MO_orderBytes_9 : decode b_MO_orderBytes 9 = .ok (.iload 5, 2) := by decide +kernel
theorem d_MO_orderBytes_11 : decode b_MO_orderBytes 11 = .ok (.iload 4, 2) := by decide +kernel
theorem d_MO_orderBytes_13 : decode b_MO_orderBytes 13 = .ok (.if_icmp .ge 30, 3) := by decide +kernel
theorem d_MO_orderBytes_16 : decode b_MO_orderBytes 16 = .ok (.aload_n 0, 1) := by decide +kernel
theorem d_MO_orderBytes_17 : decode b_MO_orderBytes 17 = .ok (.getfield 8, 3) := by decide +kernel
theorem d_MO_orderBytes_20 : decode b_MO_orderBytes 20 = .ok (.iload_n 1, 1) := by decide +kernel
theorem d_MO_orderBytes_21 : decode b_MO_orderBytes 21 = .ok (.iload 5, 2) := by decide +kernel
theorem d_MO_orderBytes_23 : decode b_MO_orderBytes 23 = .ok (.iadd, 1) := by decide +kernel
theorem d_MO_orderBytes_24 : decode b_MO_orderBytes 24 = .ok (.iaload, 1) := by decide +kernel
theorem d_MO_orderBytes_25 : decode b_MO_orderBytes 25 = .ok (.aload_n 0, 1) := by decide +kernel
theorem d_MO_orderBytes_26 : decode b_MO_orderBytes 26 = .ok (.getfield 8, 3) := by decide +kernel
theorem d_MO_orderBytes_29 : decode b_MO_orderBytes 29 = .ok (.iload_n 3, 1) := by decide +kernel
theorem d_MO_orderBytes_30 : decode b_MO_orderBytes 30 = .ok (.iload 5, 2) := by decide +kernel
theorem d_MO_orderBytes_32 : decode b_MO_orderBytes 32 = .ok (.iadd, 1) := by decide +kernel
theorem d_MO_orderBytes_33 : decode b_MO_orderBytes 33 = .ok (.iaload, 1) := by decide +kernel
theorem d_MO_orderBytes_34 : decode b_MO_orderBytes 34 = .ok (.if_icmp .ne 9, 3) := by decide +kernel
theorem d_MO_orderBytes_37 : decode b_MO_orderBytes 37 = .ok (.iinc 5 1, 3) := by decide +kernel
theorem d_MO_orderBytes_40 : decode b_MO_orderBytes 40 = .ok (.goto (-37), 3) := by decide +kernel
theorem d_MO_orderBytes_43 : decode b_MO_orderBytes 43 = .ok (.iload 5, 2) := by decide +kernel
theorem d_MO_orderBytes_45 : decode b_MO_orderBytes 45 = .ok (.iload_n 2, 1) := by decide +kernel
theorem d_MO_orderBytes_46 : decode b_MO_orderBytes 46 = .ok (.if_icmp .ge 37, 3) := by decide +kernel
theorem d_MO_orderBytes_49 : decode b_MO_orderBytes 49 = .ok (.iload 5, 2) := by decide +kernel
theorem d_MO_orderBytes_51 : decode b_MO_orderBytes 51 = .ok (.iload 4, 2) := by decide +kernel
theorem d_MO_orderBytes_53 : decode b_MO_orderBytes 53 = .ok (.if_icmp .ge 30, 3) := by decide +kernel
theorem d_MO_orderBytes_56 : decode b_MO_orderBytes 56 = .ok (.aload_n 0, 1) := by decide +kernel
theorem d_MO_orderBytes_57 : decode b_MO_orderBytes 57 = .ok (.getfield 8, 3) := by decide +kernel
theorem d_MO_orderBytes_60 : decode b_MO_orderBytes 60 = .ok (.iload_n 1, 1) := by decide +kernel
theorem d_MO_orderBytes_61 : decode b_MO_orderBytes 61 = .ok (.iload 5, 2) := by decide +kernel
theorem d_MO_orderBytes_63 : decode b_MO_orderBytes 63 = .ok (.iadd, 1) := by decide +kernel
theorem d_MO_orderBytes_64 : decode b_MO_orderBytes 64 = .ok (.iaload, 1) := by decide +kernel
theorem d_MO_orderBytes_65 : decode b_MO_orderBytes 65 = .ok (.aload_n 0, 1) := by decide +kernel
theorem d_MO_orderBytes_66 : decode b_MO_orderBytes 66 = .ok (.getfield 8, 3) := by decide +kernel
theorem d_MO_orderBytes_69 : decode b_MO_orderBytes 69 = .ok (.iload_n 3, 1) := by decide +kernel
theorem d_MO_orderBytes_70 : decode b_MO_orderBytes 70 = .ok (.iload 5, 2) := by decide +kernel
theorem d_MO_orderBytes_72 : decode b_MO_orderBytes 72 = .ok (.iadd, 1) := by decide +kernel
theorem d_MO_orderBytes_73 : decode b_MO_orderBytes 73 = .ok (.iaload, 1) := by decide +kernel
theorem d_MO_orderBytes_74 : decode b_MO_orderBytes 74 = .ok (.if_icmp .ge 7, 3) := by decide +kernel
theorem d_MO_orderBytes_77 : decode b_MO_orderBytes 77 = .ok (.iconst (-1), 1) := by decide +kernel
theorem d_MO_orderBytes_78 : decode b_MO_orderBytes 78 = .ok (.goto 4, 3) := by decide +kernel
theorem d_MO_orderBytes_81 : decode b_MO_orderBytes 81 = .ok (.iconst 1, 1) := by decide +kernel
theorem d_MO_orderBytes_82 : decode b_MO_orderBytes 82 = .ok (.ireturn, 1) := by decide +kernel
theorem d_MO_orderBytes_83 : decode b_MO_orderBytes 83 = .ok (.iload_n 2, 1) := by decide +kernel
theorem d_MO_orderBytes_84 : decode b_MO_orderBytes 84 = .ok (.iload 4, 2) := by decide +kernel
theorem d_MO_orderBytes_86 : decode b_MO_orderBytes 86 = .ok (.if_icmp .ge 7, 3) := by decide +kernel
theorem d_MO_orderBytes_89 : decode b_MO_orderBytes 89 = .ok (.iconst (-1), 1) := by decide +kernel
theorem d_MO_orderBytes_90 : decode b_MO_orderBytes 90 = .ok (.goto 14, 3) := by decide +kernel
theorem d_MO_orderBytes_93 : decode b_MO_orderBytes 93 = .ok (.iload_n 2, 1) := by decide +kernel
theorem d_MO_orderBytes_94 : decode b_MO_orderBytes 94 = .ok (.iload 4, 2) := by decide +kernel
theorem d_MO_orderBytes_96 : decode b_MO_orderBytes 96 = .ok (.if_icmp .le 7, 3) := by decide +kernel
theorem d_MO_orderBytes_99 : decode b_MO_orderBytes 99 = .ok (.iconst 1, 1) := by decide +kernel
theorem d_MO_orderBytes_100 : decode b_MO_orderBytes 100 = .ok (.goto 4, 3) := by decide +kernel
theorem d_MO_orderBytes_103 : decode b_MO_orderBytes 103 = .ok (.iconst 0, 1) := by decide +kernel
theorem d_MO_orderBytes_104 : decode b_MO_orderBytes 104 = .ok (.ireturn, 1) := by decide +kernel
abbrev b_MO_nextStep : ByteArray := prog_13_method_26_code
def y_MO_nextStep : MethodName := ⟨R_MO, "nextStep", "(I)I"⟩
theorem kc_MO_nextStep : Cond.code y_MO_nextStep b_MO_nextStep 3 (some .int) ∈ lw_g := lw_gm (List.mem_append_right _ (List.mem_of_getElem? (i := 1366) (by decide +kernel))) rfl
abbrev mw_MO_nextStep : List Cond := Cond.code y_MO_nextStep b_MO_nextStep 3 (some .int) :: lw_g
theorem hd_MO_nextStep : y_MO_nextStep.cls = R_MO ∧ y_MO_nextStep.cls ≠ "java/lang/invoke/MethodHandle" ∧ y_MO_nextStep.cls ≠ "java/lang/invoke/VarHandle" ∧ (parseMethodDescriptor y_MO_nextStep.desc).map (fun d => d.parameters.length) = some 1 := by decide +kernel
theorem kp_MO_nextStep : Cond.selects R_MO y_MO_nextStep y_MO_nextStep ∈ lw_g := lw_gm (List.mem_append_left _ (by decide +kernel)) rfl
theorem d_MO_nextStep_0 : decode b_MO_nextStep 0 = .ok (.iload_n 1, 1) := by decide +kernel
theorem d_MO_nextStep_1 : decode b_MO_nextStep 1 = .ok (.istore_n 2, 1) := by decide +kernel
theorem d_MO_nextStep_2 : decode b_MO_nextStep 2 = .ok (.aload_n 0, 1) := by decide +kernel
theorem d_MO_nextStep_3 : decode b_MO_nextStep 3 = .ok (.getfield 8, 3) := by decide +kernel
theorem d_MO_nextStep_6 : decode b_MO_nextStep 6 = .ok (.iload_n 2, 1) := by decide +kernel
theorem d_MO_nextStep_7 : decode b_MO_nextStep 7 = .ok (.iaload, 1) := by decide +kernel
theorem d_MO_nextStep_8 : decode b_MO_nextStep 8 = .ok (.ifCond .eq 20, 3) := by decide +kernel
theorem d_MO_nextStep_11 : decode b_MO_nextStep 11 = .ok (.aload_n 0, 1) := by decide +kernel
theorem d_MO_nextStep_12 : decode b_MO_nextStep 12 = .ok (.getfield 8, 3) := by decide +kernel
theorem d_MO_nextStep_15 : decode b_MO_nextStep 15 = .ok (.iload_n 2, 1) := by decide +kernel
theorem d_MO_nextStep_16 : decode b_MO_nextStep 16 = .ok (.iaload, 1) := by decide +kernel
theorem d_MO_nextStep_17 : decode b_MO_nextStep 17 = .ok (.bipush 46, 2) := by decide +kernel
theorem d_MO_nextStep_19 : decode b_MO_nextStep 19 = .ok (.if_icmp .eq 9, 3) := by decide +kernel
theorem d_MO_nextStep_22 : decode b_MO_nextStep 22 = .ok (.iinc 2 1, 3) := by decide +kernel
theorem d_MO_nextStep_25 : decode b_MO_nextStep 25 = .ok (.goto (-23), 3) := by decide +kernel
theorem d_MO_nextStep_28 : decode b_MO_nextStep 28 = .ok (.aload_n 0, 1) := by decide +kernel
theorem d_MO_nextStep_29 : decode b_MO_nextStep 29 = .ok (.getfield 8, 3) := by decide +kernel
theorem d_MO_nextStep_32 : decode b_MO_nextStep 32 = .ok (.iload_n 2, 1) := by decide +kernel
theorem d_MO_nextStep_33 : decode b_MO_nextStep 33 = .ok (.iaload, 1) := by decide +kernel
theorem d_MO_nextStep_34 : decode b_MO_nextStep 34 = .ok (.ifCond .ne 7, 3) := by decide +kernel
theorem d_MO_nextStep_37 : decode b_MO_nextStep 37 = .ok (.iconst 0, 1) := by decide +kernel
theorem d_MO_nextStep_38 : decode b_MO_nextStep 38 = .ok (.goto 6, 3) := by decide +kernel
theorem d_MO_nextStep_41 : decode b_MO_nextStep 41 = .ok (.iload_n 2, 1) := by decide +kernel
theorem d_MO_nextStep_42 : decode b_MO_nextStep 42 = .ok (.iconst 1, 1) := by decide +kernel
theorem d_MO_nextStep_43 : decode b_MO_nextStep 43 = .ok (.iadd, 1) := by decide +kernel
theorem d_MO_nextStep_44 : decode b_MO_nextStep 44 = .ok (.ireturn, 1) := by decide +kernel
abbrev b_MO_isStep : ByteArray := prog_13_method_25_code
def y_MO_isStep : MethodName := ⟨R_MO, "isStep", "(II)Z"⟩
theorem kc_MO_isStep : Cond.code y_MO_isStep b_MO_isStep 4 (some .boolean) ∈ lw_g := lw_gm (List.mem_append_right _ (List.mem_of_getElem? (i := 1362) (by decide +kernel))) rfl
abbrev mw_MO_isStep : List Cond := Cond.code y_MO_isStep b_MO_isStep 4 (some .boolean) :: lw_g
theorem hd_MO_isStep : y_MO_isStep.cls = R_MO ∧ y_MO_isStep.cls ≠ "java/lang/invoke/MethodHandle" ∧ y_MO_isStep.cls ≠ "java/lang/invoke/VarHandle" ∧ (parseMethodDescriptor y_MO_isStep.desc).map (fun d => d.parameters.length) = some 2 := by decide +kernel
theorem kp_MO_isStep : Cond.selects R_MO y_MO_isStep y_MO_isStep ∈ lw_g := lw_gm (List.mem_append_left _ (by decide +kernel)) rfl
theorem d_MO_isStep_0 : decode b_MO_isStep 0 = .ok (.iconst 0, 1) := by decide +kernel
theorem d_MO_isStep_1 : decode b_MO_isStep 1 = .ok (.istore_n 3, 1) := by decide +kernel
theorem d_MO_isStep_2 : decode b_MO_isStep 2 = .ok (.aload_n 0, 1) := by decide +kernel
theorem d_MO_isStep_3 : decode b_MO_isStep 3 = .ok (.getfield 8, 3) := by decide +kernel
theorem d_MO_isStep_6 : decode b_MO_isStep 6 = .ok (.iload_n 2, 1) := by decide +kernel
theorem d_MO_isStep_7 : decode b_MO_isStep 7 = .ok (.iconst 1, 1) := by decide +kernel
theorem d_MO_isStep_8 : decode b_MO_isStep 8 = .ok (.iadd, 1) := by decide +kernel
theorem d_MO_isStep_9 : decode b_MO_isStep 9 = .ok (.iload_n 3, 1) := by decide +kernel
theorem d_MO_isStep_10 : decode b_MO_isStep 10 = .ok (.iadd, 1) := by decide +kernel
theorem d_MO_isStep_11 : decode b_MO_isStep 11 = .ok (.iaload, 1) := by decide +kernel
theorem d_MO_isStep_12 : decode b_MO_isStep 12 = .ok (.ifCond .eq 43, 3) := by decide +kernel
theorem d_MO_isStep_15 : decode b_MO_isStep 15 = .ok (.aload_n 0, 1) := by decide +kernel
theorem d_MO_isStep_16 : decode b_MO_isStep 16 = .ok (.getfield 8, 3) := by decide +kernel
theorem d_MO_isStep_19 : decode b_MO_isStep 19 = .ok (.iload_n 2, 1) := by decide +kernel
theorem d_MO_isStep_20 : decode b_MO_isStep 20 = .ok (.iconst 1, 1) := by decide +kernel
theorem d_MO_isStep_21 : decode b_MO_isStep 21 = .ok (.iadd, 1) := by decide +kernel
theorem d_MO_isStep_22 : decode b_MO_isStep 22 = .ok (.iload_n 3, 1) := by decide +kernel
theorem d_MO_isStep_23 : decode b_MO_isStep 23 = .ok (.iadd, 1) := by decide +kernel
theorem d_MO_isStep_24 : decode b_MO_isStep 24 = .ok (.iaload, 1) := by decide +kernel
theorem d_MO_isStep_25 : decode b_MO_isStep 25 = .ok (.aload_n 0, 1) := by decide +kernel
theorem d_MO_isStep_26 : decode b_MO_isStep 26 = .ok (.getfield 8, 3) := by decide +kernel
theorem d_MO_isStep_29 : decode b_MO_isStep 29 = .ok (.iload_n 1, 1) := by decide +kernel
theorem d_MO_isStep_30 : decode b_MO_isStep 30 = .ok (.iload_n 3, 1) := by decide +kernel
theorem d_MO_isStep_31 : decode b_MO_isStep 31 = .ok (.iadd, 1) := by decide +kernel
theorem d_MO_isStep_32 : decode b_MO_isStep 32 = .ok (.iaload, 1) := by decide +kernel
theorem d_MO_isStep_33 : decode b_MO_isStep 33 = .ok (.if_icmp .ne 22, 3) := by decide +kernel
theorem d_MO_isStep_36 : decode b_MO_isStep 36 = .ok (.aload_n 0, 1) := by decide +kernel
theorem d_MO_isStep_37 : decode b_MO_isStep 37 = .ok (.getfield 8, 3) := by decide +kernel
theorem d_MO_isStep_40 : decode b_MO_isStep 40 = .ok (.iload_n 1, 1) := by decide +kernel
theorem d_MO_isStep_41 : decode b_MO_isStep 41 = .ok (.iload_n 3, 1) := by decide +kernel
theorem d_MO_isStep_42 : decode b_MO_isStep 42 = .ok (.iadd, 1) := by decide +kernel
theorem d_MO_isStep_43 : decode b_MO_isStep 43 = .ok (.iaload, 1) := by decide +kernel
theorem d_MO_isStep_44 : decode b_MO_isStep 44 = .ok (.bipush 46, 2) := by decide +kernel
theorem d_MO_isStep_46 : decode b_MO_isStep 46 = .ok (.if_icmp .eq 9, 3) := by decide +kernel
theorem d_MO_isStep_49 : decode b_MO_isStep 49 = .ok (.iinc 3 1, 3) := by decide +kernel
theorem d_MO_isStep_52 : decode b_MO_isStep 52 = .ok (.goto (-50), 3) := by decide +kernel
theorem d_MO_isStep_55 : decode b_MO_isStep 55 = .ok (.aload_n 0, 1) := by decide +kernel
theorem d_MO_isStep_56 : decode b_MO_isStep 56 = .ok (.getfield 8, 3) := by decide +kernel
theorem d_MO_isStep_59 : decode b_MO_isStep 59 = .ok (.iload_n 2, 1) := by decide +kernel
theorem d_MO_isStep_60 : decode b_MO_isStep 60 = .ok (.iconst 1, 1) := by decide +kernel
theorem d_MO_isStep_61 : decode b_MO_isStep 61 = .ok (.iadd, 1) := by decide +kernel
theorem d_MO_isStep_62 : decode b_MO_isStep 62 = .ok (.iload_n 3, 1) := by decide +kernel
theorem d_MO_isStep_63 : decode b_MO_isStep 63 = .ok (.iadd, 1) := by decide +kernel
theorem d_MO_isStep_64 : decode b_MO_isStep 64 = .ok (.iaload, 1) := by decide +kernel
theorem d_MO_isStep_65 : decode b_MO_isStep 65 = .ok (.ifCond .ne 31, 3) := by decide +kernel
theorem d_MO_isStep_68 : decode b_MO_isStep 68 = .ok (.aload_n 0, 1) := by decide +kernel
theorem d_MO_isStep_69 : decode b_MO_isStep 69 = .ok (.getfield 8, 3) := by decide +kernel
theorem d_MO_isStep_72 : decode b_MO_isStep 72 = .ok (.iload_n 1, 1) := by decide +kernel
theorem d_MO_isStep_73 : decode b_MO_isStep 73 = .ok (.iload_n 3, 1) := by decide +kernel
theorem d_MO_isStep_74 : decode b_MO_isStep 74 = .ok (.iadd, 1) := by decide +kernel
theorem d_MO_isStep_75 : decode b_MO_isStep 75 = .ok (.iaload, 1) := by decide +kernel
theorem d_MO_isStep_76 : decode b_MO_isStep 76 = .ok (.ifCond .eq 16, 3) := by decide +kernel
theorem d_MO_isStep_79 : decode b_MO_isStep 79 = .ok (.aload_n 0, 1) := by decide +kernel
theorem d_MO_isStep_80 : decode b_MO_isStep 80 = .ok (.getfield 8, 3) := by decide +kernel
theorem d_MO_isStep_83 : decode b_MO_isStep 83 = .ok (.iload_n 1, 1) := by decide +kernel
theorem d_MO_isStep_84 : decode b_MO_isStep 84 = .ok (.iload_n 3, 1) := by decide +kernel
theorem d_MO_isStep_85 : decode b_MO_isStep 85 = .ok (.iadd, 1) := by decide +kernel
theorem d_MO_isStep_86 : decode b_MO_isStep 86 = .ok (.iaload, 1) := by decide +kernel
theorem d_MO_isStep_87 : decode b_MO_isStep 87 = .ok (.bipush 46, 2) := by decide +kernel
theorem d_MO_isStep_89 : decode b_MO_isStep 89 = .ok (.if_icmp .ne 7, 3) := by decide +kernel
theorem d_MO_isStep_92 : decode b_MO_isStep 92 = .ok (.iconst 1, 1) := by decide +kernel
theorem d_MO_isStep_93 : decode b_MO_isStep 93 = .ok (.goto 4, 3) := by decide +kernel
theorem d_MO_isStep_96 : decode b_MO_isStep 96 = .ok (.iconst 0, 1) := by decide +kernel
theorem d_MO_isStep_97 : decode b_MO_isStep 97 = .ok (.ireturn, 1) := by decide +kernel
abbrev b_MO_met : ByteArray := prog_13_method_27_code
def y_MO_met : MethodName := ⟨R_MO, "met", "(II)I"⟩
theorem kc_MO_met : Cond.code y_MO_met b_MO_met 5 (some .int) ∈ lw_g := lw_gm (List.mem_append_right _ (List.mem_of_getElem? (i := 1358) (by decide +kernel))) rfl
abbrev mw_MO_met : List Cond := Cond.code y_MO_met b_MO_met 5 (some .int) :: lw_g
theorem hd_MO_met : y_MO_met.cls = R_MO ∧ y_MO_met.cls ≠ "java/lang/invoke/MethodHandle" ∧ y_MO_met.cls ≠ "java/lang/invoke/VarHandle" ∧ (parseMethodDescriptor y_MO_met.desc).map (fun d => d.parameters.length) = some 2 := by decide +kernel
theorem kp_MO_met : Cond.selects R_MO y_MO_met y_MO_met ∈ lw_g := lw_gm (List.mem_append_left _ (by decide +kernel)) rfl
theorem d_MO_met_0 : decode b_MO_met 0 = .ok (.iconst 0, 1) := by decide +kernel
theorem d_MO_met_1 : decode b_MO_met 1 = .ok (.istore_n 3, 1) := by decide +kernel
theorem d_MO_met_2 : decode b_MO_met 2 = .ok (.aload_n 0, 1) := by decide +kernel
theorem d_MO_met_3 : decode b_MO_met 3 = .ok (.iload_n 1, 1) := by decide +kernel
theorem d_MO_met_4 : decode b_MO_met 4 = .ok (.invokevirtual 108, 3) := by decide +kernel
theorem d_MO_met_7 : decode b_MO_met 7 = .ok (.istore 4, 2) := by decide +kernel
theorem d_MO_met_9 : decode b_MO_met 9 = .ok (.iload 4, 2) := by decide +kernel
theorem d_MO_met_11 : decode b_MO_met 11 = .ok (.ifCond .le 35, 3) := by decide +kernel
theorem d_MO_met_14 : decode b_MO_met 14 = .ok (.iload_n 3, 1) := by decide +kernel
theorem d_MO_met_15 : decode b_MO_met 15 = .ok (.ifCond .ne 31, 3) := by decide +kernel
theorem d_MO_met_18 : decode b_MO_met 18 = .ok (.aload_n 0, 1) := by decide +kernel
theorem d_MO_met_19 : decode b_MO_met 19 = .ok (.iload_n 2, 1) := by decide +kernel
theorem d_MO_met_20 : decode b_MO_met 20 = .ok (.iload 4, 2) := by decide +kernel
theorem d_MO_met_22 : decode b_MO_met 22 = .ok (.invokevirtual 131, 3) := by decide +kernel
theorem d_MO_met_25 : decode b_MO_met 25 = .ok (.ifCond .eq 8, 3) := by decide +kernel
theorem d_MO_met_28 : decode b_MO_met 28 = .ok (.iload 4, 2) := by decide +kernel
theorem d_MO_met_30 : decode b_MO_met 30 = .ok (.goto 4, 3) := by decide +kernel
theorem d_MO_met_33 : decode b_MO_met 33 = .ok (.iconst 0, 1) := by decide +kernel
theorem d_MO_met_34 : decode b_MO_met 34 = .ok (.istore_n 3, 1) := by decide +kernel
theorem d_MO_met_35 : decode b_MO_met 35 = .ok (.aload_n 0, 1) := by decide +kernel
theorem d_MO_met_36 : decode b_MO_met 36 = .ok (.iload 4, 2) := by decide +kernel
theorem d_MO_met_38 : decode b_MO_met 38 = .ok (.invokevirtual 111, 3) := by decide +kernel
theorem d_MO_met_41 : decode b_MO_met 41 = .ok (.istore 4, 2) := by decide +kernel
theorem d_MO_met_43 : decode b_MO_met 43 = .ok (.goto (-34), 3) := by decide +kernel
theorem d_MO_met_46 : decode b_MO_met 46 = .ok (.iload_n 3, 1) := by decide +kernel
theorem d_MO_met_47 : decode b_MO_met 47 = .ok (.ireturn, 1) := by decide +kernel
abbrev b_MO_isNamed : ByteArray := prog_13_method_47_code
def y_MO_isNamed : MethodName := ⟨R_MO, "isNamed", "(IJ)Z"⟩
theorem kc_MO_isNamed : Cond.code y_MO_isNamed b_MO_isNamed 7 (some .boolean) ∈ lw_g := lw_gm (List.mem_append_right _ (List.mem_of_getElem? (i := 1220) (by decide +kernel))) rfl
abbrev mw_MO_isNamed : List Cond := Cond.code y_MO_isNamed b_MO_isNamed 7 (some .boolean) :: lw_g
theorem hd_MO_isNamed : y_MO_isNamed.cls = R_MO ∧ y_MO_isNamed.cls ≠ "java/lang/invoke/MethodHandle" ∧ y_MO_isNamed.cls ≠ "java/lang/invoke/VarHandle" ∧ (parseMethodDescriptor y_MO_isNamed.desc).map (fun d => d.parameters.length) = some 2 := by decide +kernel
theorem kp_MO_isNamed : Cond.selects R_MO y_MO_isNamed y_MO_isNamed ∈ lw_g := lw_gm (List.mem_append_left _ (by decide +kernel)) rfl
theorem d_MO_isNamed_0 : decode b_MO_isNamed 0 = .ok (.lload_n 2, 1) := by decide +kernel
theorem d_MO_isNamed_1 : decode b_MO_isNamed 1 = .ok (.lstore 4, 2) := by decide +kernel
theorem d_MO_isNamed_3 : decode b_MO_isNamed 3 = .ok (.iload_n 1, 1) := by decide +kernel
theorem d_MO_isNamed_4 : decode b_MO_isNamed 4 = .ok (.iconst 1, 1) := by decide +kernel
theorem d_MO_isNamed_5 : decode b_MO_isNamed 5 = .ok (.iadd, 1) := by decide +kernel
theorem d_MO_isNamed_6 : decode b_MO_isNamed 6 = .ok (.istore 6, 2) := by decide +kernel
theorem d_MO_isNamed_8 : decode b_MO_isNamed 8 = .ok (.lload 4, 2) := by decide +kernel
theorem d_MO_isNamed_10 : decode b_MO_isNamed 10 = .ok (.lconst 0, 1) := by decide +kernel
theorem d_MO_isNamed_11 : decode b_MO_isNamed 11 = .ok (.lcmp, 1) := by decide +kernel
theorem d_MO_isNamed_12 : decode b_MO_isNamed 12 = .ok (.ifCond .le 33, 3) := by decide +kernel
theorem d_MO_isNamed_15 : decode b_MO_isNamed 15 = .ok (.aload_n 0, 1) := by decide +kernel
theorem d_MO_isNamed_16 : decode b_MO_isNamed 16 = .ok (.getfield 8, 3) := by decide +kernel
theorem d_MO_isNamed_19 : decode b_MO_isNamed 19 = .ok (.iload 6, 2) := by decide +kernel
theorem d_MO_isNamed_21 : decode b_MO_isNamed 21 = .ok (.iaload, 1) := by decide +kernel
theorem d_MO_isNamed_22 : decode b_MO_isNamed 22 = .ok (.lload 4, 2) := by decide +kernel
theorem d_MO_isNamed_24 : decode b_MO_isNamed 24 = .ok (.ldc2_w 167, 3) := by decide +kernel
theorem d_MO_isNamed_27 : decode b_MO_isNamed 27 = .ok (.land, 1) := by decide +kernel
theorem d_MO_isNamed_28 : decode b_MO_isNamed 28 = .ok (.l2i, 1) := by decide +kernel
theorem d_MO_isNamed_29 : decode b_MO_isNamed 29 = .ok (.if_icmp .ne 16, 3) := by decide +kernel
theorem d_MO_isNamed_32 : decode b_MO_isNamed 32 = .ok (.lload 4, 2) := by decide +kernel
theorem d_MO_isNamed_34 : decode b_MO_isNamed 34 = .ok (.bipush 8, 2) := by decide +kernel
theorem d_MO_isNamed_36 : decode b_MO_isNamed 36 = .ok (.lshr, 1) := by decide +kernel
theorem d_MO_isNamed_37 : decode b_MO_isNamed 37 = .ok (.lstore 4, 2) := by decide +kernel
theorem d_MO_isNamed_39 : decode b_MO_isNamed 39 = .ok (.iinc 6 1, 3) := by decide +kernel
theorem d_MO_isNamed_42 : decode b_MO_isNamed 42 = .ok (.goto (-34), 3) := by decide +kernel
theorem d_MO_isNamed_45 : decode b_MO_isNamed 45 = .ok (.lload 4, 2) := by decide +kernel
theorem d_MO_isNamed_47 : decode b_MO_isNamed 47 = .ok (.lconst 0, 1) := by decide +kernel
theorem d_MO_isNamed_48 : decode b_MO_isNamed 48 = .ok (.lcmp, 1) := by decide +kernel
theorem d_MO_isNamed_49 : decode b_MO_isNamed 49 = .ok (.ifCond .ne 17, 3) := by decide +kernel
theorem d_MO_isNamed_52 : decode b_MO_isNamed 52 = .ok (.aload_n 0, 1) := by decide +kernel
theorem d_MO_isNamed_53 : decode b_MO_isNamed 53 = .ok (.getfield 8, 3) := by decide +kernel
theorem d_MO_isNamed_56 : decode b_MO_isNamed 56 = .ok (.iload 6, 2) := by decide +kernel
theorem d_MO_isNamed_58 : decode b_MO_isNamed 58 = .ok (.iaload, 1) := by decide +kernel
theorem d_MO_isNamed_59 : decode b_MO_isNamed 59 = .ok (.ifCond .ne 7, 3) := by decide +kernel
theorem d_MO_isNamed_62 : decode b_MO_isNamed 62 = .ok (.iconst 1, 1) := by decide +kernel
theorem d_MO_isNamed_63 : decode b_MO_isNamed 63 = .ok (.goto 4, 3) := by decide +kernel
theorem d_MO_isNamed_66 : decode b_MO_isNamed 66 = .ok (.iconst 0, 1) := by decide +kernel
theorem d_MO_isNamed_67 : decode b_MO_isNamed 67 = .ok (.ireturn, 1) := by decide +kernel
abbrev b_MO_isThere : ByteArray := prog_13_method_83_code
def y_MO_isThere : MethodName := ⟨R_MO, "isThere", "(II)Z"⟩
theorem kc_MO_isThere : Cond.code y_MO_isThere b_MO_isThere 3 (some .boolean) ∈ lw_g := lw_gm (List.mem_append_right _ (List.mem_of_getElem? (i := 1491) (by decide +kernel))) rfl
abbrev mw_MO_isThere : List Cond := Cond.code y_MO_isThere b_MO_isThere 3 (some .boolean) :: lw_g
theorem hd_MO_isThere : y_MO_isThere.cls = R_MO ∧ y_MO_isThere.cls ≠ "java/lang/invoke/MethodHandle" ∧ y_MO_isThere.cls ≠ "java/lang/invoke/VarHandle" ∧ (parseMethodDescriptor y_MO_isThere.desc).map (fun d => d.parameters.length) = some 2 := by decide +kernel
theorem kp_MO_isThere : Cond.selects R_MO y_MO_isThere y_MO_isThere ∈ lw_g := lw_gm (List.mem_append_left _ (by decide +kernel)) rfl
theorem d_MO_isThere_0 : decode b_MO_isThere 0 = .ok (.iload_n 1, 1) := by decide +kernel
theorem d_MO_isThere_1 : decode b_MO_isThere 1 = .ok (.ifCond .lt 26, 3) := by decide +kernel
theorem d_MO_isThere_4 : decode b_MO_isThere 4 = .ok (.iload_n 1, 1) := by decide +kernel
theorem d_MO_isThere_5 : decode b_MO_isThere 5 = .ok (.iconst 2, 1) := by decide +kernel
theorem d_MO_isThere_6 : decode b_MO_isThere 6 = .ok (.if_icmp .ge 21, 3) := by decide +kernel
theorem d_MO_isThere_9 : decode b_MO_isThere 9 = .ok (.iload_n 2, 1) := by decide +kernel
theorem d_MO_isThere_10 : decode b_MO_isThere 10 = .ok (.ifCond .lt 17, 3) := by decide +kernel
theorem d_MO_isThere_13 : decode b_MO_isThere 13 = .ok (.iload_n 2, 1) := by decide +kernel
theorem d_MO_isThere_14 : decode b_MO_isThere 14 = .ok (.aload_n 0, 1) := by decide +kernel
theorem d_MO_isThere_15 : decode b_MO_isThere 15 = .ok (.getfield 14, 3) := by decide +kernel
theorem d_MO_isThere_18 : decode b_MO_isThere 18 = .ok (.iload_n 1, 1) := by decide +kernel
theorem d_MO_isThere_19 : decode b_MO_isThere 19 = .ok (.iaload, 1) := by decide +kernel
theorem d_MO_isThere_20 : decode b_MO_isThere 20 = .ok (.if_icmp .ge 7, 3) := by decide +kernel
theorem d_MO_isThere_23 : decode b_MO_isThere 23 = .ok (.iconst 1, 1) := by decide +kernel
theorem d_MO_isThere_24 : decode b_MO_isThere 24 = .ok (.goto 4, 3) := by decide +kernel
theorem d_MO_isThere_27 : decode b_MO_isThere 27 = .ok (.iconst 0, 1) := by decide +kernel
theorem d_MO_isThere_28 : decode b_MO_isThere 28 = .ok (.ireturn, 1) := by decide +kernel
abbrev b_MO_many : ByteArray := prog_13_method_82_code
def y_MO_many : MethodName := ⟨R_MO, "many", "(II)I"⟩
theorem kc_MO_many : Cond.code y_MO_many b_MO_many 3 (some .int) ∈ lw_g := lw_gm (List.mem_append_right _ (List.mem_of_getElem? (i := 1483) (by decide +kernel))) rfl
abbrev mw_MO_many : List Cond := Cond.code y_MO_many b_MO_many 3 (some .int) :: lw_g
theorem hd_MO_many : y_MO_many.cls = R_MO ∧ y_MO_many.cls ≠ "java/lang/invoke/MethodHandle" ∧ y_MO_many.cls ≠ "java/lang/invoke/VarHandle" ∧ (parseMethodDescriptor y_MO_many.desc).map (fun d => d.parameters.length) = some 2 := by decide +kernel
theorem d_MO_many_0 : decode b_MO_many 0 = .ok (.iload_n 1, 1) := by decide +kernel
theorem d_MO_many_1 : decode b_MO_many 1 = .ok (.ifCond .lt 8, 3) := by decide +kernel
theorem d_MO_many_4 : decode b_MO_many 4 = .ok (.iload_n 1, 1) := by decide +kernel
theorem d_MO_many_5 : decode b_MO_many 5 = .ok (.iconst 1, 1) := by decide +kernel
theorem d_MO_many_6 : decode b_MO_many 6 = .ok (.if_icmp .le 5, 3) := by decide +kernel
theorem d_MO_many_9 : decode b_MO_many 9 = .ok (.iconst (-1), 1) := by decide +kernel
theorem d_MO_many_10 : decode b_MO_many 10 = .ok (.ireturn, 1) := by decide +kernel
theorem d_MO_many_11 : decode b_MO_many 11 = .ok (.iload_n 2, 1) := by decide +kernel
theorem d_MO_many_12 : decode b_MO_many 12 = .ok (.ifCond .ne 12, 3) := by decide +kernel
theorem d_MO_many_15 : decode b_MO_many 15 = .ok (.aload_n 0, 1) := by decide +kernel
theorem d_MO_many_16 : decode b_MO_many 16 = .ok (.getfield 14, 3) := by decide +kernel
theorem d_MO_many_19 : decode b_MO_many 19 = .ok (.iload_n 1, 1) := by decide +kernel
theorem d_MO_many_20 : decode b_MO_many 20 = .ok (.iaload, 1) := by decide +kernel
theorem d_MO_many_21 : decode b_MO_many 21 = .ok (.goto 18, 3) := by decide +kernel
theorem d_MO_many_24 : decode b_MO_many 24 = .ok (.iload_n 2, 1) := by decide +kernel
theorem d_MO_many_25 : decode b_MO_many 25 = .ok (.iconst 1, 1) := by decide +kernel
theorem d_MO_many_26 : decode b_MO_many 26 = .ok (.if_icmp .ne 12, 3) := by decide +kernel
theorem d_MO_many_29 : decode b_MO_many 29 = .ok (.aload_n 0, 1) := by decide +kernel
theorem d_MO_many_30 : decode b_MO_many 30 = .ok (.getfield 17, 3) := by decide +kernel
theorem d_MO_many_33 : decode b_MO_many 33 = .ok (.iload_n 1, 1) := by decide +kernel
theorem d_MO_many_34 : decode b_MO_many 34 = .ok (.iaload, 1) := by decide +kernel
theorem d_MO_many_35 : decode b_MO_many 35 = .ok (.goto 4, 3) := by decide +kernel
theorem d_MO_many_38 : decode b_MO_many 38 = .ok (.iconst (-1), 1) := by decide +kernel
theorem d_MO_many_39 : decode b_MO_many 39 = .ok (.ireturn, 1) := by decide +kernel
abbrev b_MO_size : ByteArray := prog_13_method_84_code
def y_MO_size : MethodName := ⟨R_MO, "size", "(II)I"⟩
theorem kc_MO_size : Cond.code y_MO_size b_MO_size 3 (some .int) ∈ lw_g := lw_gm (List.mem_append_right _ (List.mem_of_getElem? (i := 1487) (by decide +kernel))) rfl
abbrev mw_MO_size : List Cond := Cond.code y_MO_size b_MO_size 3 (some .int) :: lw_g
theorem hd_MO_size : y_MO_size.cls = R_MO ∧ y_MO_size.cls ≠ "java/lang/invoke/MethodHandle" ∧ y_MO_size.cls ≠ "java/lang/invoke/VarHandle" ∧ (parseMethodDescriptor y_MO_size.desc).map (fun d => d.parameters.length) = some 2 := by decide +kernel
theorem d_MO_size_0 : decode b_MO_size 0 = .ok (.aload_n 0, 1) := by decide +kernel
theorem d_MO_size_1 : decode b_MO_size 1 = .ok (.iload_n 1, 1) := by decide +kernel
theorem d_MO_size_2 : decode b_MO_size 2 = .ok (.iload_n 2, 1) := by decide +kernel
theorem d_MO_size_3 : decode b_MO_size 3 = .ok (.invokevirtual 411, 3) := by decide +kernel
theorem d_MO_size_6 : decode b_MO_size 6 = .ok (.ifCond .eq 18, 3) := by decide +kernel
theorem d_MO_size_9 : decode b_MO_size 9 = .ok (.aload_n 0, 1) := by decide +kernel
theorem d_MO_size_10 : decode b_MO_size 10 = .ok (.getfield 23, 3) := by decide +kernel
theorem d_MO_size_13 : decode b_MO_size 13 = .ok (.sipush 200, 3) := by decide +kernel
theorem d_MO_size_16 : decode b_MO_size 16 = .ok (.iload_n 1, 1) := by decide +kernel
theorem d_MO_size_17 : decode b_MO_size 17 = .ok (.imul, 1) := by decide +kernel
theorem d_MO_size_18 : decode b_MO_size 18 = .ok (.iload_n 2, 1) := by decide +kernel
theorem d_MO_size_19 : decode b_MO_size 19 = .ok (.iadd, 1) := by decide +kernel
theorem d_MO_size_20 : decode b_MO_size 20 = .ok (.iaload, 1) := by decide +kernel
theorem d_MO_size_21 : decode b_MO_size 21 = .ok (.goto 4, 3) := by decide +kernel
theorem d_MO_size_24 : decode b_MO_size 24 = .ok (.iconst (-1), 1) := by decide +kernel
theorem d_MO_size_25 : decode b_MO_size 25 = .ok (.ireturn, 1) := by decide +kernel
abbrev b_MO_byteAt : ByteArray := prog_13_method_85_code
def y_MO_byteAt : MethodName := ⟨R_MO, "byteAt", "(III)I"⟩
theorem kc_MO_byteAt : Cond.code y_MO_byteAt b_MO_byteAt 4 (some .int) ∈ lw_g := lw_gm (List.mem_append_right _ (List.mem_of_getElem? (i := 1495) (by decide +kernel))) rfl
abbrev mw_MO_byteAt : List Cond := Cond.code y_MO_byteAt b_MO_byteAt 4 (some .int) :: lw_g
theorem hd_MO_byteAt : y_MO_byteAt.cls = R_MO ∧ y_MO_byteAt.cls ≠ "java/lang/invoke/MethodHandle" ∧ y_MO_byteAt.cls ≠ "java/lang/invoke/VarHandle" ∧ (parseMethodDescriptor y_MO_byteAt.desc).map (fun d => d.parameters.length) = some 3 := by decide +kernel
theorem d_MO_byteAt_0 : decode b_MO_byteAt 0 = .ok (.aload_n 0, 1) := by decide +kernel
theorem d_MO_byteAt_1 : decode b_MO_byteAt 1 = .ok (.iload_n 1, 1) := by decide +kernel
theorem d_MO_byteAt_2 : decode b_MO_byteAt 2 = .ok (.iload_n 2, 1) := by decide +kernel
theorem d_MO_byteAt_3 : decode b_MO_byteAt 3 = .ok (.invokevirtual 411, 3) := by decide +kernel
theorem d_MO_byteAt_6 : decode b_MO_byteAt 6 = .ok (.ifCond .eq 45, 3) := by decide +kernel
theorem d_MO_byteAt_9 : decode b_MO_byteAt 9 = .ok (.iload_n 3, 1) := by decide +kernel
theorem d_MO_byteAt_10 : decode b_MO_byteAt 10 = .ok (.ifCond .lt 41, 3) := by decide +kernel
theorem d_MO_byteAt_13 : decode b_MO_byteAt 13 = .ok (.iload_n 3, 1) := by decide +kernel
theorem d_MO_byteAt_14 : decode b_MO_byteAt 14 = .ok (.aload_n 0, 1) := by decide +kernel
theorem d_MO_byteAt_15 : decode b_MO_byteAt 15 = .ok (.getfield 23, 3) := by decide +kernel
theorem d_MO_byteAt_18 : decode b_MO_byteAt 18 = .ok (.sipush 200, 3) := by decide +kernel
theorem d_MO_byteAt_21 : decode b_MO_byteAt 21 = .ok (.iload_n 1, 1) := by decide +kernel
theorem d_MO_byteAt_22 : decode b_MO_byteAt 22 = .ok (.imul, 1) := by decide +kernel
theorem d_MO_byteAt_23 : decode b_MO_byteAt 23 = .ok (.iload_n 2, 1) := by decide +kernel
theorem d_MO_byteAt_24 : decode b_MO_byteAt 24 = .ok (.iadd, 1) := by decide +kernel
theorem d_MO_byteAt_25 : decode b_MO_byteAt 25 = .ok (.iaload, 1) := by decide +kernel
theorem d_MO_byteAt_26 : decode b_MO_byteAt 26 = .ok (.if_icmp .ge 25, 3) := by decide +kernel
theorem d_MO_byteAt_29 : decode b_MO_byteAt 29 = .ok (.aload_n 0, 1) := by decide +kernel
theorem d_MO_byteAt_30 : decode b_MO_byteAt 30 = .ok (.getfield 8, 3) := by decide +kernel
theorem d_MO_byteAt_33 : decode b_MO_byteAt 33 = .ok (.aload_n 0, 1) := by decide +kernel
theorem d_MO_byteAt_34 : decode b_MO_byteAt 34 = .ok (.getfield 20, 3) := by decide +kernel
theorem d_MO_byteAt_37 : decode b_MO_byteAt 37 = .ok (.sipush 200, 3) := by decide +kernel
theorem d_MO_byteAt_40 : decode b_MO_byteAt 40 = .ok (.iload_n 1, 1) := by decide +kernel
theorem d_MO_byteAt_41 : decode b_MO_byteAt 41 = .ok (.imul, 1) := by decide +kernel
theorem d_MO_byteAt_42 : decode b_MO_byteAt 42 = .ok (.iload_n 2, 1) := by decide +kernel
theorem d_MO_byteAt_43 : decode b_MO_byteAt 43 = .ok (.iadd, 1) := by decide +kernel
theorem d_MO_byteAt_44 : decode b_MO_byteAt 44 = .ok (.iaload, 1) := by decide +kernel
theorem d_MO_byteAt_45 : decode b_MO_byteAt 45 = .ok (.iload_n 3, 1) := by decide +kernel
theorem d_MO_byteAt_46 : decode b_MO_byteAt 46 = .ok (.iadd, 1) := by decide +kernel
theorem d_MO_byteAt_47 : decode b_MO_byteAt 47 = .ok (.iaload, 1) := by decide +kernel
theorem d_MO_byteAt_48 : decode b_MO_byteAt 48 = .ok (.goto 4, 3) := by decide +kernel
theorem d_MO_byteAt_51 : decode b_MO_byteAt 51 = .ok (.iconst (-1), 1) := by decide +kernel
theorem d_MO_byteAt_52 : decode b_MO_byteAt 52 = .ok (.ireturn, 1) := by decide +kernel
theorem op_no {T : Type} {V : Option T} {V0 : T} {P : Prop} (hs : V = some V0) (h : V = none) : P := by
  rw [hs] at h
  cases h
theorem op_eq {T : Type} {V : Option T} {V0 x : T} (hs : V = some V0) (h : V = some x) : x = V0 := (Option.some.inj (hs.symm.trans h)).symm
theorem op_b {V : Option Bool} {V0 x : Bool} (hs : V = some V0) (h : V = some x) : b2i x = b2i V0 := by rw [op_eq hs h]
theorem ob1_mk {T1 Z : Type} {x1 : T1} {f : T1 → Option Z} : ob1 (some x1) f = f x1 := rfl
theorem ob1_no {T1 Z : Type} {f : T1 → Option Z} : ob1 none f = none := rfl
theorem ob2_mk {T1 T2 Z : Type} {x1 : T1} {x2 : T2} {f : T1 → T2 → Option Z} : ob2 (some (x1, x2)) f = f x1 x2 := rfl
theorem ob2_no {T1 T2 Z : Type} {f : T1 → T2 → Option Z} : ob2 none f = none := rfl
theorem ob3_mk {T1 T2 T3 Z : Type} {x1 : T1} {x2 : T2} {x3 : T3} {f : T1 → T2 → T3 → Option Z} : ob3 (some (x1, x2, x3)) f = f x1 x2 x3 := rfl
theorem ob3_no {T1 T2 T3 Z : Type} {f : T1 → T2 → T3 → Option Z} : ob3 none f = none := rfl
theorem ob4_mk {T1 T2 T3 T4 Z : Type} {x1 : T1} {x2 : T2} {x3 : T3} {x4 : T4} {f : T1 → T2 → T3 → T4 → Option Z} : ob4 (some (x1, x2, x3, x4)) f = f x1 x2 x3 x4 := rfl
theorem ob4_no {T1 T2 T3 T4 Z : Type} {f : T1 → T2 → T3 → T4 → Option Z} : ob4 none f = none := rfl
theorem ob5_mk {T1 T2 T3 T4 T5 Z : Type} {x1 : T1} {x2 : T2} {x3 : T3} {x4 : T4} {x5 : T5} {f : T1 → T2 → T3 → T4 → T5 → Option Z} : ob5 (some (x1, x2, x3, x4, x5)) f = f x1 x2 x3 x4 x5 := rfl
theorem ob5_no {T1 T2 T3 T4 T5 Z : Type} {f : T1 → T2 → T3 → T4 → T5 → Option Z} : ob5 none f = none := rfl
theorem ob6_mk {T1 T2 T3 T4 T5 T6 Z : Type} {x1 : T1} {x2 : T2} {x3 : T3} {x4 : T4} {x5 : T5} {x6 : T6} {f : T1 → T2 → T3 → T4 → T5 → T6 → Option Z} : ob6 (some (x1, x2, x3, x4, x5, x6)) f = f x1 x2 x3 x4 x5 x6 := rfl
theorem ob6_no {T1 T2 T3 T4 T5 T6 Z : Type} {f : T1 → T2 → T3 → T4 → T5 → T6 → Option Z} : ob6 none f = none := rfl
theorem ob7_mk {T1 T2 T3 T4 T5 T6 T7 Z : Type} {x1 : T1} {x2 : T2} {x3 : T3} {x4 : T4} {x5 : T5} {x6 : T6} {x7 : T7} {f : T1 → T2 → T3 → T4 → T5 → T6 → T7 → Option Z} : ob7 (some (x1, x2, x3, x4, x5, x6, x7)) f = f x1 x2 x3 x4 x5 x6 x7 := rfl
theorem ob7_no {T1 T2 T3 T4 T5 T6 T7 Z : Type} {f : T1 → T2 → T3 → T4 → T5 → T6 → T7 → Option Z} : ob7 none f = none := rfl
theorem ob8_mk {T1 T2 T3 T4 T5 T6 T7 T8 Z : Type} {x1 : T1} {x2 : T2} {x3 : T3} {x4 : T4} {x5 : T5} {x6 : T6} {x7 : T7} {x8 : T8} {f : T1 → T2 → T3 → T4 → T5 → T6 → T7 → T8 → Option Z} : ob8 (some (x1, x2, x3, x4, x5, x6, x7, x8)) f = f x1 x2 x3 x4 x5 x6 x7 x8 := rfl
theorem ob8_no {T1 T2 T3 T4 T5 T6 T7 T8 Z : Type} {f : T1 → T2 → T3 → T4 → T5 → T6 → T7 → T8 → Option Z} : ob8 none f = none := rfl
theorem ob9_mk {T1 T2 T3 T4 T5 T6 T7 T8 T9 Z : Type} {x1 : T1} {x2 : T2} {x3 : T3} {x4 : T4} {x5 : T5} {x6 : T6} {x7 : T7} {x8 : T8} {x9 : T9} {f : T1 → T2 → T3 → T4 → T5 → T6 → T7 → T8 → T9 → Option Z} : ob9 (some (x1, x2, x3, x4, x5, x6, x7, x8, x9)) f = f x1 x2 x3 x4 x5 x6 x7 x8 x9 := rfl
theorem ob9_no {T1 T2 T3 T4 T5 T6 T7 T8 T9 Z : Type} {f : T1 → T2 → T3 → T4 → T5 → T6 → T7 → T8 → T9 → Option Z} : ob9 none f = none := rfl
theorem ob10_mk {T1 T2 T3 T4 T5 T6 T7 T8 T9 T10 Z : Type} {x1 : T1} {x2 : T2} {x3 : T3} {x4 : T4} {x5 : T5} {x6 : T6} {x7 : T7} {x8 : T8} {x9 : T9} {x10 : T10} {f : T1 → T2 → T3 → T4 → T5 → T6 → T7 → T8 → T9 → T10 → Option Z} : ob10 (some (x1, x2, x3, x4, x5, x6, x7, x8, x9, x10)) f = f x1 x2 x3 x4 x5 x6 x7 x8 x9 x10 := rfl
theorem ob10_no {T1 T2 T3 T4 T5 T6 T7 T8 T9 T10 Z : Type} {f : T1 → T2 → T3 → T4 → T5 → T6 → T7 → T8 → T9 → T10 → Option Z} : ob10 none f = none := rfl
theorem ob11_mk {T1 T2 T3 T4 T5 T6 T7 T8 T9 T10 T11 Z : Type} {x1 : T1} {x2 : T2} {x3 : T3} {x4 : T4} {x5 : T5} {x6 : T6} {x7 : T7} {x8 : T8} {x9 : T9} {x10 : T10} {x11 : T11} {f : T1 → T2 → T3 → T4 → T5 → T6 → T7 → T8 → T9 → T10 → T11 → Option Z} : ob11 (some (x1, x2, x3, x4, x5, x6, x7, x8, x9, x10, x11)) f = f x1 x2 x3 x4 x5 x6 x7 x8 x9 x10 x11 := rfl
theorem ob11_no {T1 T2 T3 T4 T5 T6 T7 T8 T9 T10 T11 Z : Type} {f : T1 → T2 → T3 → T4 → T5 → T6 → T7 → T8 → T9 → T10 → T11 → Option Z} : ob11 none f = none := rfl
theorem ob12_mk {T1 T2 T3 T4 T5 T6 T7 T8 T9 T10 T11 T12 Z : Type} {x1 : T1} {x2 : T2} {x3 : T3} {x4 : T4} {x5 : T5} {x6 : T6} {x7 : T7} {x8 : T8} {x9 : T9} {x10 : T10} {x11 : T11} {x12 : T12} {f : T1 → T2 → T3 → T4 → T5 → T6 → T7 → T8 → T9 → T10 → T11 → T12 → Option Z} : ob12 (some (x1, x2, x3, x4, x5, x6, x7, x8, x9, x10, x11, x12)) f = f x1 x2 x3 x4 x5 x6 x7 x8 x9 x10 x11 x12 := rfl
theorem ob12_no {T1 T2 T3 T4 T5 T6 T7 T8 T9 T10 T11 T12 Z : Type} {f : T1 → T2 → T3 → T4 → T5 → T6 → T7 → T8 → T9 → T10 → T11 → T12 → Option Z} : ob12 none f = none := rfl
theorem ob13_mk {T1 T2 T3 T4 T5 T6 T7 T8 T9 T10 T11 T12 T13 Z : Type} {x1 : T1} {x2 : T2} {x3 : T3} {x4 : T4} {x5 : T5} {x6 : T6} {x7 : T7} {x8 : T8} {x9 : T9} {x10 : T10} {x11 : T11} {x12 : T12} {x13 : T13} {f : T1 → T2 → T3 → T4 → T5 → T6 → T7 → T8 → T9 → T10 → T11 → T12 → T13 → Option Z} : ob13 (some (x1, x2, x3, x4, x5, x6, x7, x8, x9, x10, x11, x12, x13)) f = f x1 x2 x3 x4 x5 x6 x7 x8 x9 x10 x11 x12 x13 := rfl
theorem ob13_no {T1 T2 T3 T4 T5 T6 T7 T8 T9 T10 T11 T12 T13 Z : Type} {f : T1 → T2 → T3 → T4 → T5 → T6 → T7 → T8 → T9 → T10 → T11 → T12 → T13 → Option Z} : ob13 none f = none := rfl
theorem ob14_mk {T1 T2 T3 T4 T5 T6 T7 T8 T9 T10 T11 T12 T13 T14 Z : Type} {x1 : T1} {x2 : T2} {x3 : T3} {x4 : T4} {x5 : T5} {x6 : T6} {x7 : T7} {x8 : T8} {x9 : T9} {x10 : T10} {x11 : T11} {x12 : T12} {x13 : T13} {x14 : T14} {f : T1 → T2 → T3 → T4 → T5 → T6 → T7 → T8 → T9 → T10 → T11 → T12 → T13 → T14 → Option Z} : ob14 (some (x1, x2, x3, x4, x5, x6, x7, x8, x9, x10, x11, x12, x13, x14)) f = f x1 x2 x3 x4 x5 x6 x7 x8 x9 x10 x11 x12 x13 x14 := rfl
theorem ob14_no {T1 T2 T3 T4 T5 T6 T7 T8 T9 T10 T11 T12 T13 T14 Z : Type} {f : T1 → T2 → T3 → T4 → T5 → T6 → T7 → T8 → T9 → T10 → T11 → T12 → T13 → T14 → Option Z} : ob14 none f = none := rfl
theorem ob15_mk {T1 T2 T3 T4 T5 T6 T7 T8 T9 T10 T11 T12 T13 T14 T15 Z : Type} {x1 : T1} {x2 : T2} {x3 : T3} {x4 : T4} {x5 : T5} {x6 : T6} {x7 : T7} {x8 : T8} {x9 : T9} {x10 : T10} {x11 : T11} {x12 : T12} {x13 : T13} {x14 : T14} {x15 : T15} {f : T1 → T2 → T3 → T4 → T5 → T6 → T7 → T8 → T9 → T10 → T11 → T12 → T13 → T14 → T15 → Option Z} : ob15 (some (x1, x2, x3, x4, x5, x6, x7, x8, x9, x10, x11, x12, x13, x14, x15)) f = f x1 x2 x3 x4 x5 x6 x7 x8 x9 x10 x11 x12 x13 x14 x15 := rfl
theorem ob15_no {T1 T2 T3 T4 T5 T6 T7 T8 T9 T10 T11 T12 T13 T14 T15 Z : Type} {f : T1 → T2 → T3 → T4 → T5 → T6 → T7 → T8 → T9 → T10 → T11 → T12 → T13 → T14 → T15 → Option Z} : ob15 none f = none := rfl
theorem ob16_mk {T1 T2 T3 T4 T5 T6 T7 T8 T9 T10 T11 T12 T13 T14 T15 T16 Z : Type} {x1 : T1} {x2 : T2} {x3 : T3} {x4 : T4} {x5 : T5} {x6 : T6} {x7 : T7} {x8 : T8} {x9 : T9} {x10 : T10} {x11 : T11} {x12 : T12} {x13 : T13} {x14 : T14} {x15 : T15} {x16 : T16} {f : T1 → T2 → T3 → T4 → T5 → T6 → T7 → T8 → T9 → T10 → T11 → T12 → T13 → T14 → T15 → T16 → Option Z} : ob16 (some (x1, x2, x3, x4, x5, x6, x7, x8, x9, x10, x11, x12, x13, x14, x15, x16)) f = f x1 x2 x3 x4 x5 x6 x7 x8 x9 x10 x11 x12 x13 x14 x15 x16 := rfl
theorem ob16_no {T1 T2 T3 T4 T5 T6 T7 T8 T9 T10 T11 T12 T13 T14 T15 T16 Z : Type} {f : T1 → T2 → T3 → T4 → T5 → T6 → T7 → T8 → T9 → T10 → T11 → T12 → T13 → T14 → T15 → T16 → Option Z} : ob16 none f = none := rfl
theorem ob17_mk {T1 T2 T3 T4 T5 T6 T7 T8 T9 T10 T11 T12 T13 T14 T15 T16 T17 Z : Type} {x1 : T1} {x2 : T2} {x3 : T3} {x4 : T4} {x5 : T5} {x6 : T6} {x7 : T7} {x8 : T8} {x9 : T9} {x10 : T10} {x11 : T11} {x12 : T12} {x13 : T13} {x14 : T14} {x15 : T15} {x16 : T16} {x17 : T17} {f : T1 → T2 → T3 → T4 → T5 → T6 → T7 → T8 → T9 → T10 → T11 → T12 → T13 → T14 → T15 → T16 → T17 → Option Z} : ob17 (some (x1, x2, x3, x4, x5, x6, x7, x8, x9, x10, x11, x12, x13, x14, x15, x16, x17)) f = f x1 x2 x3 x4 x5 x6 x7 x8 x9 x10 x11 x12 x13 x14 x15 x16 x17 := rfl
theorem ob17_no {T1 T2 T3 T4 T5 T6 T7 T8 T9 T10 T11 T12 T13 T14 T15 T16 T17 Z : Type} {f : T1 → T2 → T3 → T4 → T5 → T6 → T7 → T8 → T9 → T10 → T11 → T12 → T13 → T14 → T15 → T16 → T17 → Option Z} : ob17 none f = none := rfl
theorem ob18_mk {T1 T2 T3 T4 T5 T6 T7 T8 T9 T10 T11 T12 T13 T14 T15 T16 T17 T18 Z : Type} {x1 : T1} {x2 : T2} {x3 : T3} {x4 : T4} {x5 : T5} {x6 : T6} {x7 : T7} {x8 : T8} {x9 : T9} {x10 : T10} {x11 : T11} {x12 : T12} {x13 : T13} {x14 : T14} {x15 : T15} {x16 : T16} {x17 : T17} {x18 : T18} {f : T1 → T2 → T3 → T4 → T5 → T6 → T7 → T8 → T9 → T10 → T11 → T12 → T13 → T14 → T15 → T16 → T17 → T18 → Option Z} : ob18 (some (x1, x2, x3, x4, x5, x6, x7, x8, x9, x10, x11, x12, x13, x14, x15, x16, x17, x18)) f = f x1 x2 x3 x4 x5 x6 x7 x8 x9 x10 x11 x12 x13 x14 x15 x16 x17 x18 := rfl
theorem ob18_no {T1 T2 T3 T4 T5 T6 T7 T8 T9 T10 T11 T12 T13 T14 T15 T16 T17 T18 Z : Type} {f : T1 → T2 → T3 → T4 → T5 → T6 → T7 → T8 → T9 → T10 → T11 → T12 → T13 → T14 → T15 → T16 → T17 → T18 → Option Z} : ob18 none f = none := rfl
theorem ob19_mk {T1 T2 T3 T4 T5 T6 T7 T8 T9 T10 T11 T12 T13 T14 T15 T16 T17 T18 T19 Z : Type} {x1 : T1} {x2 : T2} {x3 : T3} {x4 : T4} {x5 : T5} {x6 : T6} {x7 : T7} {x8 : T8} {x9 : T9} {x10 : T10} {x11 : T11} {x12 : T12} {x13 : T13} {x14 : T14} {x15 : T15} {x16 : T16} {x17 : T17} {x18 : T18} {x19 : T19} {f : T1 → T2 → T3 → T4 → T5 → T6 → T7 → T8 → T9 → T10 → T11 → T12 → T13 → T14 → T15 → T16 → T17 → T18 → T19 → Option Z} : ob19 (some (x1, x2, x3, x4, x5, x6, x7, x8, x9, x10, x11, x12, x13, x14, x15, x16, x17, x18, x19)) f = f x1 x2 x3 x4 x5 x6 x7 x8 x9 x10 x11 x12 x13 x14 x15 x16 x17 x18 x19 := rfl
theorem ob19_no {T1 T2 T3 T4 T5 T6 T7 T8 T9 T10 T11 T12 T13 T14 T15 T16 T17 T18 T19 Z : Type} {f : T1 → T2 → T3 → T4 → T5 → T6 → T7 → T8 → T9 → T10 → T11 → T12 → T13 → T14 → T15 → T16 → T17 → T18 → T19 → Option Z} : ob19 none f = none := rfl
theorem ob20_mk {T1 T2 T3 T4 T5 T6 T7 T8 T9 T10 T11 T12 T13 T14 T15 T16 T17 T18 T19 T20 Z : Type} {x1 : T1} {x2 : T2} {x3 : T3} {x4 : T4} {x5 : T5} {x6 : T6} {x7 : T7} {x8 : T8} {x9 : T9} {x10 : T10} {x11 : T11} {x12 : T12} {x13 : T13} {x14 : T14} {x15 : T15} {x16 : T16} {x17 : T17} {x18 : T18} {x19 : T19} {x20 : T20} {f : T1 → T2 → T3 → T4 → T5 → T6 → T7 → T8 → T9 → T10 → T11 → T12 → T13 → T14 → T15 → T16 → T17 → T18 → T19 → T20 → Option Z} : ob20 (some (x1, x2, x3, x4, x5, x6, x7, x8, x9, x10, x11, x12, x13, x14, x15, x16, x17, x18, x19, x20)) f = f x1 x2 x3 x4 x5 x6 x7 x8 x9 x10 x11 x12 x13 x14 x15 x16 x17 x18 x19 x20 := rfl
theorem ob20_no {T1 T2 T3 T4 T5 T6 T7 T8 T9 T10 T11 T12 T13 T14 T15 T16 T17 T18 T19 T20 Z : Type} {f : T1 → T2 → T3 → T4 → T5 → T6 → T7 → T8 → T9 → T10 → T11 → T12 → T13 → T14 → T15 → T16 → T17 → T18 → T19 → T20 → Option Z} : ob20 none f = none := rfl
theorem ob21_mk {T1 T2 T3 T4 T5 T6 T7 T8 T9 T10 T11 T12 T13 T14 T15 T16 T17 T18 T19 T20 T21 Z : Type} {x1 : T1} {x2 : T2} {x3 : T3} {x4 : T4} {x5 : T5} {x6 : T6} {x7 : T7} {x8 : T8} {x9 : T9} {x10 : T10} {x11 : T11} {x12 : T12} {x13 : T13} {x14 : T14} {x15 : T15} {x16 : T16} {x17 : T17} {x18 : T18} {x19 : T19} {x20 : T20} {x21 : T21} {f : T1 → T2 → T3 → T4 → T5 → T6 → T7 → T8 → T9 → T10 → T11 → T12 → T13 → T14 → T15 → T16 → T17 → T18 → T19 → T20 → T21 → Option Z} : ob21 (some (x1, x2, x3, x4, x5, x6, x7, x8, x9, x10, x11, x12, x13, x14, x15, x16, x17, x18, x19, x20, x21)) f = f x1 x2 x3 x4 x5 x6 x7 x8 x9 x10 x11 x12 x13 x14 x15 x16 x17 x18 x19 x20 x21 := rfl
theorem ob21_no {T1 T2 T3 T4 T5 T6 T7 T8 T9 T10 T11 T12 T13 T14 T15 T16 T17 T18 T19 T20 T21 Z : Type} {f : T1 → T2 → T3 → T4 → T5 → T6 → T7 → T8 → T9 → T10 → T11 → T12 → T13 → T14 → T15 → T16 → T17 → T18 → T19 → T20 → T21 → Option Z} : ob21 none f = none := rfl
theorem ob22_mk {T1 T2 T3 T4 T5 T6 T7 T8 T9 T10 T11 T12 T13 T14 T15 T16 T17 T18 T19 T20 T21 T22 Z : Type} {x1 : T1} {x2 : T2} {x3 : T3} {x4 : T4} {x5 : T5} {x6 : T6} {x7 : T7} {x8 : T8} {x9 : T9} {x10 : T10} {x11 : T11} {x12 : T12} {x13 : T13} {x14 : T14} {x15 : T15} {x16 : T16} {x17 : T17} {x18 : T18} {x19 : T19} {x20 : T20} {x21 : T21} {x22 : T22} {f : T1 → T2 → T3 → T4 → T5 → T6 → T7 → T8 → T9 → T10 → T11 → T12 → T13 → T14 → T15 → T16 → T17 → T18 → T19 → T20 → T21 → T22 → Option Z} : ob22 (some (x1, x2, x3, x4, x5, x6, x7, x8, x9, x10, x11, x12, x13, x14, x15, x16, x17, x18, x19, x20, x21, x22)) f = f x1 x2 x3 x4 x5 x6 x7 x8 x9 x10 x11 x12 x13 x14 x15 x16 x17 x18 x19 x20 x21 x22 := rfl
theorem ob22_no {T1 T2 T3 T4 T5 T6 T7 T8 T9 T10 T11 T12 T13 T14 T15 T16 T17 T18 T19 T20 T21 T22 Z : Type} {f : T1 → T2 → T3 → T4 → T5 → T6 → T7 → T8 → T9 → T10 → T11 → T12 → T13 → T14 → T15 → T16 → T17 → T18 → T19 → T20 → T21 → T22 → Option Z} : ob22 none f = none := rfl
theorem ob23_mk {T1 T2 T3 T4 T5 T6 T7 T8 T9 T10 T11 T12 T13 T14 T15 T16 T17 T18 T19 T20 T21 T22 T23 Z : Type} {x1 : T1} {x2 : T2} {x3 : T3} {x4 : T4} {x5 : T5} {x6 : T6} {x7 : T7} {x8 : T8} {x9 : T9} {x10 : T10} {x11 : T11} {x12 : T12} {x13 : T13} {x14 : T14} {x15 : T15} {x16 : T16} {x17 : T17} {x18 : T18} {x19 : T19} {x20 : T20} {x21 : T21} {x22 : T22} {x23 : T23} {f : T1 → T2 → T3 → T4 → T5 → T6 → T7 → T8 → T9 → T10 → T11 → T12 → T13 → T14 → T15 → T16 → T17 → T18 → T19 → T20 → T21 → T22 → T23 → Option Z} : ob23 (some (x1, x2, x3, x4, x5, x6, x7, x8, x9, x10, x11, x12, x13, x14, x15, x16, x17, x18, x19, x20, x21, x22, x23)) f = f x1 x2 x3 x4 x5 x6 x7 x8 x9 x10 x11 x12 x13 x14 x15 x16 x17 x18 x19 x20 x21 x22 x23 := rfl
theorem ob23_no {T1 T2 T3 T4 T5 T6 T7 T8 T9 T10 T11 T12 T13 T14 T15 T16 T17 T18 T19 T20 T21 T22 T23 Z : Type} {f : T1 → T2 → T3 → T4 → T5 → T6 → T7 → T8 → T9 → T10 → T11 → T12 → T13 → T14 → T15 → T16 → T17 → T18 → T19 → T20 → T21 → T22 → T23 → Option Z} : ob23 none f = none := rfl
theorem ob24_mk {T1 T2 T3 T4 T5 T6 T7 T8 T9 T10 T11 T12 T13 T14 T15 T16 T17 T18 T19 T20 T21 T22 T23 T24 Z : Type} {x1 : T1} {x2 : T2} {x3 : T3} {x4 : T4} {x5 : T5} {x6 : T6} {x7 : T7} {x8 : T8} {x9 : T9} {x10 : T10} {x11 : T11} {x12 : T12} {x13 : T13} {x14 : T14} {x15 : T15} {x16 : T16} {x17 : T17} {x18 : T18} {x19 : T19} {x20 : T20} {x21 : T21} {x22 : T22} {x23 : T23} {x24 : T24} {f : T1 → T2 → T3 → T4 → T5 → T6 → T7 → T8 → T9 → T10 → T11 → T12 → T13 → T14 → T15 → T16 → T17 → T18 → T19 → T20 → T21 → T22 → T23 → T24 → Option Z} : ob24 (some (x1, x2, x3, x4, x5, x6, x7, x8, x9, x10, x11, x12, x13, x14, x15, x16, x17, x18, x19, x20, x21, x22, x23, x24)) f = f x1 x2 x3 x4 x5 x6 x7 x8 x9 x10 x11 x12 x13 x14 x15 x16 x17 x18 x19 x20 x21 x22 x23 x24 := rfl
theorem ob24_no {T1 T2 T3 T4 T5 T6 T7 T8 T9 T10 T11 T12 T13 T14 T15 T16 T17 T18 T19 T20 T21 T22 T23 T24 Z : Type} {f : T1 → T2 → T3 → T4 → T5 → T6 → T7 → T8 → T9 → T10 → T11 → T12 → T13 → T14 → T15 → T16 → T17 → T18 → T19 → T20 → T21 → T22 → T23 → T24 → Option Z} : ob24 none f = none := rfl
theorem ob25_mk {T1 T2 T3 T4 T5 T6 T7 T8 T9 T10 T11 T12 T13 T14 T15 T16 T17 T18 T19 T20 T21 T22 T23 T24 T25 Z : Type} {x1 : T1} {x2 : T2} {x3 : T3} {x4 : T4} {x5 : T5} {x6 : T6} {x7 : T7} {x8 : T8} {x9 : T9} {x10 : T10} {x11 : T11} {x12 : T12} {x13 : T13} {x14 : T14} {x15 : T15} {x16 : T16} {x17 : T17} {x18 : T18} {x19 : T19} {x20 : T20} {x21 : T21} {x22 : T22} {x23 : T23} {x24 : T24} {x25 : T25} {f : T1 → T2 → T3 → T4 → T5 → T6 → T7 → T8 → T9 → T10 → T11 → T12 → T13 → T14 → T15 → T16 → T17 → T18 → T19 → T20 → T21 → T22 → T23 → T24 → T25 → Option Z} : ob25 (some (x1, x2, x3, x4, x5, x6, x7, x8, x9, x10, x11, x12, x13, x14, x15, x16, x17, x18, x19, x20, x21, x22, x23, x24, x25)) f = f x1 x2 x3 x4 x5 x6 x7 x8 x9 x10 x11 x12 x13 x14 x15 x16 x17 x18 x19 x20 x21 x22 x23 x24 x25 := rfl
theorem ob25_no {T1 T2 T3 T4 T5 T6 T7 T8 T9 T10 T11 T12 T13 T14 T15 T16 T17 T18 T19 T20 T21 T22 T23 T24 T25 Z : Type} {f : T1 → T2 → T3 → T4 → T5 → T6 → T7 → T8 → T9 → T10 → T11 → T12 → T13 → T14 → T15 → T16 → T17 → T18 → T19 → T20 → T21 → T22 → T23 → T24 → T25 → Option Z} : ob25 none f = none := rfl
theorem ob26_mk {T1 T2 T3 T4 T5 T6 T7 T8 T9 T10 T11 T12 T13 T14 T15 T16 T17 T18 T19 T20 T21 T22 T23 T24 T25 T26 Z : Type} {x1 : T1} {x2 : T2} {x3 : T3} {x4 : T4} {x5 : T5} {x6 : T6} {x7 : T7} {x8 : T8} {x9 : T9} {x10 : T10} {x11 : T11} {x12 : T12} {x13 : T13} {x14 : T14} {x15 : T15} {x16 : T16} {x17 : T17} {x18 : T18} {x19 : T19} {x20 : T20} {x21 : T21} {x22 : T22} {x23 : T23} {x24 : T24} {x25 : T25} {x26 : T26} {f : T1 → T2 → T3 → T4 → T5 → T6 → T7 → T8 → T9 → T10 → T11 → T12 → T13 → T14 → T15 → T16 → T17 → T18 → T19 → T20 → T21 → T22 → T23 → T24 → T25 → T26 → Option Z} : ob26 (some (x1, x2, x3, x4, x5, x6, x7, x8, x9, x10, x11, x12, x13, x14, x15, x16, x17, x18, x19, x20, x21, x22, x23, x24, x25, x26)) f = f x1 x2 x3 x4 x5 x6 x7 x8 x9 x10 x11 x12 x13 x14 x15 x16 x17 x18 x19 x20 x21 x22 x23 x24 x25 x26 := rfl
theorem ob26_no {T1 T2 T3 T4 T5 T6 T7 T8 T9 T10 T11 T12 T13 T14 T15 T16 T17 T18 T19 T20 T21 T22 T23 T24 T25 T26 Z : Type} {f : T1 → T2 → T3 → T4 → T5 → T6 → T7 → T8 → T9 → T10 → T11 → T12 → T13 → T14 → T15 → T16 → T17 → T18 → T19 → T20 → T21 → T22 → T23 → T24 → T25 → T26 → Option Z} : ob26 none f = none := rfl
theorem ob27_mk {T1 T2 T3 T4 T5 T6 T7 T8 T9 T10 T11 T12 T13 T14 T15 T16 T17 T18 T19 T20 T21 T22 T23 T24 T25 T26 T27 Z : Type} {x1 : T1} {x2 : T2} {x3 : T3} {x4 : T4} {x5 : T5} {x6 : T6} {x7 : T7} {x8 : T8} {x9 : T9} {x10 : T10} {x11 : T11} {x12 : T12} {x13 : T13} {x14 : T14} {x15 : T15} {x16 : T16} {x17 : T17} {x18 : T18} {x19 : T19} {x20 : T20} {x21 : T21} {x22 : T22} {x23 : T23} {x24 : T24} {x25 : T25} {x26 : T26} {x27 : T27} {f : T1 → T2 → T3 → T4 → T5 → T6 → T7 → T8 → T9 → T10 → T11 → T12 → T13 → T14 → T15 → T16 → T17 → T18 → T19 → T20 → T21 → T22 → T23 → T24 → T25 → T26 → T27 → Option Z} : ob27 (some (x1, x2, x3, x4, x5, x6, x7, x8, x9, x10, x11, x12, x13, x14, x15, x16, x17, x18, x19, x20, x21, x22, x23, x24, x25, x26, x27)) f = f x1 x2 x3 x4 x5 x6 x7 x8 x9 x10 x11 x12 x13 x14 x15 x16 x17 x18 x19 x20 x21 x22 x23 x24 x25 x26 x27 := rfl
theorem ob27_no {T1 T2 T3 T4 T5 T6 T7 T8 T9 T10 T11 T12 T13 T14 T15 T16 T17 T18 T19 T20 T21 T22 T23 T24 T25 T26 T27 Z : Type} {f : T1 → T2 → T3 → T4 → T5 → T6 → T7 → T8 → T9 → T10 → T11 → T12 → T13 → T14 → T15 → T16 → T17 → T18 → T19 → T20 → T21 → T22 → T23 → T24 → T25 → T26 → T27 → Option Z} : ob27 none f = none := rfl
theorem ob28_mk {T1 T2 T3 T4 T5 T6 T7 T8 T9 T10 T11 T12 T13 T14 T15 T16 T17 T18 T19 T20 T21 T22 T23 T24 T25 T26 T27 T28 Z : Type} {x1 : T1} {x2 : T2} {x3 : T3} {x4 : T4} {x5 : T5} {x6 : T6} {x7 : T7} {x8 : T8} {x9 : T9} {x10 : T10} {x11 : T11} {x12 : T12} {x13 : T13} {x14 : T14} {x15 : T15} {x16 : T16} {x17 : T17} {x18 : T18} {x19 : T19} {x20 : T20} {x21 : T21} {x22 : T22} {x23 : T23} {x24 : T24} {x25 : T25} {x26 : T26} {x27 : T27} {x28 : T28} {f : T1 → T2 → T3 → T4 → T5 → T6 → T7 → T8 → T9 → T10 → T11 → T12 → T13 → T14 → T15 → T16 → T17 → T18 → T19 → T20 → T21 → T22 → T23 → T24 → T25 → T26 → T27 → T28 → Option Z} : ob28 (some (x1, x2, x3, x4, x5, x6, x7, x8, x9, x10, x11, x12, x13, x14, x15, x16, x17, x18, x19, x20, x21, x22, x23, x24, x25, x26, x27, x28)) f = f x1 x2 x3 x4 x5 x6 x7 x8 x9 x10 x11 x12 x13 x14 x15 x16 x17 x18 x19 x20 x21 x22 x23 x24 x25 x26 x27 x28 := rfl
theorem ob28_no {T1 T2 T3 T4 T5 T6 T7 T8 T9 T10 T11 T12 T13 T14 T15 T16 T17 T18 T19 T20 T21 T22 T23 T24 T25 T26 T27 T28 Z : Type} {f : T1 → T2 → T3 → T4 → T5 → T6 → T7 → T8 → T9 → T10 → T11 → T12 → T13 → T14 → T15 → T16 → T17 → T18 → T19 → T20 → T21 → T22 → T23 → T24 → T25 → T26 → T27 → T28 → Option Z} : ob28 none f = none := rfl
theorem ob29_mk {T1 T2 T3 T4 T5 T6 T7 T8 T9 T10 T11 T12 T13 T14 T15 T16 T17 T18 T19 T20 T21 T22 T23 T24 T25 T26 T27 T28 T29 Z : Type} {x1 : T1} {x2 : T2} {x3 : T3} {x4 : T4} {x5 : T5} {x6 : T6} {x7 : T7} {x8 : T8} {x9 : T9} {x10 : T10} {x11 : T11} {x12 : T12} {x13 : T13} {x14 : T14} {x15 : T15} {x16 : T16} {x17 : T17} {x18 : T18} {x19 : T19} {x20 : T20} {x21 : T21} {x22 : T22} {x23 : T23} {x24 : T24} {x25 : T25} {x26 : T26} {x27 : T27} {x28 : T28} {x29 : T29} {f : T1 → T2 → T3 → T4 → T5 → T6 → T7 → T8 → T9 → T10 → T11 → T12 → T13 → T14 → T15 → T16 → T17 → T18 → T19 → T20 → T21 → T22 → T23 → T24 → T25 → T26 → T27 → T28 → T29 → Option Z} : ob29 (some (x1, x2, x3, x4, x5, x6, x7, x8, x9, x10, x11, x12, x13, x14, x15, x16, x17, x18, x19, x20, x21, x22, x23, x24, x25, x26, x27, x28, x29)) f = f x1 x2 x3 x4 x5 x6 x7 x8 x9 x10 x11 x12 x13 x14 x15 x16 x17 x18 x19 x20 x21 x22 x23 x24 x25 x26 x27 x28 x29 := rfl
theorem ob29_no {T1 T2 T3 T4 T5 T6 T7 T8 T9 T10 T11 T12 T13 T14 T15 T16 T17 T18 T19 T20 T21 T22 T23 T24 T25 T26 T27 T28 T29 Z : Type} {f : T1 → T2 → T3 → T4 → T5 → T6 → T7 → T8 → T9 → T10 → T11 → T12 → T13 → T14 → T15 → T16 → T17 → T18 → T19 → T20 → T21 → T22 → T23 → T24 → T25 → T26 → T27 → T28 → T29 → Option Z} : ob29 none f = none := rfl
theorem ob30_mk {T1 T2 T3 T4 T5 T6 T7 T8 T9 T10 T11 T12 T13 T14 T15 T16 T17 T18 T19 T20 T21 T22 T23 T24 T25 T26 T27 T28 T29 T30 Z : Type} {x1 : T1} {x2 : T2} {x3 : T3} {x4 : T4} {x5 : T5} {x6 : T6} {x7 : T7} {x8 : T8} {x9 : T9} {x10 : T10} {x11 : T11} {x12 : T12} {x13 : T13} {x14 : T14} {x15 : T15} {x16 : T16} {x17 : T17} {x18 : T18} {x19 : T19} {x20 : T20} {x21 : T21} {x22 : T22} {x23 : T23} {x24 : T24} {x25 : T25} {x26 : T26} {x27 : T27} {x28 : T28} {x29 : T29} {x30 : T30} {f : T1 → T2 → T3 → T4 → T5 → T6 → T7 → T8 → T9 → T10 → T11 → T12 → T13 → T14 → T15 → T16 → T17 → T18 → T19 → T20 → T21 → T22 → T23 → T24 → T25 → T26 → T27 → T28 → T29 → T30 → Option Z} : ob30 (some (x1, x2, x3, x4, x5, x6, x7, x8, x9, x10, x11, x12, x13, x14, x15, x16, x17, x18, x19, x20, x21, x22, x23, x24, x25, x26, x27, x28, x29, x30)) f = f x1 x2 x3 x4 x5 x6 x7 x8 x9 x10 x11 x12 x13 x14 x15 x16 x17 x18 x19 x20 x21 x22 x23 x24 x25 x26 x27 x28 x29 x30 := rfl
theorem ob30_no {T1 T2 T3 T4 T5 T6 T7 T8 T9 T10 T11 T12 T13 T14 T15 T16 T17 T18 T19 T20 T21 T22 T23 T24 T25 T26 T27 T28 T29 T30 Z : Type} {f : T1 → T2 → T3 → T4 → T5 → T6 → T7 → T8 → T9 → T10 → T11 → T12 → T13 → T14 → T15 → T16 → T17 → T18 → T19 → T20 → T21 → T22 → T23 → T24 → T25 → T26 → T27 → T28 → T29 → T30 → Option Z} : ob30 none f = none := rfl
theorem ob31_mk {T1 T2 T3 T4 T5 T6 T7 T8 T9 T10 T11 T12 T13 T14 T15 T16 T17 T18 T19 T20 T21 T22 T23 T24 T25 T26 T27 T28 T29 T30 T31 Z : Type} {x1 : T1} {x2 : T2} {x3 : T3} {x4 : T4} {x5 : T5} {x6 : T6} {x7 : T7} {x8 : T8} {x9 : T9} {x10 : T10} {x11 : T11} {x12 : T12} {x13 : T13} {x14 : T14} {x15 : T15} {x16 : T16} {x17 : T17} {x18 : T18} {x19 : T19} {x20 : T20} {x21 : T21} {x22 : T22} {x23 : T23} {x24 : T24} {x25 : T25} {x26 : T26} {x27 : T27} {x28 : T28} {x29 : T29} {x30 : T30} {x31 : T31} {f : T1 → T2 → T3 → T4 → T5 → T6 → T7 → T8 → T9 → T10 → T11 → T12 → T13 → T14 → T15 → T16 → T17 → T18 → T19 → T20 → T21 → T22 → T23 → T24 → T25 → T26 → T27 → T28 → T29 → T30 → T31 → Option Z} : ob31 (some (x1, x2, x3, x4, x5, x6, x7, x8, x9, x10, x11, x12, x13, x14, x15, x16, x17, x18, x19, x20, x21, x22, x23, x24, x25, x26, x27, x28, x29, x30, x31)) f = f x1 x2 x3 x4 x5 x6 x7 x8 x9 x10 x11 x12 x13 x14 x15 x16 x17 x18 x19 x20 x21 x22 x23 x24 x25 x26 x27 x28 x29 x30 x31 := rfl
theorem ob31_no {T1 T2 T3 T4 T5 T6 T7 T8 T9 T10 T11 T12 T13 T14 T15 T16 T17 T18 T19 T20 T21 T22 T23 T24 T25 T26 T27 T28 T29 T30 T31 Z : Type} {f : T1 → T2 → T3 → T4 → T5 → T6 → T7 → T8 → T9 → T10 → T11 → T12 → T13 → T14 → T15 → T16 → T17 → T18 → T19 → T20 → T21 → T22 → T23 → T24 → T25 → T26 → T27 → T28 → T29 → T30 → T31 → Option Z} : ob31 none f = none := rfl
theorem ob32_mk {T1 T2 T3 T4 T5 T6 T7 T8 T9 T10 T11 T12 T13 T14 T15 T16 T17 T18 T19 T20 T21 T22 T23 T24 T25 T26 T27 T28 T29 T30 T31 T32 Z : Type} {x1 : T1} {x2 : T2} {x3 : T3} {x4 : T4} {x5 : T5} {x6 : T6} {x7 : T7} {x8 : T8} {x9 : T9} {x10 : T10} {x11 : T11} {x12 : T12} {x13 : T13} {x14 : T14} {x15 : T15} {x16 : T16} {x17 : T17} {x18 : T18} {x19 : T19} {x20 : T20} {x21 : T21} {x22 : T22} {x23 : T23} {x24 : T24} {x25 : T25} {x26 : T26} {x27 : T27} {x28 : T28} {x29 : T29} {x30 : T30} {x31 : T31} {x32 : T32} {f : T1 → T2 → T3 → T4 → T5 → T6 → T7 → T8 → T9 → T10 → T11 → T12 → T13 → T14 → T15 → T16 → T17 → T18 → T19 → T20 → T21 → T22 → T23 → T24 → T25 → T26 → T27 → T28 → T29 → T30 → T31 → T32 → Option Z} : ob32 (some (x1, x2, x3, x4, x5, x6, x7, x8, x9, x10, x11, x12, x13, x14, x15, x16, x17, x18, x19, x20, x21, x22, x23, x24, x25, x26, x27, x28, x29, x30, x31, x32)) f = f x1 x2 x3 x4 x5 x6 x7 x8 x9 x10 x11 x12 x13 x14 x15 x16 x17 x18 x19 x20 x21 x22 x23 x24 x25 x26 x27 x28 x29 x30 x31 x32 := rfl
theorem ob32_no {T1 T2 T3 T4 T5 T6 T7 T8 T9 T10 T11 T12 T13 T14 T15 T16 T17 T18 T19 T20 T21 T22 T23 T24 T25 T26 T27 T28 T29 T30 T31 T32 Z : Type} {f : T1 → T2 → T3 → T4 → T5 → T6 → T7 → T8 → T9 → T10 → T11 → T12 → T13 → T14 → T15 → T16 → T17 → T18 → T19 → T20 → T21 → T22 → T23 → T24 → T25 → T26 → T27 → T28 → T29 → T30 → T31 → T32 → Option Z} : ob32 none f = none := rfl
theorem ob33_mk {T1 T2 T3 T4 T5 T6 T7 T8 T9 T10 T11 T12 T13 T14 T15 T16 T17 T18 T19 T20 T21 T22 T23 T24 T25 T26 T27 T28 T29 T30 T31 T32 T33 Z : Type} {x1 : T1} {x2 : T2} {x3 : T3} {x4 : T4} {x5 : T5} {x6 : T6} {x7 : T7} {x8 : T8} {x9 : T9} {x10 : T10} {x11 : T11} {x12 : T12} {x13 : T13} {x14 : T14} {x15 : T15} {x16 : T16} {x17 : T17} {x18 : T18} {x19 : T19} {x20 : T20} {x21 : T21} {x22 : T22} {x23 : T23} {x24 : T24} {x25 : T25} {x26 : T26} {x27 : T27} {x28 : T28} {x29 : T29} {x30 : T30} {x31 : T31} {x32 : T32} {x33 : T33} {f : T1 → T2 → T3 → T4 → T5 → T6 → T7 → T8 → T9 → T10 → T11 → T12 → T13 → T14 → T15 → T16 → T17 → T18 → T19 → T20 → T21 → T22 → T23 → T24 → T25 → T26 → T27 → T28 → T29 → T30 → T31 → T32 → T33 → Option Z} : ob33 (some (x1, x2, x3, x4, x5, x6, x7, x8, x9, x10, x11, x12, x13, x14, x15, x16, x17, x18, x19, x20, x21, x22, x23, x24, x25, x26, x27, x28, x29, x30, x31, x32, x33)) f = f x1 x2 x3 x4 x5 x6 x7 x8 x9 x10 x11 x12 x13 x14 x15 x16 x17 x18 x19 x20 x21 x22 x23 x24 x25 x26 x27 x28 x29 x30 x31 x32 x33 := rfl
theorem ob33_no {T1 T2 T3 T4 T5 T6 T7 T8 T9 T10 T11 T12 T13 T14 T15 T16 T17 T18 T19 T20 T21 T22 T23 T24 T25 T26 T27 T28 T29 T30 T31 T32 T33 Z : Type} {f : T1 → T2 → T3 → T4 → T5 → T6 → T7 → T8 → T9 → T10 → T11 → T12 → T13 → T14 → T15 → T16 → T17 → T18 → T19 → T20 → T21 → T22 → T23 → T24 → T25 → T26 → T27 → T28 → T29 → T30 → T31 → T32 → T33 → Option Z} : ob33 none f = none := rfl
theorem ob34_mk {T1 T2 T3 T4 T5 T6 T7 T8 T9 T10 T11 T12 T13 T14 T15 T16 T17 T18 T19 T20 T21 T22 T23 T24 T25 T26 T27 T28 T29 T30 T31 T32 T33 T34 Z : Type} {x1 : T1} {x2 : T2} {x3 : T3} {x4 : T4} {x5 : T5} {x6 : T6} {x7 : T7} {x8 : T8} {x9 : T9} {x10 : T10} {x11 : T11} {x12 : T12} {x13 : T13} {x14 : T14} {x15 : T15} {x16 : T16} {x17 : T17} {x18 : T18} {x19 : T19} {x20 : T20} {x21 : T21} {x22 : T22} {x23 : T23} {x24 : T24} {x25 : T25} {x26 : T26} {x27 : T27} {x28 : T28} {x29 : T29} {x30 : T30} {x31 : T31} {x32 : T32} {x33 : T33} {x34 : T34} {f : T1 → T2 → T3 → T4 → T5 → T6 → T7 → T8 → T9 → T10 → T11 → T12 → T13 → T14 → T15 → T16 → T17 → T18 → T19 → T20 → T21 → T22 → T23 → T24 → T25 → T26 → T27 → T28 → T29 → T30 → T31 → T32 → T33 → T34 → Option Z} : ob34 (some (x1, x2, x3, x4, x5, x6, x7, x8, x9, x10, x11, x12, x13, x14, x15, x16, x17, x18, x19, x20, x21, x22, x23, x24, x25, x26, x27, x28, x29, x30, x31, x32, x33, x34)) f = f x1 x2 x3 x4 x5 x6 x7 x8 x9 x10 x11 x12 x13 x14 x15 x16 x17 x18 x19 x20 x21 x22 x23 x24 x25 x26 x27 x28 x29 x30 x31 x32 x33 x34 := rfl
theorem ob34_no {T1 T2 T3 T4 T5 T6 T7 T8 T9 T10 T11 T12 T13 T14 T15 T16 T17 T18 T19 T20 T21 T22 T23 T24 T25 T26 T27 T28 T29 T30 T31 T32 T33 T34 Z : Type} {f : T1 → T2 → T3 → T4 → T5 → T6 → T7 → T8 → T9 → T10 → T11 → T12 → T13 → T14 → T15 → T16 → T17 → T18 → T19 → T20 → T21 → T22 → T23 → T24 → T25 → T26 → T27 → T28 → T29 → T30 → T31 → T32 → T33 → T34 → Option Z} : ob34 none f = none := rfl
theorem ob35_mk {T1 T2 T3 T4 T5 T6 T7 T8 T9 T10 T11 T12 T13 T14 T15 T16 T17 T18 T19 T20 T21 T22 T23 T24 T25 T26 T27 T28 T29 T30 T31 T32 T33 T34 T35 Z : Type} {x1 : T1} {x2 : T2} {x3 : T3} {x4 : T4} {x5 : T5} {x6 : T6} {x7 : T7} {x8 : T8} {x9 : T9} {x10 : T10} {x11 : T11} {x12 : T12} {x13 : T13} {x14 : T14} {x15 : T15} {x16 : T16} {x17 : T17} {x18 : T18} {x19 : T19} {x20 : T20} {x21 : T21} {x22 : T22} {x23 : T23} {x24 : T24} {x25 : T25} {x26 : T26} {x27 : T27} {x28 : T28} {x29 : T29} {x30 : T30} {x31 : T31} {x32 : T32} {x33 : T33} {x34 : T34} {x35 : T35} {f : T1 → T2 → T3 → T4 → T5 → T6 → T7 → T8 → T9 → T10 → T11 → T12 → T13 → T14 → T15 → T16 → T17 → T18 → T19 → T20 → T21 → T22 → T23 → T24 → T25 → T26 → T27 → T28 → T29 → T30 → T31 → T32 → T33 → T34 → T35 → Option Z} : ob35 (some (x1, x2, x3, x4, x5, x6, x7, x8, x9, x10, x11, x12, x13, x14, x15, x16, x17, x18, x19, x20, x21, x22, x23, x24, x25, x26, x27, x28, x29, x30, x31, x32, x33, x34, x35)) f = f x1 x2 x3 x4 x5 x6 x7 x8 x9 x10 x11 x12 x13 x14 x15 x16 x17 x18 x19 x20 x21 x22 x23 x24 x25 x26 x27 x28 x29 x30 x31 x32 x33 x34 x35 := rfl
theorem ob35_no {T1 T2 T3 T4 T5 T6 T7 T8 T9 T10 T11 T12 T13 T14 T15 T16 T17 T18 T19 T20 T21 T22 T23 T24 T25 T26 T27 T28 T29 T30 T31 T32 T33 T34 T35 Z : Type} {f : T1 → T2 → T3 → T4 → T5 → T6 → T7 → T8 → T9 → T10 → T11 → T12 → T13 → T14 → T15 → T16 → T17 → T18 → T19 → T20 → T21 → T22 → T23 → T24 → T25 → T26 → T27 → T28 → T29 → T30 → T31 → T32 → T33 → T34 → T35 → Option Z} : ob35 none f = none := rfl
theorem ob36_mk {T1 T2 T3 T4 T5 T6 T7 T8 T9 T10 T11 T12 T13 T14 T15 T16 T17 T18 T19 T20 T21 T22 T23 T24 T25 T26 T27 T28 T29 T30 T31 T32 T33 T34 T35 T36 Z : Type} {x1 : T1} {x2 : T2} {x3 : T3} {x4 : T4} {x5 : T5} {x6 : T6} {x7 : T7} {x8 : T8} {x9 : T9} {x10 : T10} {x11 : T11} {x12 : T12} {x13 : T13} {x14 : T14} {x15 : T15} {x16 : T16} {x17 : T17} {x18 : T18} {x19 : T19} {x20 : T20} {x21 : T21} {x22 : T22} {x23 : T23} {x24 : T24} {x25 : T25} {x26 : T26} {x27 : T27} {x28 : T28} {x29 : T29} {x30 : T30} {x31 : T31} {x32 : T32} {x33 : T33} {x34 : T34} {x35 : T35} {x36 : T36} {f : T1 → T2 → T3 → T4 → T5 → T6 → T7 → T8 → T9 → T10 → T11 → T12 → T13 → T14 → T15 → T16 → T17 → T18 → T19 → T20 → T21 → T22 → T23 → T24 → T25 → T26 → T27 → T28 → T29 → T30 → T31 → T32 → T33 → T34 → T35 → T36 → Option Z} : ob36 (some (x1, x2, x3, x4, x5, x6, x7, x8, x9, x10, x11, x12, x13, x14, x15, x16, x17, x18, x19, x20, x21, x22, x23, x24, x25, x26, x27, x28, x29, x30, x31, x32, x33, x34, x35, x36)) f = f x1 x2 x3 x4 x5 x6 x7 x8 x9 x10 x11 x12 x13 x14 x15 x16 x17 x18 x19 x20 x21 x22 x23 x24 x25 x26 x27 x28 x29 x30 x31 x32 x33 x34 x35 x36 := rfl
theorem ob36_no {T1 T2 T3 T4 T5 T6 T7 T8 T9 T10 T11 T12 T13 T14 T15 T16 T17 T18 T19 T20 T21 T22 T23 T24 T25 T26 T27 T28 T29 T30 T31 T32 T33 T34 T35 T36 Z : Type} {f : T1 → T2 → T3 → T4 → T5 → T6 → T7 → T8 → T9 → T10 → T11 → T12 → T13 → T14 → T15 → T16 → T17 → T18 → T19 → T20 → T21 → T22 → T23 → T24 → T25 → T26 → T27 → T28 → T29 → T30 → T31 → T32 → T33 → T34 → T35 → T36 → Option Z} : ob36 none f = none := rfl
theorem ob37_mk {T1 T2 T3 T4 T5 T6 T7 T8 T9 T10 T11 T12 T13 T14 T15 T16 T17 T18 T19 T20 T21 T22 T23 T24 T25 T26 T27 T28 T29 T30 T31 T32 T33 T34 T35 T36 T37 Z : Type} {x1 : T1} {x2 : T2} {x3 : T3} {x4 : T4} {x5 : T5} {x6 : T6} {x7 : T7} {x8 : T8} {x9 : T9} {x10 : T10} {x11 : T11} {x12 : T12} {x13 : T13} {x14 : T14} {x15 : T15} {x16 : T16} {x17 : T17} {x18 : T18} {x19 : T19} {x20 : T20} {x21 : T21} {x22 : T22} {x23 : T23} {x24 : T24} {x25 : T25} {x26 : T26} {x27 : T27} {x28 : T28} {x29 : T29} {x30 : T30} {x31 : T31} {x32 : T32} {x33 : T33} {x34 : T34} {x35 : T35} {x36 : T36} {x37 : T37} {f : T1 → T2 → T3 → T4 → T5 → T6 → T7 → T8 → T9 → T10 → T11 → T12 → T13 → T14 → T15 → T16 → T17 → T18 → T19 → T20 → T21 → T22 → T23 → T24 → T25 → T26 → T27 → T28 → T29 → T30 → T31 → T32 → T33 → T34 → T35 → T36 → T37 → Option Z} : ob37 (some (x1, x2, x3, x4, x5, x6, x7, x8, x9, x10, x11, x12, x13, x14, x15, x16, x17, x18, x19, x20, x21, x22, x23, x24, x25, x26, x27, x28, x29, x30, x31, x32, x33, x34, x35, x36, x37)) f = f x1 x2 x3 x4 x5 x6 x7 x8 x9 x10 x11 x12 x13 x14 x15 x16 x17 x18 x19 x20 x21 x22 x23 x24 x25 x26 x27 x28 x29 x30 x31 x32 x33 x34 x35 x36 x37 := rfl
theorem ob37_no {T1 T2 T3 T4 T5 T6 T7 T8 T9 T10 T11 T12 T13 T14 T15 T16 T17 T18 T19 T20 T21 T22 T23 T24 T25 T26 T27 T28 T29 T30 T31 T32 T33 T34 T35 T36 T37 Z : Type} {f : T1 → T2 → T3 → T4 → T5 → T6 → T7 → T8 → T9 → T10 → T11 → T12 → T13 → T14 → T15 → T16 → T17 → T18 → T19 → T20 → T21 → T22 → T23 → T24 → T25 → T26 → T27 → T28 → T29 → T30 → T31 → T32 → T33 → T34 → T35 → T36 → T37 → Option Z} : ob37 none f = none := rfl
theorem ob38_mk {T1 T2 T3 T4 T5 T6 T7 T8 T9 T10 T11 T12 T13 T14 T15 T16 T17 T18 T19 T20 T21 T22 T23 T24 T25 T26 T27 T28 T29 T30 T31 T32 T33 T34 T35 T36 T37 T38 Z : Type} {x1 : T1} {x2 : T2} {x3 : T3} {x4 : T4} {x5 : T5} {x6 : T6} {x7 : T7} {x8 : T8} {x9 : T9} {x10 : T10} {x11 : T11} {x12 : T12} {x13 : T13} {x14 : T14} {x15 : T15} {x16 : T16} {x17 : T17} {x18 : T18} {x19 : T19} {x20 : T20} {x21 : T21} {x22 : T22} {x23 : T23} {x24 : T24} {x25 : T25} {x26 : T26} {x27 : T27} {x28 : T28} {x29 : T29} {x30 : T30} {x31 : T31} {x32 : T32} {x33 : T33} {x34 : T34} {x35 : T35} {x36 : T36} {x37 : T37} {x38 : T38} {f : T1 → T2 → T3 → T4 → T5 → T6 → T7 → T8 → T9 → T10 → T11 → T12 → T13 → T14 → T15 → T16 → T17 → T18 → T19 → T20 → T21 → T22 → T23 → T24 → T25 → T26 → T27 → T28 → T29 → T30 → T31 → T32 → T33 → T34 → T35 → T36 → T37 → T38 → Option Z} : ob38 (some (x1, x2, x3, x4, x5, x6, x7, x8, x9, x10, x11, x12, x13, x14, x15, x16, x17, x18, x19, x20, x21, x22, x23, x24, x25, x26, x27, x28, x29, x30, x31, x32, x33, x34, x35, x36, x37, x38)) f = f x1 x2 x3 x4 x5 x6 x7 x8 x9 x10 x11 x12 x13 x14 x15 x16 x17 x18 x19 x20 x21 x22 x23 x24 x25 x26 x27 x28 x29 x30 x31 x32 x33 x34 x35 x36 x37 x38 := rfl
theorem ob38_no {T1 T2 T3 T4 T5 T6 T7 T8 T9 T10 T11 T12 T13 T14 T15 T16 T17 T18 T19 T20 T21 T22 T23 T24 T25 T26 T27 T28 T29 T30 T31 T32 T33 T34 T35 T36 T37 T38 Z : Type} {f : T1 → T2 → T3 → T4 → T5 → T6 → T7 → T8 → T9 → T10 → T11 → T12 → T13 → T14 → T15 → T16 → T17 → T18 → T19 → T20 → T21 → T22 → T23 → T24 → T25 → T26 → T27 → T28 → T29 → T30 → T31 → T32 → T33 → T34 → T35 → T36 → T37 → T38 → Option Z} : ob38 none f = none := rfl
theorem ob39_mk {T1 T2 T3 T4 T5 T6 T7 T8 T9 T10 T11 T12 T13 T14 T15 T16 T17 T18 T19 T20 T21 T22 T23 T24 T25 T26 T27 T28 T29 T30 T31 T32 T33 T34 T35 T36 T37 T38 T39 Z : Type} {x1 : T1} {x2 : T2} {x3 : T3} {x4 : T4} {x5 : T5} {x6 : T6} {x7 : T7} {x8 : T8} {x9 : T9} {x10 : T10} {x11 : T11} {x12 : T12} {x13 : T13} {x14 : T14} {x15 : T15} {x16 : T16} {x17 : T17} {x18 : T18} {x19 : T19} {x20 : T20} {x21 : T21} {x22 : T22} {x23 : T23} {x24 : T24} {x25 : T25} {x26 : T26} {x27 : T27} {x28 : T28} {x29 : T29} {x30 : T30} {x31 : T31} {x32 : T32} {x33 : T33} {x34 : T34} {x35 : T35} {x36 : T36} {x37 : T37} {x38 : T38} {x39 : T39} {f : T1 → T2 → T3 → T4 → T5 → T6 → T7 → T8 → T9 → T10 → T11 → T12 → T13 → T14 → T15 → T16 → T17 → T18 → T19 → T20 → T21 → T22 → T23 → T24 → T25 → T26 → T27 → T28 → T29 → T30 → T31 → T32 → T33 → T34 → T35 → T36 → T37 → T38 → T39 → Option Z} : ob39 (some (x1, x2, x3, x4, x5, x6, x7, x8, x9, x10, x11, x12, x13, x14, x15, x16, x17, x18, x19, x20, x21, x22, x23, x24, x25, x26, x27, x28, x29, x30, x31, x32, x33, x34, x35, x36, x37, x38, x39)) f = f x1 x2 x3 x4 x5 x6 x7 x8 x9 x10 x11 x12 x13 x14 x15 x16 x17 x18 x19 x20 x21 x22 x23 x24 x25 x26 x27 x28 x29 x30 x31 x32 x33 x34 x35 x36 x37 x38 x39 := rfl
theorem ob39_no {T1 T2 T3 T4 T5 T6 T7 T8 T9 T10 T11 T12 T13 T14 T15 T16 T17 T18 T19 T20 T21 T22 T23 T24 T25 T26 T27 T28 T29 T30 T31 T32 T33 T34 T35 T36 T37 T38 T39 Z : Type} {f : T1 → T2 → T3 → T4 → T5 → T6 → T7 → T8 → T9 → T10 → T11 → T12 → T13 → T14 → T15 → T16 → T17 → T18 → T19 → T20 → T21 → T22 → T23 → T24 → T25 → T26 → T27 → T28 → T29 → T30 → T31 → T32 → T33 → T34 → T35 → T36 → T37 → T38 → T39 → Option Z} : ob39 none f = none := rfl
theorem ob40_mk {T1 T2 T3 T4 T5 T6 T7 T8 T9 T10 T11 T12 T13 T14 T15 T16 T17 T18 T19 T20 T21 T22 T23 T24 T25 T26 T27 T28 T29 T30 T31 T32 T33 T34 T35 T36 T37 T38 T39 T40 Z : Type} {x1 : T1} {x2 : T2} {x3 : T3} {x4 : T4} {x5 : T5} {x6 : T6} {x7 : T7} {x8 : T8} {x9 : T9} {x10 : T10} {x11 : T11} {x12 : T12} {x13 : T13} {x14 : T14} {x15 : T15} {x16 : T16} {x17 : T17} {x18 : T18} {x19 : T19} {x20 : T20} {x21 : T21} {x22 : T22} {x23 : T23} {x24 : T24} {x25 : T25} {x26 : T26} {x27 : T27} {x28 : T28} {x29 : T29} {x30 : T30} {x31 : T31} {x32 : T32} {x33 : T33} {x34 : T34} {x35 : T35} {x36 : T36} {x37 : T37} {x38 : T38} {x39 : T39} {x40 : T40} {f : T1 → T2 → T3 → T4 → T5 → T6 → T7 → T8 → T9 → T10 → T11 → T12 → T13 → T14 → T15 → T16 → T17 → T18 → T19 → T20 → T21 → T22 → T23 → T24 → T25 → T26 → T27 → T28 → T29 → T30 → T31 → T32 → T33 → T34 → T35 → T36 → T37 → T38 → T39 → T40 → Option Z} : ob40 (some (x1, x2, x3, x4, x5, x6, x7, x8, x9, x10, x11, x12, x13, x14, x15, x16, x17, x18, x19, x20, x21, x22, x23, x24, x25, x26, x27, x28, x29, x30, x31, x32, x33, x34, x35, x36, x37, x38, x39, x40)) f = f x1 x2 x3 x4 x5 x6 x7 x8 x9 x10 x11 x12 x13 x14 x15 x16 x17 x18 x19 x20 x21 x22 x23 x24 x25 x26 x27 x28 x29 x30 x31 x32 x33 x34 x35 x36 x37 x38 x39 x40 := rfl
theorem ob40_no {T1 T2 T3 T4 T5 T6 T7 T8 T9 T10 T11 T12 T13 T14 T15 T16 T17 T18 T19 T20 T21 T22 T23 T24 T25 T26 T27 T28 T29 T30 T31 T32 T33 T34 T35 T36 T37 T38 T39 T40 Z : Type} {f : T1 → T2 → T3 → T4 → T5 → T6 → T7 → T8 → T9 → T10 → T11 → T12 → T13 → T14 → T15 → T16 → T17 → T18 → T19 → T20 → T21 → T22 → T23 → T24 → T25 → T26 → T27 → T28 → T29 → T30 → T31 → T32 → T33 → T34 → T35 → T36 → T37 → T38 → T39 → T40 → Option Z} : ob40 none f = none := rfl

set_option maxHeartbeats 4000000 in
set_option maxRecDepth 100000 in
theorem c_MO_classOf (l : Launch) (D : va_G) (cB cI : ClassId) (p0 : Int32) : Met l y_MO_classOf mw_MO_classOf { frames := 0, cells := 0, slots := 0, locals := 0 } (va_Pc [.int p0] (fun U => va_P D vwCl [] U.heap ∧ hk_ D cB cI U)) (vp_Si (fun r => r = tw_MO_classOf p0)) 0 0 (fun _ => False) := by
  refine Met.ofW (cc := b_MO_classOf) (maxL := 1) (ret := (some .int)) (by decide) rfl ?_
  intro p e s m args below meth c s₁ B0 hml hv
  obtain ⟨rfl, hP, hk⟩ := hv
  have hK := hk.1
  have hN := hk.2.1
  have hx := B0.exec
  have hb := B0.bytes
  have hr := B0.returns
  have hT : ∀ w ∈ lw_g, w.before _ s = true := fun w h => atoms_spec (ws := mw_MO_classOf) B0.pre w (List.mem_cons_of_mem _ h)
  have hown : s.vm.findClass R_MO = some m.cls := findClass_of_methodNamed B0.named
  have hlocks := B0.notSynchronized
  have hl := lv_entry ([.int p0]) (n := 1) (Nat.le_of_ble_eq_true rfl)
  rw [lg_entry_eq]
  generalize (lg_sl ([.int p0]) ++ List.replicate (1 - (lg_sl ([.int p0])).length) Slot.unset).toArray = ls at hl ⊢
  have hl : lv_has ls 1 [(0, .int p0)] := hl
  refine lv_iload_n hx hb d_MO_classOf_0 rfl (lv_at hl 0 rfl) ?_
  by_cases c_1 : p0 = 2
  · refine sw_T (tgt := 88) hx hb d_MO_classOf_1 (Or.inr ⟨by rw [c_1]; decide, by rw [c_1]; decide, 87, by rw [c_1]; rfl, by decide⟩) ?_
    refine lv_iconst (v := 3) hx hb d_MO_classOf_88 (by decide) ?_
    exact W.iret (v := 3) hx hb hr (fun t ht hW => ⟨3, rfl, (by rw [tw_MO_classOf, if_pos c_1]; first | done | rfl), ht⟩) (fun _ h => by cases h) d_MO_classOf_89
  by_cases c_2 : p0 = 3
  · refine sw_T (tgt := 90) hx hb d_MO_classOf_1 (Or.inr ⟨by rw [c_2]; decide, by rw [c_2]; decide, 89, by rw [c_2]; rfl, by decide⟩) ?_
    refine lv_iconst (v := 4) hx hb d_MO_classOf_90 (by decide) ?_
    exact W.iret (v := 4) hx hb hr (fun t ht hW => ⟨4, rfl, (by rw [tw_MO_classOf, if_neg c_1, if_pos c_2]; first | done | rfl), ht⟩) (fun _ h => by cases h) d_MO_classOf_91
  by_cases c_3 : p0 = 4
  · refine sw_T (tgt := 92) hx hb d_MO_classOf_1 (Or.inr ⟨by rw [c_3]; decide, by rw [c_3]; decide, 91, by rw [c_3]; rfl, by decide⟩) ?_
    refine lv_iconst (v := 5) hx hb d_MO_classOf_92 (by decide) ?_
    exact W.iret (v := 5) hx hb hr (fun t ht hW => ⟨5, rfl, (by rw [tw_MO_classOf, if_neg c_1, if_neg c_2, if_pos c_3]; first | done | rfl), ht⟩) (fun _ h => by cases h) d_MO_classOf_93
  by_cases c_4 : p0 = 8
  · refine sw_T (tgt := 94) hx hb d_MO_classOf_1 (Or.inr ⟨by rw [c_4]; decide, by rw [c_4]; decide, 93, by rw [c_4]; rfl, by decide⟩) ?_
    refine lv_bipush (v := 6) hx hb d_MO_classOf_94 (by decide) ?_
    exact W.iret (v := 6) hx hb hr (fun t ht hW => ⟨6, rfl, (by rw [tw_MO_classOf, if_neg c_1, if_neg c_2, if_neg c_3, if_pos c_4]; first | done | rfl), ht⟩) (fun _ h => by cases h) d_MO_classOf_96
  by_cases c_5 : p0 = 10
  · refine sw_T (tgt := 84) hx hb d_MO_classOf_1 (Or.inr ⟨by rw [c_5]; decide, by rw [c_5]; decide, 83, by rw [c_5]; rfl, by decide⟩) ?_
    refine lv_iconst (v := 1) hx hb d_MO_classOf_84 (by decide) ?_
    exact W.iret (v := 1) hx hb hr (fun t ht hW => ⟨1, rfl, (by rw [tw_MO_classOf, if_neg c_1, if_neg c_2, if_neg c_3, if_neg c_4, if_pos c_5]; first | done | rfl), ht⟩) (fun _ h => by cases h) d_MO_classOf_85
  by_cases c_6 : p0 = 16
  · refine sw_T (tgt := 86) hx hb d_MO_classOf_1 (Or.inr ⟨by rw [c_6]; decide, by rw [c_6]; decide, 85, by rw [c_6]; rfl, by decide⟩) ?_
    refine lv_iconst (v := 2) hx hb d_MO_classOf_86 (by decide) ?_
    exact W.iret (v := 2) hx hb hr (fun t ht hW => ⟨2, rfl, (by rw [tw_MO_classOf, if_neg c_1, if_neg c_2, if_neg c_3, if_neg c_4, if_neg c_5, if_pos c_6]; first | done | rfl), ht⟩) (fun _ h => by cases h) d_MO_classOf_87
  by_cases c_7 : p0 = 18
  · refine sw_T (tgt := 86) hx hb d_MO_classOf_1 (Or.inr ⟨by rw [c_7]; decide, by rw [c_7]; decide, 85, by rw [c_7]; rfl, by decide⟩) ?_
    refine lv_iconst (v := 2) hx hb d_MO_classOf_86 (by decide) ?_
    exact W.iret (v := 2) hx hb hr (fun t ht hW => ⟨2, rfl, (by rw [tw_MO_classOf, if_neg c_1, if_neg c_2, if_neg c_3, if_neg c_4, if_neg c_5, if_neg c_6, if_pos c_7]; first | done | rfl), ht⟩) (fun _ h => by cases h) d_MO_classOf_87
  have h_c_1 := lv_neT c_1 (show (2 : Int32).toInt = 2 from rfl)
  have h_c_2 := lv_neT c_2 (show (3 : Int32).toInt = 3 from rfl)
  have h_c_3 := lv_neT c_3 (show (4 : Int32).toInt = 4 from rfl)
  have h_c_4 := lv_neT c_4 (show (8 : Int32).toInt = 8 from rfl)
  have h_c_5 := lv_neT c_5 (show (10 : Int32).toInt = 10 from rfl)
  have h_c_6 := lv_neT c_6 (show (16 : Int32).toInt = 16 from rfl)
  have h_c_7 := lv_neT c_7 (show (18 : Int32).toInt = 18 from rfl)
  refine sw_T (tgt := 97) hx hb d_MO_classOf_1 (by
    rcases Int.lt_or_le p0.toInt 2 with q | q
    · exact Or.inl ⟨Or.inl q, by decide⟩
    · rcases Int.lt_or_le 18 p0.toInt with q2 | q2
      · exact Or.inl ⟨Or.inr q2, by decide⟩
      · refine Or.inr ⟨by omega, by omega, ?_⟩
        have q3 : p0.toInt = 5 ∨ p0.toInt = 6 ∨ p0.toInt = 7 ∨ p0.toInt = 9 ∨ p0.toInt = 11 ∨ p0.toInt = 12 ∨ p0.toInt = 13 ∨ p0.toInt = 14 ∨ p0.toInt = 15 ∨ p0.toInt = 17 := by omega
        rcases q3 with q3 | q3 | q3 | q3 | q3 | q3 | q3 | q3 | q3 | q3 <;> (rw [q3]; exact ⟨_, rfl, by decide⟩)) ?_
  refine lv_iconst (v := 0) hx hb d_MO_classOf_97 (by decide) ?_
  exact W.iret (v := 0) hx hb hr (fun t ht hW => ⟨0, rfl, (by rw [tw_MO_classOf, if_neg c_1, if_neg c_2, if_neg c_3, if_neg c_4, if_neg c_5, if_neg c_6, if_neg c_7]; first | done | rfl), ht⟩) (fun _ h => by cases h) d_MO_classOf_98
set_option maxHeartbeats 4000000 in
set_option maxRecDepth 100000 in
theorem c_MO_whole (l : Launch) (D : va_G) (cB cI : ClassId) (aM aMst aMdcs aMtot aMfrm aMsiz aMffr aMfsz aMlkd aMlat aMkkd aMkat aModr aMgrp aMikd aMiat : Nat) (fu : Nat) (thr : Int32) (tpd : Int32) (frs : Int32) (frt : Int32) (top : Int32) (bgn : Int32) (mst : Int32) (ovr : Bool) (tgr : Bool) (lvs : Int32) (its : Int32) (hgh : Int64) (loo : Int64) (dfl : Bool) (st : Nat → Int32) (p0 : Int32) (V0 : Int32) (hs : tw_MO_whole fu st p0 = some V0) : Met l y_MO_whole mw_MO_whole { frames := 0, cells := 0, slots := 0, locals := 0 } (va_Pc [.ref aM, .int p0] (fun U => va_P D vwCl [(aM, .inr (11, [.int thr, .ref aMst, .int tpd, .ref aMdcs, .ref aMtot, .ref aMfrm, .ref aMsiz, .int frs, .int frt, .ref aMffr, .ref aMfsz, .int top, .int bgn, .int mst, .int (b2i ovr), .int (b2i tgr), .int lvs, .ref aMlkd, .ref aMlat, .ref aMkkd, .ref aMkat, .ref aModr, .ref aMgrp, .int its, .ref aMikd, .ref aMiat, .long hgh, .long loo, .int (b2i dfl)])), (aMst, .inl (cI, 136400, .inl st))] U.heap ∧ hk_ D cB cI U)) (vp_Si (fun r => r = V0)) 0 0 (fun _ => False) := by
  refine Met.ofW (cc := b_MO_whole) (maxL := 2) (ret := (some .int)) (by decide) rfl ?_
  intro p e s m args below meth c s₁ B0 hml hv
  obtain ⟨rfl, hP, hk⟩ := hv
  have hK := hk.1
  have hN := hk.2.1
  have hx := B0.exec
  have hb := B0.bytes
  have hr := B0.returns
  have hT : ∀ w ∈ lw_g, w.before _ s = true := fun w h => atoms_spec (ws := mw_MO_whole) B0.pre w (List.mem_cons_of_mem _ h)
  have hown : s.vm.findClass R_MO = some m.cls := findClass_of_methodNamed B0.named
  have hlocks := B0.notSynchronized
  have hl := lv_entry ([.ref aM, .int p0]) (n := 2) (Nat.le_of_ble_eq_true rfl)
  rw [lg_entry_eq]
  generalize (lg_sl ([.ref aM, .int p0]) ++ List.replicate (2 - (lg_sl ([.ref aM, .int p0])).length) Slot.unset).toArray = ls at hl ⊢
  have hl : lv_has ls 2 [(0, .ref aM), (1, .int p0)] := hl
  refine lv_aload_n hx hb d_MO_whole_0 rfl (lv_at hl 0 rfl) ?_
  refine va_get (D := D) (ci := 11) (v := .ref aMst) (C := R_MO) (T := T_MO) (N := 29) hx hb hT u_MO hown hK hP 0 rfl rfl 1 (by decide) (hT _ k_1044) (fun _ h9 => h9) rfl d_MO_whole_1 ?_
  refine lv_iload_n hx hb d_MO_whole_4 rfl (lv_at hl 1 rfl) ?_
  by_cases c_1 : 0 ≤ p0 ∧ p0 < 136400
  rotate_left
  · exact op_no hs (by rw [tw_MO_whole, if_neg c_1])
  refine va_iald hx hb hK hP 1 1 rfl rfl (in_pp c_1.1 c_1.2 rfl) d_MO_whole_5 ?_
  refine lv_sipush (v := 256) hx hb d_MO_whole_6 (by decide) ?_
  refine lv_aload_n hx hb d_MO_whole_9 rfl (lv_at hl 0 rfl) ?_
  refine va_get (D := D) (ci := 11) (v := .ref aMst) (C := R_MO) (T := T_MO) (N := 29) hx hb hT u_MO hown hK hP 0 rfl rfl 1 (by decide) (hT _ k_1044) (fun _ h9 => h9) rfl d_MO_whole_10 ?_
  refine lv_iload_n hx hb d_MO_whole_13 rfl (lv_at hl 1 rfl) ?_
  refine lv_iconst (v := 1) hx hb d_MO_whole_14 (by decide) ?_
  refine lv_iadd hx hb d_MO_whole_15 ?_
  by_cases c_2 : 0 ≤ (p0 + 1) ∧ (p0 + 1) < 136400
  rotate_left
  · exact op_no hs (by rw [tw_MO_whole, if_pos c_1, if_neg c_2])
  refine va_iald hx hb hK hP 1 1 rfl rfl (in_pp c_2.1 c_2.2 rfl) d_MO_whole_16 ?_
  refine lv_imul hx hb d_MO_whole_17 ?_
  refine lv_iadd hx hb d_MO_whole_18 ?_
  refine lv_ldc (v := 65536) hx hb hown (hT _ k_1152) d_MO_whole_19 ?_
  refine lv_aload_n hx hb d_MO_whole_21 rfl (lv_at hl 0 rfl) ?_
  refine va_get (D := D) (ci := 11) (v := .ref aMst) (C := R_MO) (T := T_MO) (N := 29) hx hb hT u_MO hown hK hP 0 rfl rfl 1 (by decide) (hT _ k_1044) (fun _ h9 => h9) rfl d_MO_whole_22 ?_
  refine lv_iload_n hx hb d_MO_whole_25 rfl (lv_at hl 1 rfl) ?_
  refine lv_iconst (v := 2) hx hb d_MO_whole_26 (by decide) ?_
  refine lv_iadd hx hb d_MO_whole_27 ?_
  by_cases c_3 : 0 ≤ (p0 + 2) ∧ (p0 + 2) < 136400
  rotate_left
  · exact op_no hs (by rw [tw_MO_whole, if_pos c_1, if_pos c_2, if_neg c_3])
  refine va_iald hx hb hK hP 1 1 rfl rfl (in_pp c_3.1 c_3.2 rfl) d_MO_whole_28 ?_
  refine lv_imul hx hb d_MO_whole_29 ?_
  refine lv_iadd hx hb d_MO_whole_30 ?_
  refine lv_ldc (v := 16777216) hx hb hown (hT _ k_1153) d_MO_whole_31 ?_
  refine lv_aload_n hx hb d_MO_whole_33 rfl (lv_at hl 0 rfl) ?_
  refine va_get (D := D) (ci := 11) (v := .ref aMst) (C := R_MO) (T := T_MO) (N := 29) hx hb hT u_MO hown hK hP 0 rfl rfl 1 (by decide) (hT _ k_1044) (fun _ h9 => h9) rfl d_MO_whole_34 ?_
  refine lv_iload_n hx hb d_MO_whole_37 rfl (lv_at hl 1 rfl) ?_
  refine lv_iconst (v := 3) hx hb d_MO_whole_38 (by decide) ?_
  refine lv_iadd hx hb d_MO_whole_39 ?_
  by_cases c_4 : 0 ≤ (p0 + 3) ∧ (p0 + 3) < 136400
  rotate_left
  · exact op_no hs (by rw [tw_MO_whole, if_pos c_1, if_pos c_2, if_pos c_3, if_neg c_4])
  refine va_iald hx hb hK hP 1 1 rfl rfl (in_pp c_4.1 c_4.2 rfl) d_MO_whole_40 ?_
  refine lv_imul hx hb d_MO_whole_41 ?_
  refine lv_iadd hx hb d_MO_whole_42 ?_
  exact W.iret (v := (((st p0.toNatClampNeg) + (256 * (st (p0 + 1).toNatClampNeg))) + (65536 * (st (p0 + 2).toNatClampNeg))) + (16777216 * (st (p0 + 3).toNatClampNeg))) hx hb hr (fun t ht hW => ⟨(((st p0.toNatClampNeg) + (256 * (st (p0 + 1).toNatClampNeg))) + (65536 * (st (p0 + 2).toNatClampNeg))) + (16777216 * (st (p0 + 3).toNatClampNeg)), rfl, (op_eq hs (by rw [tw_MO_whole, if_pos c_1, if_pos c_2, if_pos c_3, if_pos c_4])), ht⟩) (fun _ h => by cases h) d_MO_whole_43
set_option maxHeartbeats 4000000 in
set_option maxRecDepth 100000 in
theorem l_MO_nameEndOf_h4 {p : Program} {e : Env} {s : State} {m : MethodId} {args : Array Value} {below : List Frame} {meth : Method} {c : Code} {V : Option (Int32)} {V0 : Int32} (C0 : lc_C p s m meth c args b_MO_nameEndOf 3 (some .int) R_MO lw_g) (hs : V = some V0) (l : Launch) (D : va_G) (cB cI : ClassId) (aM aMst aMdcs aMtot aMfrm aMsiz aMffr aMfsz aMlkd aMlat aMkkd aMkat aModr aMgrp aMikd aMiat : Nat) (fu : Nat) (thr : Int32) (tpd : Int32) (frs : Int32) (frt : Int32) (top : Int32) (bgn : Int32) (mst : Int32) (ovr : Bool) (tgr : Bool) (lvs : Int32) (its : Int32) (hgh : Int64) (loo : Int64) (dfl : Bool) (st : Nat → Int32) (hP : va_P D vwCl [(aM, .inr (11, [.int thr, .ref aMst, .int tpd, .ref aMdcs, .ref aMtot, .ref aMfrm, .ref aMsiz, .int frs, .int frt, .ref aMffr, .ref aMfsz, .int top, .int bgn, .int mst, .int (b2i ovr), .int (b2i tgr), .int lvs, .ref aMlkd, .ref aMlat, .ref aMkkd, .ref aMkat, .ref aModr, .ref aMgrp, .int its, .ref aMikd, .ref aMiat, .long hgh, .long loo, .int (b2i dfl)])), (aMst, .inl (cI, 136400, .inl st))] s.heap) (hk : hk_ D cB cI s)  {K : Int32 → Option (Int32)} (hKx : ∀ (x2 : Int32), V = K x2 → ∀ ls : Array Slot, lv_has ls 3 [(2, .int x2)] → W p l e ({ frames := 0, cells := 0, slots := 0, locals := 0 }) s m args below meth c s.heap [] 0 0 (MQ below (vp_Si (fun r => r = V0)) args s 0 0 (fun _ => False)) (F0 m 19 ls [])) : ∀ (n : Nat) (x2 : Int32), V = tw_MO_nameEndOf_h4 fu K st n x2 → ∀ ls : Array Slot, lv_has ls 3 [(0, .ref aM), (2, .int x2)] → W p l e ({ frames := 0, cells := 0, slots := 0, locals := 0 }) s m args below meth c s.heap [] 0 0 (MQ below (vp_Si (fun r => r = V0)) args s 0 0 (fun _ => False)) (F0 m 4 ls []) := by
  obtain ⟨hx, hb, hml, hr, hown, hlocks, hT⟩ := id C0
  have hK := hk.1
  have hN := hk.2.1
  intro n
  induction n with
  | zero =>
    intro x2 hV
    exact op_no hs (hV.trans rfl)
  | succ n ih =>
    intro x2 hV ls hl
    refine lv_aload_n hx hb d_MO_nameEndOf_4 rfl (lv_at hl 0 rfl) ?_
    refine va_get (D := D) (ci := 11) (v := .ref aMst) (C := R_MO) (T := T_MO) (N := 29) hx hb hT u_MO hown hK hP 0 rfl rfl 1 (by decide) (hT _ k_1044) (fun _ h9 => h9) rfl d_MO_nameEndOf_5 ?_
    refine lv_iload_n hx hb d_MO_nameEndOf_8 rfl (lv_at hl 1 rfl) ?_
    by_cases c_1 : 0 ≤ x2 ∧ x2 < 136400
    rotate_left
    · exact op_no hs (by rw [hV, tw_MO_nameEndOf_h4, if_neg c_1])
    refine va_iald hx hb hK hP 1 1 rfl rfl (in_pp c_1.1 c_1.2 rfl) d_MO_nameEndOf_9 ?_
    refine lv_if_eq (tgt := 19) hx hb d_MO_nameEndOf_10 (by decide) (fun c_2 => ?_) (fun c_2 => ?_)
    · exact hKx x2 (by rw [hV, tw_MO_nameEndOf_h4, if_pos c_1, if_pos c_2]) ls (lv_sub hl [1] rfl)
    · refine lv_iinc (v := x2 + 1) (lv' := [(2, .int (x2 + 1)), (0, .ref aM)]) hx hb d_MO_nameEndOf_13 hl (k := 1) rfl rfl (by decide) rfl (fun ls hl => ?_)
      refine lv_goto (tgt := 4) hx hb d_MO_nameEndOf_16 (by decide) ?_
      exact ih (x2 + 1) (by rw [hV, tw_MO_nameEndOf_h4, if_pos c_1, if_neg c_2]) ls (lv_sub hl [1, 0] rfl)
set_option maxHeartbeats 4000000 in
set_option maxRecDepth 100000 in
theorem c_MO_nameEndOf (l : Launch) (D : va_G) (cB cI : ClassId) (aM aMst aMdcs aMtot aMfrm aMsiz aMffr aMfsz aMlkd aMlat aMkkd aMkat aModr aMgrp aMikd aMiat : Nat) (fu : Nat) (thr : Int32) (tpd : Int32) (frs : Int32) (frt : Int32) (top : Int32) (bgn : Int32) (mst : Int32) (ovr : Bool) (tgr : Bool) (lvs : Int32) (its : Int32) (hgh : Int64) (loo : Int64) (dfl : Bool) (st : Nat → Int32) (p0 : Int32) (V0 : Int32) (hs : tw_MO_nameEndOf fu st p0 = some V0) : Met l y_MO_nameEndOf mw_MO_nameEndOf { frames := 0, cells := 0, slots := 0, locals := 0 } (va_Pc [.ref aM, .int p0] (fun U => va_P D vwCl [(aM, .inr (11, [.int thr, .ref aMst, .int tpd, .ref aMdcs, .ref aMtot, .ref aMfrm, .ref aMsiz, .int frs, .int frt, .ref aMffr, .ref aMfsz, .int top, .int bgn, .int mst, .int (b2i ovr), .int (b2i tgr), .int lvs, .ref aMlkd, .ref aMlat, .ref aMkkd, .ref aMkat, .ref aModr, .ref aMgrp, .int its, .ref aMikd, .ref aMiat, .long hgh, .long loo, .int (b2i dfl)])), (aMst, .inl (cI, 136400, .inl st))] U.heap ∧ hk_ D cB cI U)) (vp_Si (fun r => r = V0)) 0 0 (fun _ => False) := by
  refine Met.ofW (cc := b_MO_nameEndOf) (maxL := 3) (ret := (some .int)) (by decide) rfl ?_
  intro p e s m args below meth c s₁ B0 hml hv
  obtain ⟨rfl, hP, hk⟩ := hv
  have hK := hk.1
  have hN := hk.2.1
  have hx := B0.exec
  have hb := B0.bytes
  have hr := B0.returns
  have hT : ∀ w ∈ lw_g, w.before _ s = true := fun w h => atoms_spec (ws := mw_MO_nameEndOf) B0.pre w (List.mem_cons_of_mem _ h)
  have hown : s.vm.findClass R_MO = some m.cls := findClass_of_methodNamed B0.named
  have hlocks := B0.notSynchronized
  have hl := lv_entry ([.ref aM, .int p0]) (n := 3) (Nat.le_of_ble_eq_true rfl)
  rw [lg_entry_eq]
  generalize (lg_sl ([.ref aM, .int p0]) ++ List.replicate (3 - (lg_sl ([.ref aM, .int p0])).length) Slot.unset).toArray = ls at hl ⊢
  have hl : lv_has ls 3 [(0, .ref aM), (1, .int p0)] := hl
  have C0 : lc_C p s m meth c _ b_MO_nameEndOf 3 (some .int) R_MO lw_g := ⟨hx, hb, hml, hr, hown, hlocks, hT⟩
  refine lv_iload_n hx hb d_MO_nameEndOf_0 rfl (lv_at hl 1 rfl) ?_
  refine lv_iconst (v := 1) hx hb d_MO_nameEndOf_1 (by decide) ?_
  refine lv_iadd hx hb d_MO_nameEndOf_2 ?_
  refine lv_istore_n (lv' := [(2, .int (p0 + 1)), (0, .ref aM), (1, .int p0)]) hx hb d_MO_nameEndOf_3 rfl hl (by decide) rfl (fun ls hl => ?_)
  refine l_MO_nameEndOf_h4 C0 hs l D cB cI aM aMst aMdcs aMtot aMfrm aMsiz aMffr aMfsz aMlkd aMlat aMkkd aMkat aModr aMgrp aMikd aMiat fu thr tpd frs frt top bgn mst ovr tgr lvs its hgh loo dfl st hP hk   (K := (fun (x2_3 : Int32) =>
      some x2_3)) ?_ fu (p0 + 1)  (by rw [tw_MO_nameEndOf]) ls (lv_sub hl [1, 0] rfl)
  intro x2_3 hV_3 ls hl
  refine lv_iload_n hx hb d_MO_nameEndOf_19 rfl (lv_at hl 0 rfl) ?_
  exact W.iret (v := x2_3) hx hb hr (fun t ht hW => ⟨x2_3, rfl, (op_eq hs (by rw [hV_3])), ht⟩) (fun _ h => by cases h) d_MO_nameEndOf_20
set_option maxHeartbeats 4000000 in
set_option maxRecDepth 100000 in
theorem c_MO_valueOf (l : Launch) (D : va_G) (cB cI : ClassId) (aM aMst aMdcs aMtot aMfrm aMsiz aMffr aMfsz aMlkd aMlat aMkkd aMkat aModr aMgrp aMikd aMiat : Nat) (fu : Nat) (thr : Int32) (tpd : Int32) (frs : Int32) (frt : Int32) (top : Int32) (bgn : Int32) (mst : Int32) (ovr : Bool) (tgr : Bool) (lvs : Int32) (its : Int32) (hgh : Int64) (loo : Int64) (dfl : Bool) (st : Nat → Int32) (p0 : Int32) (V0 : Int32) (hs : tw_MO_valueOf fu st p0 = some V0) : Met l y_MO_valueOf mw_MO_valueOf { frames := 1, cells := 0, slots := 0, locals := 22 } (va_Pc [.ref aM, .int p0] (fun U => va_P D vwCl [(aM, .inr (11, [.int thr, .ref aMst, .int tpd, .ref aMdcs, .ref aMtot, .ref aMfrm, .ref aMsiz, .int frs, .int frt, .ref aMffr, .ref aMfsz, .int top, .int bgn, .int mst, .int (b2i ovr), .int (b2i tgr), .int lvs, .ref aMlkd, .ref aMlat, .ref aMkkd, .ref aMkat, .ref aModr, .ref aMgrp, .int its, .ref aMikd, .ref aMiat, .long hgh, .long loo, .int (b2i dfl)])), (aMst, .inl (cI, 136400, .inl st))] U.heap ∧ hk_ D cB cI U)) (vp_Si (fun r => r = V0)) 0 0 (fun _ => False) := by
  refine Met.ofW (cc := b_MO_valueOf) (maxL := 2) (ret := (some .int)) (by decide) rfl ?_
  intro p e s m args below meth c s₁ B0 hml hv
  obtain ⟨rfl, hP, hk⟩ := hv
  have hK := hk.1
  have hN := hk.2.1
  have hx := B0.exec
  have hb := B0.bytes
  have hr := B0.returns
  have hT : ∀ w ∈ lw_g, w.before _ s = true := fun w h => atoms_spec (ws := mw_MO_valueOf) B0.pre w (List.mem_cons_of_mem _ h)
  have hown : s.vm.findClass R_MO = some m.cls := findClass_of_methodNamed B0.named
  have hlocks := B0.notSynchronized
  have hl := lv_entry ([.ref aM, .int p0]) (n := 2) (Nat.le_of_ble_eq_true rfl)
  rw [lg_entry_eq]
  generalize (lg_sl ([.ref aM, .int p0]) ++ List.replicate (2 - (lg_sl ([.ref aM, .int p0])).length) Slot.unset).toArray = ls at hl ⊢
  have hl : lv_has ls 2 [(0, .ref aM), (1, .int p0)] := hl
  refine lv_aload_n hx hb d_MO_valueOf_0 rfl (lv_at hl 0 rfl) ?_
  refine lv_iload_n hx hb d_MO_valueOf_1 rfl (lv_at hl 1 rfl) ?_
  rcases h_1 : tw_MO_nameEndOf fu st p0 with _ | r_1
  · exact op_no hs (by rw [tw_MO_valueOf, h_1, ob1_no])
  refine rd_V (val := r_1) (As := [.int p0]) (rest := []) ⟨hx, hb, hml, hown, hT⟩ (c_MO_nameEndOf l D cB cI aM aMst aMdcs aMtot aMfrm aMsiz aMffr aMfsz aMlkd aMlat aMkkd aMkat aModr aMgrp aMikd aMiat fu thr tpd frs frt top bgn mst ovr tgr lvs its hgh loo dfl st p0 r_1 h_1) (cwV 1 hT (gV_of k_1174 k_1176 kp_MO_nameEndOf k_12 kc_MO_nameEndOf) rfl rfl rfl hd_MO_nameEndOf ⟨Nat.le_of_ble_eq_true rfl, Nat.le_of_ble_eq_true rfl⟩) hk hP (q0 := 0) rfl rfl rfl rfl hl.1 rfl (Nat.le_of_ble_eq_true rfl) d_MO_valueOf_2 ⟨Nat.zero_le _, Nat.zero_le _⟩ ?_
  refine lv_iconst (v := 1) hx hb d_MO_valueOf_5 (by decide) ?_
  refine lv_iadd hx hb d_MO_valueOf_6 ?_
  exact W.iret (v := r_1 + 1) hx hb hr (fun t ht hW => ⟨r_1 + 1, rfl, (op_eq hs (by rw [tw_MO_valueOf, h_1, ob1_mk])), ht⟩) (fun _ h => by cases h) d_MO_valueOf_7
set_option maxHeartbeats 4000000 in
set_option maxRecDepth 100000 in
theorem c_MO_lengthOf (l : Launch) (D : va_G) (cB cI : ClassId) (aM aMst aMdcs aMtot aMfrm aMsiz aMffr aMfsz aMlkd aMlat aMkkd aMkat aModr aMgrp aMikd aMiat : Nat) (fu : Nat) (thr : Int32) (tpd : Int32) (frs : Int32) (frt : Int32) (top : Int32) (bgn : Int32) (mst : Int32) (ovr : Bool) (tgr : Bool) (lvs : Int32) (its : Int32) (hgh : Int64) (loo : Int64) (dfl : Bool) (st : Nat → Int32) (p0 : Int32) (p1 : Int32) (V0 : Int32) (hs : tw_MO_lengthOf fu st p0 p1 = some V0) : Met l y_MO_lengthOf mw_MO_lengthOf { frames := 1, cells := 0, slots := 0, locals := 21 } (va_Pc [.ref aM, .int p0, .int p1] (fun U => va_P D vwCl [(aM, .inr (11, [.int thr, .ref aMst, .int tpd, .ref aMdcs, .ref aMtot, .ref aMfrm, .ref aMsiz, .int frs, .int frt, .ref aMffr, .ref aMfsz, .int top, .int bgn, .int mst, .int (b2i ovr), .int (b2i tgr), .int lvs, .ref aMlkd, .ref aMlat, .ref aMkkd, .ref aMkat, .ref aModr, .ref aMgrp, .int its, .ref aMikd, .ref aMiat, .long hgh, .long loo, .int (b2i dfl)])), (aMst, .inl (cI, 136400, .inl st))] U.heap ∧ hk_ D cB cI U)) (vp_Si (fun r => r = V0)) 0 0 (fun _ => False) := by
  refine Met.ofW (cc := b_MO_lengthOf) (maxL := 3) (ret := (some .int)) (by decide) rfl ?_
  intro p e s m args below meth c s₁ B0 hml hv
  obtain ⟨rfl, hP, hk⟩ := hv
  have hK := hk.1
  have hN := hk.2.1
  have hx := B0.exec
  have hb := B0.bytes
  have hr := B0.returns
  have hT : ∀ w ∈ lw_g, w.before _ s = true := fun w h => atoms_spec (ws := mw_MO_lengthOf) B0.pre w (List.mem_cons_of_mem _ h)
  have hown : s.vm.findClass R_MO = some m.cls := findClass_of_methodNamed B0.named
  have hlocks := B0.notSynchronized
  have hl := lv_entry ([.ref aM, .int p0, .int p1]) (n := 3) (Nat.le_of_ble_eq_true rfl)
  rw [lg_entry_eq]
  generalize (lg_sl ([.ref aM, .int p0, .int p1]) ++ List.replicate (3 - (lg_sl ([.ref aM, .int p0, .int p1])).length) Slot.unset).toArray = ls at hl ⊢
  have hl : lv_has ls 3 [(0, .ref aM), (1, .int p0), (2, .int p1)] := hl
  refine lv_iload_n hx hb d_MO_lengthOf_0 rfl (lv_at hl 1 rfl) ?_
  by_cases c_1 : p0 = 2
  · refine sw_T (tgt := 91) hx hb d_MO_lengthOf_1 (Or.inr ⟨by rw [c_1]; decide, by rw [c_1]; decide, 90, by rw [c_1]; rfl, by decide⟩) ?_
    refine lv_iconst (v := 4) hx hb d_MO_lengthOf_91 (by decide) ?_
    refine lv_aload_n hx hb d_MO_lengthOf_92 rfl (lv_at hl 0 rfl) ?_
    refine lv_iload_n hx hb d_MO_lengthOf_93 rfl (lv_at hl 2 rfl) ?_
    rcases h_2 : tw_MO_whole fu st p1 with _ | r_2
    · exact op_no hs (by rw [tw_MO_lengthOf, if_pos c_1, h_2, ob1_no])
    refine rd_V (val := r_2) (As := [.int p1]) (rest := [.int 4]) ⟨hx, hb, hml, hown, hT⟩ (c_MO_whole l D cB cI aM aMst aMdcs aMtot aMfrm aMsiz aMffr aMfsz aMlkd aMlat aMkkd aMkat aModr aMgrp aMikd aMiat fu thr tpd frs frt top bgn mst ovr tgr lvs its hgh loo dfl st p1 r_2 h_2) (cwV 1 hT (gV_of k_1148 k_1150 kp_MO_whole k_12 kc_MO_whole) rfl rfl rfl hd_MO_whole ⟨Nat.le_of_ble_eq_true rfl, Nat.le_of_ble_eq_true rfl⟩) hk hP (q0 := 0) rfl rfl rfl rfl hl.1 rfl (Nat.le_of_ble_eq_true rfl) d_MO_lengthOf_94 ⟨Nat.zero_le _, Nat.zero_le _⟩ ?_
    refine lv_iadd hx hb d_MO_lengthOf_97 ?_
    exact W.iret (v := 4 + r_2) hx hb hr (fun t ht hW => ⟨4 + r_2, rfl, (op_eq hs (by rw [tw_MO_lengthOf, if_pos c_1, h_2, ob1_mk])), ht⟩) (fun _ h => by cases h) d_MO_lengthOf_98
  by_cases c_3 : p0 = 3
  · refine sw_T (tgt := 99) hx hb d_MO_lengthOf_1 (Or.inr ⟨by rw [c_3]; decide, by rw [c_3]; decide, 98, by rw [c_3]; rfl, by decide⟩) ?_
    refine lv_aload_n hx hb d_MO_lengthOf_99 rfl (lv_at hl 0 rfl) ?_
    refine lv_iload_n hx hb d_MO_lengthOf_100 rfl (lv_at hl 2 rfl) ?_
    rcases h_4 : tw_MO_whole fu st p1 with _ | r_4
    · exact op_no hs (by rw [tw_MO_lengthOf, if_neg c_1, if_pos c_3, h_4, ob1_no])
    refine rd_V (val := r_4) (As := [.int p1]) (rest := []) ⟨hx, hb, hml, hown, hT⟩ (c_MO_whole l D cB cI aM aMst aMdcs aMtot aMfrm aMsiz aMffr aMfsz aMlkd aMlat aMkkd aMkat aModr aMgrp aMikd aMiat fu thr tpd frs frt top bgn mst ovr tgr lvs its hgh loo dfl st p1 r_4 h_4) (cwV 1 hT (gV_of k_1148 k_1150 kp_MO_whole k_12 kc_MO_whole) rfl rfl rfl hd_MO_whole ⟨Nat.le_of_ble_eq_true rfl, Nat.le_of_ble_eq_true rfl⟩) hk hP (q0 := 0) rfl rfl rfl rfl hl.1 rfl (Nat.le_of_ble_eq_true rfl) d_MO_lengthOf_101 ⟨Nat.zero_le _, Nat.zero_le _⟩ ?_
    exact W.iret (v := r_4) hx hb hr (fun t ht hW => ⟨r_4, rfl, (op_eq hs (by rw [tw_MO_lengthOf, if_neg c_1, if_pos c_3, h_4, ob1_mk])), ht⟩) (fun _ h => by cases h) d_MO_lengthOf_104
  by_cases c_5 : p0 = 4
  · refine sw_T (tgt := 99) hx hb d_MO_lengthOf_1 (Or.inr ⟨by rw [c_5]; decide, by rw [c_5]; decide, 98, by rw [c_5]; rfl, by decide⟩) ?_
    refine lv_aload_n hx hb d_MO_lengthOf_99 rfl (lv_at hl 0 rfl) ?_
    refine lv_iload_n hx hb d_MO_lengthOf_100 rfl (lv_at hl 2 rfl) ?_
    rcases h_6 : tw_MO_whole fu st p1 with _ | r_6
    · exact op_no hs (by rw [tw_MO_lengthOf, if_neg c_1, if_neg c_3, if_pos c_5, h_6, ob1_no])
    refine rd_V (val := r_6) (As := [.int p1]) (rest := []) ⟨hx, hb, hml, hown, hT⟩ (c_MO_whole l D cB cI aM aMst aMdcs aMtot aMfrm aMsiz aMffr aMfsz aMlkd aMlat aMkkd aMkat aModr aMgrp aMikd aMiat fu thr tpd frs frt top bgn mst ovr tgr lvs its hgh loo dfl st p1 r_6 h_6) (cwV 1 hT (gV_of k_1148 k_1150 kp_MO_whole k_12 kc_MO_whole) rfl rfl rfl hd_MO_whole ⟨Nat.le_of_ble_eq_true rfl, Nat.le_of_ble_eq_true rfl⟩) hk hP (q0 := 0) rfl rfl rfl rfl hl.1 rfl (Nat.le_of_ble_eq_true rfl) d_MO_lengthOf_101 ⟨Nat.zero_le _, Nat.zero_le _⟩ ?_
    exact W.iret (v := r_6) hx hb hr (fun t ht hW => ⟨r_6, rfl, (op_eq hs (by rw [tw_MO_lengthOf, if_neg c_1, if_neg c_3, if_pos c_5, h_6, ob1_mk])), ht⟩) (fun _ h => by cases h) d_MO_lengthOf_104
  by_cases c_7 : p0 = 8
  · refine sw_T (tgt := 89) hx hb d_MO_lengthOf_1 (Or.inr ⟨by rw [c_7]; decide, by rw [c_7]; decide, 88, by rw [c_7]; rfl, by decide⟩) ?_
    refine lv_iconst (v := 1) hx hb d_MO_lengthOf_89 (by decide) ?_
    exact W.iret (v := 1) hx hb hr (fun t ht hW => ⟨1, rfl, (op_eq hs (by rw [tw_MO_lengthOf, if_neg c_1, if_neg c_3, if_neg c_5, if_pos c_7])), ht⟩) (fun _ h => by cases h) d_MO_lengthOf_90
  by_cases c_8 : p0 = 16
  · refine sw_T (tgt := 84) hx hb d_MO_lengthOf_1 (Or.inr ⟨by rw [c_8]; decide, by rw [c_8]; decide, 83, by rw [c_8]; rfl, by decide⟩) ?_
    refine lv_iconst (v := 4) hx hb d_MO_lengthOf_84 (by decide) ?_
    exact W.iret (v := 4) hx hb hr (fun t ht hW => ⟨4, rfl, (op_eq hs (by rw [tw_MO_lengthOf, if_neg c_1, if_neg c_3, if_neg c_5, if_neg c_7, if_pos c_8])), ht⟩) (fun _ h => by cases h) d_MO_lengthOf_85
  by_cases c_9 : p0 = 18
  · refine sw_T (tgt := 86) hx hb d_MO_lengthOf_1 (Or.inr ⟨by rw [c_9]; decide, by rw [c_9]; decide, 85, by rw [c_9]; rfl, by decide⟩) ?_
    refine lv_bipush (v := 8) hx hb d_MO_lengthOf_86 (by decide) ?_
    exact W.iret (v := 8) hx hb hr (fun t ht hW => ⟨8, rfl, (op_eq hs (by rw [tw_MO_lengthOf, if_neg c_1, if_neg c_3, if_neg c_5, if_neg c_7, if_neg c_8, if_pos c_9])), ht⟩) (fun _ h => by cases h) d_MO_lengthOf_88
  have h_c_1 := lv_neT c_1 (show (2 : Int32).toInt = 2 from rfl)
  have h_c_3 := lv_neT c_3 (show (3 : Int32).toInt = 3 from rfl)
  have h_c_5 := lv_neT c_5 (show (4 : Int32).toInt = 4 from rfl)
  have h_c_7 := lv_neT c_7 (show (8 : Int32).toInt = 8 from rfl)
  have h_c_8 := lv_neT c_8 (show (16 : Int32).toInt = 16 from rfl)
  have h_c_9 := lv_neT c_9 (show (18 : Int32).toInt = 18 from rfl)
  refine sw_T (tgt := 105) hx hb d_MO_lengthOf_1 (by
    rcases Int.lt_or_le p0.toInt 2 with q | q
    · exact Or.inl ⟨Or.inl q, by decide⟩
    · rcases Int.lt_or_le 18 p0.toInt with q2 | q2
      · exact Or.inl ⟨Or.inr q2, by decide⟩
      · refine Or.inr ⟨by omega, by omega, ?_⟩
        have q3 : p0.toInt = 5 ∨ p0.toInt = 6 ∨ p0.toInt = 7 ∨ p0.toInt = 9 ∨ p0.toInt = 10 ∨ p0.toInt = 11 ∨ p0.toInt = 12 ∨ p0.toInt = 13 ∨ p0.toInt = 14 ∨ p0.toInt = 15 ∨ p0.toInt = 17 := by omega
        rcases q3 with q3 | q3 | q3 | q3 | q3 | q3 | q3 | q3 | q3 | q3 | q3 <;> (rw [q3]; exact ⟨_, rfl, by decide⟩)) ?_
  refine lv_iconst (v := 0) hx hb d_MO_lengthOf_105 (by decide) ?_
  exact W.iret (v := 0) hx hb hr (fun t ht hW => ⟨0, rfl, (op_eq hs (by rw [tw_MO_lengthOf, if_neg c_1, if_neg c_3, if_neg c_5, if_neg c_7, if_neg c_8, if_neg c_9])), ht⟩) (fun _ h => by cases h) d_MO_lengthOf_106
set_option maxHeartbeats 4000000 in
set_option maxRecDepth 100000 in
theorem c_MO_firstOf (l : Launch) (D : va_G) (cB cI : ClassId) (aM aMst aMdcs aMtot aMfrm aMsiz aMffr aMfsz aMlkd aMlat aMkkd aMkat aModr aMgrp aMikd aMiat : Nat) (fu : Nat) (thr : Int32) (tpd : Int32) (frs : Int32) (frt : Int32) (top : Int32) (bgn : Int32) (mst : Int32) (ovr : Bool) (tgr : Bool) (lvs : Int32) (its : Int32) (hgh : Int64) (loo : Int64) (dfl : Bool) (st : Nat → Int32) (p0 : Int32) (V0 : Int32) (hs : tw_MO_firstOf fu st p0 = some V0) : Met l y_MO_firstOf mw_MO_firstOf { frames := 0, cells := 0, slots := 0, locals := 0 } (va_Pc [.ref aM, .int p0] (fun U => va_P D vwCl [(aM, .inr (11, [.int thr, .ref aMst, .int tpd, .ref aMdcs, .ref aMtot, .ref aMfrm, .ref aMsiz, .int frs, .int frt, .ref aMffr, .ref aMfsz, .int top, .int bgn, .int mst, .int (b2i ovr), .int (b2i tgr), .int lvs, .ref aMlkd, .ref aMlat, .ref aMkkd, .ref aMkat, .ref aModr, .ref aMgrp, .int its, .ref aMikd, .ref aMiat, .long hgh, .long loo, .int (b2i dfl)])), (aMst, .inl (cI, 136400, .inl st))] U.heap ∧ hk_ D cB cI U)) (vp_Si (fun r => r = V0)) 0 0 (fun _ => False) := by
  refine Met.ofW (cc := b_MO_firstOf) (maxL := 2) (ret := (some .int)) (by decide) rfl ?_
  intro p e s m args below meth c s₁ B0 hml hv
  obtain ⟨rfl, hP, hk⟩ := hv
  have hK := hk.1
  have hN := hk.2.1
  have hx := B0.exec
  have hb := B0.bytes
  have hr := B0.returns
  have hT : ∀ w ∈ lw_g, w.before _ s = true := fun w h => atoms_spec (ws := mw_MO_firstOf) B0.pre w (List.mem_cons_of_mem _ h)
  have hown : s.vm.findClass R_MO = some m.cls := findClass_of_methodNamed B0.named
  have hlocks := B0.notSynchronized
  have hl := lv_entry ([.ref aM, .int p0]) (n := 2) (Nat.le_of_ble_eq_true rfl)
  rw [lg_entry_eq]
  generalize (lg_sl ([.ref aM, .int p0]) ++ List.replicate (2 - (lg_sl ([.ref aM, .int p0])).length) Slot.unset).toArray = ls at hl ⊢
  have hl : lv_has ls 2 [(0, .ref aM), (1, .int p0)] := hl
  refine lv_aload_n hx hb d_MO_firstOf_0 rfl (lv_at hl 0 rfl) ?_
  refine va_get (D := D) (ci := 11) (v := .ref aMst) (C := R_MO) (T := T_MO) (N := 29) hx hb hT u_MO hown hK hP 0 rfl rfl 1 (by decide) (hT _ k_1044) (fun _ h9 => h9) rfl d_MO_firstOf_1 ?_
  refine lv_iload_n hx hb d_MO_firstOf_4 rfl (lv_at hl 1 rfl) ?_
  refine lv_iconst (v := 4) hx hb d_MO_firstOf_5 (by decide) ?_
  refine lv_iadd hx hb d_MO_firstOf_6 ?_
  by_cases c_1 : 0 ≤ (p0 + 4) ∧ (p0 + 4) < 136400
  rotate_left
  · exact op_no hs (by rw [tw_MO_firstOf, if_neg c_1])
  refine va_iald hx hb hK hP 1 1 rfl rfl (in_pp c_1.1 c_1.2 rfl) d_MO_firstOf_7 ?_
  refine lv_if_ne (tgt := 15) hx hb d_MO_firstOf_8 (by decide) (fun c_2 => ?_) (fun c_2 => ?_)
  · refine lv_iload_n hx hb d_MO_firstOf_15 rfl (lv_at hl 1 rfl) ?_
    refine lv_iconst (v := 4) hx hb d_MO_firstOf_16 (by decide) ?_
    refine lv_iadd hx hb d_MO_firstOf_17 ?_
    exact W.iret (v := p0 + 4) hx hb hr (fun t ht hW => ⟨p0 + 4, rfl, (op_eq hs (by rw [tw_MO_firstOf, if_pos c_1, if_neg c_2])), ht⟩) (fun _ h => by cases h) d_MO_firstOf_18
  · refine lv_iconst (v := 0) hx hb d_MO_firstOf_11 (by decide) ?_
    refine lv_goto (tgt := 18) hx hb d_MO_firstOf_12 (by decide) ?_
    exact W.iret (v := 0) hx hb hr (fun t ht hW => ⟨0, rfl, (op_eq hs (by rw [tw_MO_firstOf, if_pos c_1, if_pos c_2])), ht⟩) (fun _ h => by cases h) d_MO_firstOf_18
set_option maxHeartbeats 4000000 in
set_option maxRecDepth 100000 in
theorem c_MO_nextOf (l : Launch) (D : va_G) (cB cI : ClassId) (aM aMst aMdcs aMtot aMfrm aMsiz aMffr aMfsz aMlkd aMlat aMkkd aMkat aModr aMgrp aMikd aMiat : Nat) (fu : Nat) (thr : Int32) (tpd : Int32) (frs : Int32) (frt : Int32) (top : Int32) (bgn : Int32) (mst : Int32) (ovr : Bool) (tgr : Bool) (lvs : Int32) (its : Int32) (hgh : Int64) (loo : Int64) (dfl : Bool) (st : Nat → Int32) (p0 : Int32) (V0 : Int32) (hs : tw_MO_nextOf fu st p0 = some V0) : Met l y_MO_nextOf mw_MO_nextOf { frames := 2, cells := 0, slots := 0, locals := 43 } (va_Pc [.ref aM, .int p0] (fun U => va_P D vwCl [(aM, .inr (11, [.int thr, .ref aMst, .int tpd, .ref aMdcs, .ref aMtot, .ref aMfrm, .ref aMsiz, .int frs, .int frt, .ref aMffr, .ref aMfsz, .int top, .int bgn, .int mst, .int (b2i ovr), .int (b2i tgr), .int lvs, .ref aMlkd, .ref aMlat, .ref aMkkd, .ref aMkat, .ref aModr, .ref aMgrp, .int its, .ref aMikd, .ref aMiat, .long hgh, .long loo, .int (b2i dfl)])), (aMst, .inl (cI, 136400, .inl st))] U.heap ∧ hk_ D cB cI U)) (vp_Si (fun r => r = V0)) 0 0 (fun _ => False) := by
  refine Met.ofW (cc := b_MO_nextOf) (maxL := 4) (ret := (some .int)) (by decide) rfl ?_
  intro p e s m args below meth c s₁ B0 hml hv
  obtain ⟨rfl, hP, hk⟩ := hv
  have hK := hk.1
  have hN := hk.2.1
  have hx := B0.exec
  have hb := B0.bytes
  have hr := B0.returns
  have hT : ∀ w ∈ lw_g, w.before _ s = true := fun w h => atoms_spec (ws := mw_MO_nextOf) B0.pre w (List.mem_cons_of_mem _ h)
  have hown : s.vm.findClass R_MO = some m.cls := findClass_of_methodNamed B0.named
  have hlocks := B0.notSynchronized
  have hl := lv_entry ([.ref aM, .int p0]) (n := 4) (Nat.le_of_ble_eq_true rfl)
  rw [lg_entry_eq]
  generalize (lg_sl ([.ref aM, .int p0]) ++ List.replicate (4 - (lg_sl ([.ref aM, .int p0])).length) Slot.unset).toArray = ls at hl ⊢
  have hl : lv_has ls 4 [(0, .ref aM), (1, .int p0)] := hl
  refine lv_aload_n hx hb d_MO_nextOf_0 rfl (lv_at hl 0 rfl) ?_
  refine lv_iload_n hx hb d_MO_nextOf_1 rfl (lv_at hl 1 rfl) ?_
  rcases h_1 : tw_MO_valueOf fu st p0 with _ | r_1
  · exact op_no hs (by rw [tw_MO_nextOf, h_1, ob1_no])
  refine rd_V (val := r_1) (As := [.int p0]) (rest := []) ⟨hx, hb, hml, hown, hT⟩ (c_MO_valueOf l D cB cI aM aMst aMdcs aMtot aMfrm aMsiz aMffr aMfsz aMlkd aMlat aMkkd aMkat aModr aMgrp aMikd aMiat fu thr tpd frs frt top bgn mst ovr tgr lvs its hgh loo dfl st p0 r_1 h_1) (cwV 1 hT (gV_of k_1182 k_1184 kp_MO_valueOf k_12 kc_MO_valueOf) rfl rfl rfl hd_MO_valueOf ⟨Nat.le_of_ble_eq_true rfl, Nat.le_of_ble_eq_true rfl⟩) hk hP (q0 := 0) rfl rfl rfl rfl hl.1 rfl (Nat.le_of_ble_eq_true rfl) d_MO_nextOf_2 ⟨Nat.zero_le _, Nat.zero_le _⟩ ?_
  refine lv_istore_n (lv' := [(2, .int r_1), (0, .ref aM), (1, .int p0)]) hx hb d_MO_nextOf_5 rfl hl (by decide) rfl (fun ls hl => ?_)
  refine lv_iload_n hx hb d_MO_nextOf_6 rfl (lv_at hl 0 rfl) ?_
  refine lv_aload_n hx hb d_MO_nextOf_7 rfl (lv_at hl 1 rfl) ?_
  refine lv_aload_n hx hb d_MO_nextOf_8 rfl (lv_at hl 1 rfl) ?_
  refine va_get (D := D) (ci := 11) (v := .ref aMst) (C := R_MO) (T := T_MO) (N := 29) hx hb hT u_MO hown hK hP 0 rfl rfl 1 (by decide) (hT _ k_1044) (fun _ h9 => h9) rfl d_MO_nextOf_9 ?_
  refine lv_iload_n hx hb d_MO_nextOf_12 rfl (lv_at hl 2 rfl) ?_
  by_cases c_2 : 0 ≤ p0 ∧ p0 < 136400
  rotate_left
  · exact op_no hs (by rw [tw_MO_nextOf, h_1, ob1_mk, if_neg c_2])
  refine va_iald hx hb hK hP 1 1 rfl rfl (in_pp c_2.1 c_2.2 rfl) d_MO_nextOf_13 ?_
  refine lv_iload_n hx hb d_MO_nextOf_14 rfl (lv_at hl 0 rfl) ?_
  rcases h_3 : tw_MO_lengthOf fu st (st p0.toNatClampNeg) r_1 with _ | r_3
  · exact op_no hs (by rw [tw_MO_nextOf, h_1, ob1_mk, if_pos c_2, h_3, ob1_no])
  refine rd_V (val := r_3) (As := [.int (st p0.toNatClampNeg), .int r_1]) (rest := [.int r_1]) ⟨hx, hb, hml, hown, hT⟩ (c_MO_lengthOf l D cB cI aM aMst aMdcs aMtot aMfrm aMsiz aMffr aMfsz aMlkd aMlat aMkkd aMkat aModr aMgrp aMikd aMiat fu thr tpd frs frt top bgn mst ovr tgr lvs its hgh loo dfl st (st p0.toNatClampNeg) r_1 r_3 h_3) (cwV 2 hT (gV_of k_1186 k_1188 kp_MO_lengthOf k_12 kc_MO_lengthOf) rfl rfl rfl hd_MO_lengthOf ⟨Nat.le_of_ble_eq_true rfl, Nat.le_of_ble_eq_true rfl⟩) hk hP (q0 := 0) rfl rfl rfl rfl hl.1 rfl (Nat.le_of_ble_eq_true rfl) d_MO_nextOf_15 ⟨Nat.zero_le _, Nat.zero_le _⟩ ?_
  refine lv_iadd hx hb d_MO_nextOf_18 ?_
  refine lv_istore_n (lv' := [(3, .int (r_1 + r_3)), (2, .int r_1), (0, .ref aM), (1, .int p0)]) hx hb d_MO_nextOf_19 rfl hl (by decide) rfl (fun ls hl => ?_)
  refine lv_aload_n hx hb d_MO_nextOf_20 rfl (lv_at hl 2 rfl) ?_
  refine va_get (D := D) (ci := 11) (v := .ref aMst) (C := R_MO) (T := T_MO) (N := 29) hx hb hT u_MO hown hK hP 0 rfl rfl 1 (by decide) (hT _ k_1044) (fun _ h9 => h9) rfl d_MO_nextOf_21 ?_
  refine lv_iload_n hx hb d_MO_nextOf_24 rfl (lv_at hl 0 rfl) ?_
  by_cases c_4 : 0 ≤ (r_1 + r_3) ∧ (r_1 + r_3) < 136400
  rotate_left
  · exact op_no hs (by rw [tw_MO_nextOf, h_1, ob1_mk, if_pos c_2, h_3, ob1_mk, if_neg c_4])
  refine va_iald hx hb hK hP 1 1 rfl rfl (in_pp c_4.1 c_4.2 rfl) d_MO_nextOf_25 ?_
  refine lv_if_ne (tgt := 33) hx hb d_MO_nextOf_26 (by decide) (fun c_5 => ?_) (fun c_5 => ?_)
  · refine lv_iload_n hx hb d_MO_nextOf_33 rfl (lv_at hl 0 rfl) ?_
    exact W.iret (v := r_1 + r_3) hx hb hr (fun t ht hW => ⟨r_1 + r_3, rfl, (op_eq hs (by rw [tw_MO_nextOf, h_1, ob1_mk, if_pos c_2, h_3, ob1_mk, if_pos c_4, if_neg c_5])), ht⟩) (fun _ h => by cases h) d_MO_nextOf_34
  · refine lv_iconst (v := 0) hx hb d_MO_nextOf_29 (by decide) ?_
    refine lv_goto (tgt := 34) hx hb d_MO_nextOf_30 (by decide) ?_
    exact W.iret (v := 0) hx hb hr (fun t ht hW => ⟨0, rfl, (op_eq hs (by rw [tw_MO_nextOf, h_1, ob1_mk, if_pos c_2, h_3, ob1_mk, if_pos c_4, if_pos c_5])), ht⟩) (fun _ h => by cases h) d_MO_nextOf_34
set_option maxHeartbeats 4000000 in
set_option maxRecDepth 100000 in
theorem l_MO_countOf_h8 {p : Program} {e : Env} {s : State} {m : MethodId} {args : Array Value} {below : List Frame} {meth : Method} {c : Code} {V : Option (Int32)} {V0 : Int32} (C0 : lc_C p s m meth c args b_MO_countOf 4 (some .int) R_MO lw_g) (hs : V = some V0) (l : Launch) (D : va_G) (cB cI : ClassId) (aM aMst aMdcs aMtot aMfrm aMsiz aMffr aMfsz aMlkd aMlat aMkkd aMkat aModr aMgrp aMikd aMiat : Nat) (fu : Nat) (thr : Int32) (tpd : Int32) (frs : Int32) (frt : Int32) (top : Int32) (bgn : Int32) (mst : Int32) (ovr : Bool) (tgr : Bool) (lvs : Int32) (its : Int32) (hgh : Int64) (loo : Int64) (dfl : Bool) (st : Nat → Int32) (hP : va_P D vwCl [(aM, .inr (11, [.int thr, .ref aMst, .int tpd, .ref aMdcs, .ref aMtot, .ref aMfrm, .ref aMsiz, .int frs, .int frt, .ref aMffr, .ref aMfsz, .int top, .int bgn, .int mst, .int (b2i ovr), .int (b2i tgr), .int lvs, .ref aMlkd, .ref aMlat, .ref aMkkd, .ref aMkat, .ref aModr, .ref aMgrp, .int its, .ref aMikd, .ref aMiat, .long hgh, .long loo, .int (b2i dfl)])), (aMst, .inl (cI, 136400, .inl st))] s.heap) (hk : hk_ D cB cI s)  {K : Int32 → Int32 → Option (Int32)} (hKx : ∀ (x2 : Int32) (x3 : Int32), V = K x2 x3 → ∀ ls : Array Slot, lv_has ls 4 [(2, .int x2)] → W p l e ({ frames := 3, cells := 0, slots := 0, locals := 66 }) s m args below meth c s.heap [] 0 0 (MQ below (vp_Si (fun r => r = V0)) args s 0 0 (fun _ => False)) (F0 m 24 ls [])) : ∀ (n : Nat) (x2 : Int32) (x3 : Int32), V = tw_MO_countOf_h8 fu K st n x2 x3 → ∀ ls : Array Slot, lv_has ls 4 [(0, .ref aM), (2, .int x2), (3, .int x3)] → W p l e ({ frames := 3, cells := 0, slots := 0, locals := 66 }) s m args below meth c s.heap [] 0 0 (MQ below (vp_Si (fun r => r = V0)) args s 0 0 (fun _ => False)) (F0 m 8 ls []) := by
  obtain ⟨hx, hb, hml, hr, hown, hlocks, hT⟩ := id C0
  have hK := hk.1
  have hN := hk.2.1
  intro n
  induction n with
  | zero =>
    intro x2 x3 hV
    exact op_no hs (hV.trans rfl)
  | succ n ih =>
    intro x2 x3 hV ls hl
    refine lv_iload_n hx hb d_MO_countOf_8 rfl (lv_at hl 2 rfl) ?_
    refine lv_if_le (tgt := 24) hx hb d_MO_countOf_9 (by decide) (fun c_2 => ?_) (fun c_2 => ?_)
    · exact hKx x2 x3 (by rw [hV, tw_MO_countOf_h8, if_pos c_2]) ls (lv_sub hl [1] rfl)
    · refine lv_iinc (v := x2 + 1) (lv' := [(2, .int (x2 + 1)), (0, .ref aM), (3, .int x3)]) hx hb d_MO_countOf_12 hl (k := 1) rfl rfl (by decide) rfl (fun ls hl => ?_)
      refine lv_aload_n hx hb d_MO_countOf_15 rfl (lv_at hl 1 rfl) ?_
      refine lv_iload_n hx hb d_MO_countOf_16 rfl (lv_at hl 2 rfl) ?_
      rcases h_3 : tw_MO_nextOf fu st x3 with _ | r_3
      · exact op_no hs (by rw [hV, tw_MO_countOf_h8, if_neg c_2, h_3, ob1_no])
      refine rd_V (val := r_3) (As := [.int x3]) (rest := []) ⟨hx, hb, hml, hown, hT⟩ (c_MO_nextOf l D cB cI aM aMst aMdcs aMtot aMfrm aMsiz aMffr aMfsz aMlkd aMlat aMkkd aMkat aModr aMgrp aMikd aMiat fu thr tpd frs frt top bgn mst ovr tgr lvs its hgh loo dfl st x3 r_3 h_3) (cwV 1 hT (gV_of k_1204 k_1206 kp_MO_nextOf k_12 kc_MO_nextOf) rfl rfl rfl hd_MO_nextOf ⟨Nat.le_of_ble_eq_true rfl, Nat.le_of_ble_eq_true rfl⟩) hk hP (q0 := 0) rfl rfl rfl rfl hl.1 rfl (Nat.le_of_ble_eq_true rfl) d_MO_countOf_17 ⟨Nat.zero_le _, Nat.zero_le _⟩ ?_
      refine lv_istore_n (lv' := [(3, .int r_3), (2, .int (x2 + 1)), (0, .ref aM)]) hx hb d_MO_countOf_20 rfl hl (by decide) rfl (fun ls hl => ?_)
      refine lv_goto (tgt := 8) hx hb d_MO_countOf_21 (by decide) ?_
      exact ih (x2 + 1) r_3 (by rw [hV, tw_MO_countOf_h8, if_neg c_2, h_3, ob1_mk]) ls (lv_sub hl [2, 1, 0] rfl)
set_option maxHeartbeats 4000000 in
set_option maxRecDepth 100000 in
theorem c_MO_countOf (l : Launch) (D : va_G) (cB cI : ClassId) (aM aMst aMdcs aMtot aMfrm aMsiz aMffr aMfsz aMlkd aMlat aMkkd aMkat aModr aMgrp aMikd aMiat : Nat) (fu : Nat) (thr : Int32) (tpd : Int32) (frs : Int32) (frt : Int32) (top : Int32) (bgn : Int32) (mst : Int32) (ovr : Bool) (tgr : Bool) (lvs : Int32) (its : Int32) (hgh : Int64) (loo : Int64) (dfl : Bool) (st : Nat → Int32) (p0 : Int32) (V0 : Int32) (hs : tw_MO_countOf fu st p0 = some V0) : Met l y_MO_countOf mw_MO_countOf { frames := 3, cells := 0, slots := 0, locals := 66 } (va_Pc [.ref aM, .int p0] (fun U => va_P D vwCl [(aM, .inr (11, [.int thr, .ref aMst, .int tpd, .ref aMdcs, .ref aMtot, .ref aMfrm, .ref aMsiz, .int frs, .int frt, .ref aMffr, .ref aMfsz, .int top, .int bgn, .int mst, .int (b2i ovr), .int (b2i tgr), .int lvs, .ref aMlkd, .ref aMlat, .ref aMkkd, .ref aMkat, .ref aModr, .ref aMgrp, .int its, .ref aMikd, .ref aMiat, .long hgh, .long loo, .int (b2i dfl)])), (aMst, .inl (cI, 136400, .inl st))] U.heap ∧ hk_ D cB cI U)) (vp_Si (fun r => r = V0)) 0 0 (fun _ => False) := by
  refine Met.ofW (cc := b_MO_countOf) (maxL := 4) (ret := (some .int)) (by decide) rfl ?_
  intro p e s m args below meth c s₁ B0 hml hv
  obtain ⟨rfl, hP, hk⟩ := hv
  have hK := hk.1
  have hN := hk.2.1
  have hx := B0.exec
  have hb := B0.bytes
  have hr := B0.returns
  have hT : ∀ w ∈ lw_g, w.before _ s = true := fun w h => atoms_spec (ws := mw_MO_countOf) B0.pre w (List.mem_cons_of_mem _ h)
  have hown : s.vm.findClass R_MO = some m.cls := findClass_of_methodNamed B0.named
  have hlocks := B0.notSynchronized
  have hl := lv_entry ([.ref aM, .int p0]) (n := 4) (Nat.le_of_ble_eq_true rfl)
  rw [lg_entry_eq]
  generalize (lg_sl ([.ref aM, .int p0]) ++ List.replicate (4 - (lg_sl ([.ref aM, .int p0])).length) Slot.unset).toArray = ls at hl ⊢
  have hl : lv_has ls 4 [(0, .ref aM), (1, .int p0)] := hl
  have C0 : lc_C p s m meth c _ b_MO_countOf 4 (some .int) R_MO lw_g := ⟨hx, hb, hml, hr, hown, hlocks, hT⟩
  refine lv_iconst (v := 0) hx hb d_MO_countOf_0 (by decide) ?_
  refine lv_istore_n (lv' := [(2, .int 0), (0, .ref aM), (1, .int p0)]) hx hb d_MO_countOf_1 rfl hl (by decide) rfl (fun ls hl => ?_)
  refine lv_aload_n hx hb d_MO_countOf_2 rfl (lv_at hl 1 rfl) ?_
  refine lv_iload_n hx hb d_MO_countOf_3 rfl (lv_at hl 2 rfl) ?_
  rcases h_1 : tw_MO_firstOf fu st p0 with _ | r_1
  · exact op_no hs (by rw [tw_MO_countOf, h_1, ob1_no])
  refine rd_V (val := r_1) (As := [.int p0]) (rest := []) ⟨hx, hb, hml, hown, hT⟩ (c_MO_firstOf l D cB cI aM aMst aMdcs aMtot aMfrm aMsiz aMffr aMfsz aMlkd aMlat aMkkd aMkat aModr aMgrp aMikd aMiat fu thr tpd frs frt top bgn mst ovr tgr lvs its hgh loo dfl st p0 r_1 h_1) (cwV 1 hT (gV_of k_1196 k_1198 kp_MO_firstOf k_12 kc_MO_firstOf) rfl rfl rfl hd_MO_firstOf ⟨Nat.le_of_ble_eq_true rfl, Nat.le_of_ble_eq_true rfl⟩) hk hP (q0 := 0) rfl rfl rfl rfl hl.1 rfl (Nat.le_of_ble_eq_true rfl) d_MO_countOf_4 ⟨Nat.zero_le _, Nat.zero_le _⟩ ?_
  refine lv_istore_n (lv' := [(3, .int r_1), (2, .int 0), (0, .ref aM), (1, .int p0)]) hx hb d_MO_countOf_7 rfl hl (by decide) rfl (fun ls hl => ?_)
  refine l_MO_countOf_h8 C0 hs l D cB cI aM aMst aMdcs aMtot aMfrm aMsiz aMffr aMfsz aMlkd aMlat aMkkd aMkat aModr aMgrp aMikd aMiat fu thr tpd frs frt top bgn mst ovr tgr lvs its hgh loo dfl st hP hk   (K := (fun (x2_4 : Int32) (x3_4 : Int32) =>
      some x2_4)) ?_ fu 0 r_1  (by rw [tw_MO_countOf, h_1, ob1_mk]) ls (lv_sub hl [2, 1, 0] rfl)
  intro x2_4 x3_4 hV_4 ls hl
  refine lv_iload_n hx hb d_MO_countOf_24 rfl (lv_at hl 0 rfl) ?_
  exact W.iret (v := x2_4) hx hb hr (fun t ht hW => ⟨x2_4, rfl, (op_eq hs (by rw [hV_4])), ht⟩) (fun _ h => by cases h) d_MO_countOf_25
set_option maxHeartbeats 4000000 in
set_option maxRecDepth 100000 in
theorem l_MO_number_h33 {p : Program} {e : Env} {s : State} {m : MethodId} {args : Array Value} {below : List Frame} {meth : Method} {c : Code} {V : Option (Int64)} {V0 : Int64} (C0 : lc_C p s m meth c args b_MO_number 6 (some .long) R_MO lw_g) (hs : V = some V0) (l : Launch) (D : va_G) (cB cI : ClassId) (aM aMst aMdcs aMtot aMfrm aMsiz aMffr aMfsz aMlkd aMlat aMkkd aMkat aModr aMgrp aMikd aMiat : Nat) (fu : Nat) (thr : Int32) (tpd : Int32) (frs : Int32) (frt : Int32) (top : Int32) (bgn : Int32) (mst : Int32) (ovr : Bool) (tgr : Bool) (lvs : Int32) (its : Int32) (hgh : Int64) (loo : Int64) (dfl : Bool) (st : Nat → Int32) (hP : va_P D vwCl [(aM, .inr (11, [.int thr, .ref aMst, .int tpd, .ref aMdcs, .ref aMtot, .ref aMfrm, .ref aMsiz, .int frs, .int frt, .ref aMffr, .ref aMfsz, .int top, .int bgn, .int mst, .int (b2i ovr), .int (b2i tgr), .int lvs, .ref aMlkd, .ref aMlat, .ref aMkkd, .ref aMkat, .ref aModr, .ref aMgrp, .int its, .ref aMikd, .ref aMiat, .long hgh, .long loo, .int (b2i dfl)])), (aMst, .inl (cI, 136400, .inl st))] s.heap) (hk : hk_ D cB cI s) (p1 : Int32) {K : Int64 → Int32 → Option (Int64)} (hKx : ∀ (x3 : Int64) (x5 : Int32), V = K x3 x5 → ∀ ls : Array Slot, lv_has ls 6 [(3, .long x3)] → W p l e ({ frames := 1, cells := 0, slots := 0, locals := 21 }) s m args below meth c s.heap [] 0 0 (MQ below (vp_Sl (fun r => r = V0)) args s 0 0 (fun _ => False)) (F0 m 60 ls [])) : ∀ (n : Nat) (x3 : Int64) (x5 : Int32), V = tw_MO_number_h33 fu K st p1 n x3 x5 → ∀ ls : Array Slot, lv_has ls 6 [(0, .ref aM), (2, .int p1), (3, .long x3), (5, .int x5)] → W p l e ({ frames := 1, cells := 0, slots := 0, locals := 21 }) s m args below meth c s.heap [] 0 0 (MQ below (vp_Sl (fun r => r = V0)) args s 0 0 (fun _ => False)) (F0 m 33 ls []) := by
  obtain ⟨hx, hb, hml, hr, hown, hlocks, hT⟩ := id C0
  have hK := hk.1
  have hN := hk.2.1
  intro n
  induction n with
  | zero =>
    intro x3 x5 hV
    exact op_no hs (hV.trans rfl)
  | succ n ih =>
    intro x3 x5 hV ls hl
    refine lv_iload hx hb d_MO_number_33 (lv_at hl 3 rfl) ?_
    refine lv_if_lt (tgt := 60) hx hb d_MO_number_35 (by decide) (fun c_3 => ?_) (fun c_3 => ?_)
    · exact hKx x3 x5 (by rw [hV, tw_MO_number_h33, if_pos c_3]) ls (lv_sub hl [2] rfl)
    · refine lv_lload_n hx hb d_MO_number_38 rfl (lv_at hl 2 rfl) ?_
      refine lv_bipush (v := 8) hx hb d_MO_number_39 (by decide) ?_
      refine lv_lshl hx hb d_MO_number_41 rfl ?_
      refine lv_aload_n hx hb d_MO_number_42 rfl (lv_at hl 0 rfl) ?_
      refine va_get (D := D) (ci := 11) (v := .ref aMst) (C := R_MO) (T := T_MO) (N := 29) hx hb hT u_MO hown hK hP 0 rfl rfl 1 (by decide) (hT _ k_1044) (fun _ h9 => h9) rfl d_MO_number_43 ?_
      refine lv_iload_n hx hb d_MO_number_46 rfl (lv_at hl 1 rfl) ?_
      refine lv_iload hx hb d_MO_number_47 (lv_at hl 3 rfl) ?_
      refine lv_iadd hx hb d_MO_number_49 ?_
      by_cases c_4 : 0 ≤ (p1 + x5) ∧ (p1 + x5) < 136400
      rotate_left
      · exact op_no hs (by rw [hV, tw_MO_number_h33, if_neg c_3, if_neg c_4])
      refine va_iald hx hb hK hP 1 1 rfl rfl (in_pp c_4.1 c_4.2 rfl) d_MO_number_50 ?_
      refine lv_i2l (v := (st (p1 + x5).toNatClampNeg).toInt64) hx hb d_MO_number_51 rfl ?_
      refine lv_lor hx hb d_MO_number_52 ?_
      refine lv_lstore_n (lv' := [(3, .long ((x3 <<< ((8 : Int32).toInt64 &&& 63)) ||| ((st (p1 + x5).toNatClampNeg).toInt64))), (0, .ref aM), (2, .int p1), (5, .int x5)]) hx hb d_MO_number_53 rfl hl (by decide) rfl (fun ls hl => ?_)
      refine lv_iinc (v := x5 + (-1)) (lv' := [(5, .int (x5 + (-1))), (3, .long ((x3 <<< ((8 : Int32).toInt64 &&& 63)) ||| ((st (p1 + x5).toNatClampNeg).toInt64))), (0, .ref aM), (2, .int p1)]) hx hb d_MO_number_54 hl (k := 3) rfl rfl (by decide) rfl (fun ls hl => ?_)
      refine lv_goto (tgt := 33) hx hb d_MO_number_57 (by decide) ?_
      exact ih ((x3 <<< ((8 : Int32).toInt64 &&& 63)) ||| ((st (p1 + x5).toNatClampNeg).toInt64)) (x5 + (-1)) (by rw [hV, tw_MO_number_h33, if_neg c_3, if_pos c_4]) ls (lv_sub hl [2, 3, 1, 0] rfl)
set_option maxHeartbeats 4000000 in
set_option maxRecDepth 100000 in
theorem c_MO_number (l : Launch) (D : va_G) (cB cI : ClassId) (aM aMst aMdcs aMtot aMfrm aMsiz aMffr aMfsz aMlkd aMlat aMkkd aMkat aModr aMgrp aMikd aMiat : Nat) (fu : Nat) (thr : Int32) (tpd : Int32) (frs : Int32) (frt : Int32) (top : Int32) (bgn : Int32) (mst : Int32) (ovr : Bool) (tgr : Bool) (lvs : Int32) (its : Int32) (hgh : Int64) (loo : Int64) (dfl : Bool) (st : Nat → Int32) (p0 : Int32) (p1 : Int32) (V0 : Int64) (hs : tw_MO_number fu st p0 p1 = some V0) : Met l y_MO_number mw_MO_number { frames := 1, cells := 0, slots := 0, locals := 21 } (va_Pc [.ref aM, .int p0, .int p1] (fun U => va_P D vwCl [(aM, .inr (11, [.int thr, .ref aMst, .int tpd, .ref aMdcs, .ref aMtot, .ref aMfrm, .ref aMsiz, .int frs, .int frt, .ref aMffr, .ref aMfsz, .int top, .int bgn, .int mst, .int (b2i ovr), .int (b2i tgr), .int lvs, .ref aMlkd, .ref aMlat, .ref aMkkd, .ref aMkat, .ref aModr, .ref aMgrp, .int its, .ref aMikd, .ref aMiat, .long hgh, .long loo, .int (b2i dfl)])), (aMst, .inl (cI, 136400, .inl st))] U.heap ∧ hk_ D cB cI U)) (vp_Sl (fun r => r = V0)) 0 0 (fun _ => False) := by
  refine Met.ofW (cc := b_MO_number) (maxL := 6) (ret := (some .long)) (by decide) rfl ?_
  intro p e s m args below meth c s₁ B0 hml hv
  obtain ⟨rfl, hP, hk⟩ := hv
  have hK := hk.1
  have hN := hk.2.1
  have hx := B0.exec
  have hb := B0.bytes
  have hr := B0.returns
  have hT : ∀ w ∈ lw_g, w.before _ s = true := fun w h => atoms_spec (ws := mw_MO_number) B0.pre w (List.mem_cons_of_mem _ h)
  have hown : s.vm.findClass R_MO = some m.cls := findClass_of_methodNamed B0.named
  have hlocks := B0.notSynchronized
  have hl := lv_entry ([.ref aM, .int p0, .int p1]) (n := 6) (Nat.le_of_ble_eq_true rfl)
  rw [lg_entry_eq]
  generalize (lg_sl ([.ref aM, .int p0, .int p1]) ++ List.replicate (6 - (lg_sl ([.ref aM, .int p0, .int p1])).length) Slot.unset).toArray = ls at hl ⊢
  have hl : lv_has ls 6 [(0, .ref aM), (1, .int p0), (2, .int p1)] := hl
  have C0 : lc_C p s m meth c _ b_MO_number 6 (some .long) R_MO lw_g := ⟨hx, hb, hml, hr, hown, hlocks, hT⟩
  refine lv_iload_n hx hb d_MO_number_0 rfl (lv_at hl 1 rfl) ?_
  refine lv_bipush (v := 8) hx hb d_MO_number_1 (by decide) ?_
  refine lv_icmp_ne (tgt := 14) hx hb d_MO_number_3 (by decide) (fun c_1 => ?_) (fun c_1 => ?_)
  · refine lv_iload_n hx hb d_MO_number_14 rfl (lv_at hl 1 rfl) ?_
    refine lv_bipush (v := 16) hx hb d_MO_number_15 (by decide) ?_
    refine lv_icmp_ne (tgt := 27) hx hb d_MO_number_17 (by decide) (fun c_2 => ?_) (fun c_2 => ?_)
    · refine lv_lconst (v := 0) hx hb d_MO_number_27 (by decide) ?_
      refine lv_lstore_n (lv' := [(3, .long 0), (0, .ref aM), (1, .int p0), (2, .int p1)]) hx hb d_MO_number_28 rfl hl (by decide) rfl (fun ls hl => ?_)
      refine lv_bipush (v := 7) hx hb d_MO_number_29 (by decide) ?_
      refine lv_istore (lv' := [(5, .int 7), (3, .long 0), (0, .ref aM), (1, .int p0), (2, .int p1)]) hx hb d_MO_number_31 hl (by decide) rfl (fun ls hl => ?_)
      refine l_MO_number_h33 C0 hs l D cB cI aM aMst aMdcs aMtot aMfrm aMsiz aMffr aMfsz aMlkd aMlat aMkkd aMkat aModr aMgrp aMikd aMiat fu thr tpd frs frt top bgn mst ovr tgr lvs its hgh loo dfl st hP hk p1  (K := (fun (x3_5 : Int64) (x5_5 : Int32) =>
          some x3_5)) ?_ fu 0 7  (by rw [tw_MO_number, if_neg c_1, if_neg c_2]) ls (lv_sub hl [2, 4, 1, 0] rfl)
      intro x3_5 x5_5 hV_5 ls hl
      refine lv_lload_n hx hb d_MO_number_60 rfl (lv_at hl 0 rfl) ?_
      exact W.lret (v := x3_5) hx hb hr (fun t ht hW => ⟨x3_5, rfl, (op_eq hs (by rw [hV_5])), ht⟩) (fun _ h => by cases h) d_MO_number_61
    · refine lv_aload_n hx hb d_MO_number_20 rfl (lv_at hl 0 rfl) ?_
      refine lv_iload_n hx hb d_MO_number_21 rfl (lv_at hl 2 rfl) ?_
      rcases h_6 : tw_MO_whole fu st p1 with _ | r_6
      · exact op_no hs (by rw [tw_MO_number, if_neg c_1, if_pos c_2, h_6, ob1_no])
      refine rd_V (val := r_6) (As := [.int p1]) (rest := []) ⟨hx, hb, hml, hown, hT⟩ (c_MO_whole l D cB cI aM aMst aMdcs aMtot aMfrm aMsiz aMffr aMfsz aMlkd aMlat aMkkd aMkat aModr aMgrp aMikd aMiat fu thr tpd frs frt top bgn mst ovr tgr lvs its hgh loo dfl st p1 r_6 h_6) (cwV 1 hT (gV_of k_1148 k_1150 kp_MO_whole k_12 kc_MO_whole) rfl rfl rfl hd_MO_whole ⟨Nat.le_of_ble_eq_true rfl, Nat.le_of_ble_eq_true rfl⟩) hk hP (q0 := 0) rfl rfl rfl rfl hl.1 rfl (Nat.le_of_ble_eq_true rfl) d_MO_number_22 ⟨Nat.zero_le _, Nat.zero_le _⟩ ?_
      refine lv_i2l (v := r_6.toInt64) hx hb d_MO_number_25 rfl ?_
      exact W.lret (v := r_6.toInt64) hx hb hr (fun t ht hW => ⟨r_6.toInt64, rfl, (op_eq hs (by rw [tw_MO_number, if_neg c_1, if_pos c_2, h_6, ob1_mk])), ht⟩) (fun _ h => by cases h) d_MO_number_26
  · refine lv_aload_n hx hb d_MO_number_6 rfl (lv_at hl 0 rfl) ?_
    refine va_get (D := D) (ci := 11) (v := .ref aMst) (C := R_MO) (T := T_MO) (N := 29) hx hb hT u_MO hown hK hP 0 rfl rfl 1 (by decide) (hT _ k_1044) (fun _ h9 => h9) rfl d_MO_number_7 ?_
    refine lv_iload_n hx hb d_MO_number_10 rfl (lv_at hl 2 rfl) ?_
    by_cases c_7 : 0 ≤ p1 ∧ p1 < 136400
    rotate_left
    · exact op_no hs (by rw [tw_MO_number, if_pos c_1, if_neg c_7])
    refine va_iald hx hb hK hP 1 1 rfl rfl (in_pp c_7.1 c_7.2 rfl) d_MO_number_11 ?_
    refine lv_i2l (v := (st p1.toNatClampNeg).toInt64) hx hb d_MO_number_12 rfl ?_
    exact W.lret (v := (st p1.toNatClampNeg).toInt64) hx hb hr (fun t ht hW => ⟨(st p1.toNatClampNeg).toInt64, rfl, (op_eq hs (by rw [tw_MO_number, if_pos c_1, if_pos c_7])), ht⟩) (fun _ h => by cases h) d_MO_number_13
set_option maxHeartbeats 4000000 in
set_option maxRecDepth 100000 in
theorem l_MO_orderBytes_h3 {p : Program} {e : Env} {s : State} {m : MethodId} {args : Array Value} {below : List Frame} {meth : Method} {c : Code} {V : Option (Int32)} {V0 : Int32} (C0 : lc_C p s m meth c args b_MO_orderBytes 6 (some .int) R_MO lw_g) (hs : V = some V0) (l : Launch) (D : va_G) (cB cI : ClassId) (aM aMst aMdcs aMtot aMfrm aMsiz aMffr aMfsz aMlkd aMlat aMkkd aMkat aModr aMgrp aMikd aMiat : Nat) (fu : Nat) (thr : Int32) (tpd : Int32) (frs : Int32) (frt : Int32) (top : Int32) (bgn : Int32) (mst : Int32) (ovr : Bool) (tgr : Bool) (lvs : Int32) (its : Int32) (hgh : Int64) (loo : Int64) (dfl : Bool) (st : Nat → Int32) (hP : va_P D vwCl [(aM, .inr (11, [.int thr, .ref aMst, .int tpd, .ref aMdcs, .ref aMtot, .ref aMfrm, .ref aMsiz, .int frs, .int frt, .ref aMffr, .ref aMfsz, .int top, .int bgn, .int mst, .int (b2i ovr), .int (b2i tgr), .int lvs, .ref aMlkd, .ref aMlat, .ref aMkkd, .ref aMkat, .ref aModr, .ref aMgrp, .int its, .ref aMikd, .ref aMiat, .long hgh, .long loo, .int (b2i dfl)])), (aMst, .inl (cI, 136400, .inl st))] s.heap) (hk : hk_ D cB cI s) (p0 : Int32) (p1 : Int32) (p2 : Int32) (p3 : Int32) {K : Int32 → Option (Int32)} (hKx : ∀ (x5 : Int32), V = K x5 → ∀ ls : Array Slot, lv_has ls 6 [(0, .ref aM), (1, .int p0), (2, .int p1), (3, .int p2), (4, .int p3), (5, .int x5)] → W p l e ({ frames := 0, cells := 0, slots := 0, locals := 0 }) s m args below meth c s.heap [] 0 0 (MQ below (vp_Si (fun r => r = V0)) args s 0 0 (fun _ => False)) (F0 m 43 ls [])) : ∀ (n : Nat) (x5 : Int32), V = tw_MO_orderBytes_h3 fu K st p0 p1 p2 p3 n x5 → ∀ ls : Array Slot, lv_has ls 6 [(0, .ref aM), (1, .int p0), (2, .int p1), (3, .int p2), (4, .int p3), (5, .int x5)] → W p l e ({ frames := 0, cells := 0, slots := 0, locals := 0 }) s m args below meth c s.heap [] 0 0 (MQ below (vp_Si (fun r => r = V0)) args s 0 0 (fun _ => False)) (F0 m 3 ls []) := by
  obtain ⟨hx, hb, hml, hr, hown, hlocks, hT⟩ := id C0
  have hK := hk.1
  have hN := hk.2.1
  intro n
  induction n with
  | zero =>
    intro x5 hV
    exact op_no hs (hV.trans rfl)
  | succ n ih =>
    intro x5 hV ls hl
    refine lv_iload hx hb d_MO_orderBytes_3 (lv_at hl 5 rfl) ?_
    refine lv_iload_n hx hb d_MO_orderBytes_5 rfl (lv_at hl 2 rfl) ?_
    refine lv_icmp_ge (tgt := 43) hx hb d_MO_orderBytes_6 (by decide) (fun c_1 => ?_) (fun c_1 => ?_)
    · exact hKx x5 (by rw [hV, tw_MO_orderBytes_h3, if_pos c_1]) ls (lv_sub hl [0, 1, 2, 3, 4, 5] rfl)
    · refine lv_iload hx hb d_MO_orderBytes_9 (lv_at hl 5 rfl) ?_
      refine lv_iload hx hb d_MO_orderBytes_11 (lv_at hl 4 rfl) ?_
      refine lv_icmp_ge (tgt := 43) hx hb d_MO_orderBytes_13 (by decide) (fun c_2 => ?_) (fun c_2 => ?_)
      · exact hKx x5 (by rw [hV, tw_MO_orderBytes_h3, if_neg c_1, if_pos c_2]) ls (lv_sub hl [0, 1, 2, 3, 4, 5] rfl)
      · refine lv_aload_n hx hb d_MO_orderBytes_16 rfl (lv_at hl 0 rfl) ?_
        refine va_get (D := D) (ci := 11) (v := .ref aMst) (C := R_MO) (T := T_MO) (N := 29) hx hb hT u_MO hown hK hP 0 rfl rfl 1 (by decide) (hT _ k_1044) (fun _ h9 => h9) rfl d_MO_orderBytes_17 ?_
        refine lv_iload_n hx hb d_MO_orderBytes_20 rfl (lv_at hl 1 rfl) ?_
        refine lv_iload hx hb d_MO_orderBytes_21 (lv_at hl 5 rfl) ?_
        refine lv_iadd hx hb d_MO_orderBytes_23 ?_
        by_cases c_3 : 0 ≤ (p0 + x5) ∧ (p0 + x5) < 136400
        rotate_left
        · exact op_no hs (by rw [hV, tw_MO_orderBytes_h3, if_neg c_1, if_neg c_2, if_neg c_3])
        refine va_iald hx hb hK hP 1 1 rfl rfl (in_pp c_3.1 c_3.2 rfl) d_MO_orderBytes_24 ?_
        refine lv_aload_n hx hb d_MO_orderBytes_25 rfl (lv_at hl 0 rfl) ?_
        refine va_get (D := D) (ci := 11) (v := .ref aMst) (C := R_MO) (T := T_MO) (N := 29) hx hb hT u_MO hown hK hP 0 rfl rfl 1 (by decide) (hT _ k_1044) (fun _ h9 => h9) rfl d_MO_orderBytes_26 ?_
        refine lv_iload_n hx hb d_MO_orderBytes_29 rfl (lv_at hl 3 rfl) ?_
        refine lv_iload hx hb d_MO_orderBytes_30 (lv_at hl 5 rfl) ?_
        refine lv_iadd hx hb d_MO_orderBytes_32 ?_
        by_cases c_4 : 0 ≤ (p2 + x5) ∧ (p2 + x5) < 136400
        rotate_left
        · exact op_no hs (by rw [hV, tw_MO_orderBytes_h3, if_neg c_1, if_neg c_2, if_pos c_3, if_neg c_4])
        refine va_iald hx hb hK hP 1 1 rfl rfl (in_pp c_4.1 c_4.2 rfl) d_MO_orderBytes_33 ?_
        refine lv_icmp_ne (tgt := 43) hx hb d_MO_orderBytes_34 (by decide) (fun c_5 => ?_) (fun c_5 => ?_)
        · exact hKx x5 (by rw [hV, tw_MO_orderBytes_h3, if_neg c_1, if_neg c_2, if_pos c_3, if_pos c_4, if_neg c_5]) ls (lv_sub hl [0, 1, 2, 3, 4, 5] rfl)
        · refine lv_iinc (v := x5 + 1) (lv' := [(5, .int (x5 + 1)), (0, .ref aM), (1, .int p0), (2, .int p1), (3, .int p2), (4, .int p3)]) hx hb d_MO_orderBytes_37 hl (k := 5) rfl rfl (by decide) rfl (fun ls hl => ?_)
          refine lv_goto (tgt := 3) hx hb d_MO_orderBytes_40 (by decide) ?_
          exact ih (x5 + 1) (by rw [hV, tw_MO_orderBytes_h3, if_neg c_1, if_neg c_2, if_pos c_3, if_pos c_4, if_pos c_5]) ls (lv_sub hl [1, 2, 3, 4, 5, 0] rfl)
set_option maxHeartbeats 4000000 in
set_option maxRecDepth 100000 in
theorem c_MO_orderBytes (l : Launch) (D : va_G) (cB cI : ClassId) (aM aMst aMdcs aMtot aMfrm aMsiz aMffr aMfsz aMlkd aMlat aMkkd aMkat aModr aMgrp aMikd aMiat : Nat) (fu : Nat) (thr : Int32) (tpd : Int32) (frs : Int32) (frt : Int32) (top : Int32) (bgn : Int32) (mst : Int32) (ovr : Bool) (tgr : Bool) (lvs : Int32) (its : Int32) (hgh : Int64) (loo : Int64) (dfl : Bool) (st : Nat → Int32) (p0 : Int32) (p1 : Int32) (p2 : Int32) (p3 : Int32) (V0 : Int32) (hs : tw_MO_orderBytes fu st p0 p1 p2 p3 = some V0) : Met l y_MO_orderBytes mw_MO_orderBytes { frames := 0, cells := 0, slots := 0, locals := 0 } (va_Pc [.ref aM, .int p0, .int p1, .int p2, .int p3] (fun U => va_P D vwCl [(aM, .inr (11, [.int thr, .ref aMst, .int tpd, .ref aMdcs, .ref aMtot, .ref aMfrm, .ref aMsiz, .int frs, .int frt, .ref aMffr, .ref aMfsz, .int top, .int bgn, .int mst, .int (b2i ovr), .int (b2i tgr), .int lvs, .ref aMlkd, .ref aMlat, .ref aMkkd, .ref aMkat, .ref aModr, .ref aMgrp, .int its, .ref aMikd, .ref aMiat, .long hgh, .long loo, .int (b2i dfl)])), (aMst, .inl (cI, 136400, .inl st))] U.heap ∧ hk_ D cB cI U)) (vp_Si (fun r => r = V0)) 0 0 (fun _ => False) := by
  refine Met.ofW (cc := b_MO_orderBytes) (maxL := 6) (ret := (some .int)) (by decide) rfl ?_
  intro p e s m args below meth c s₁ B0 hml hv
  obtain ⟨rfl, hP, hk⟩ := hv
  have hK := hk.1
  have hN := hk.2.1
  have hx := B0.exec
  have hb := B0.bytes
  have hr := B0.returns
  have hT : ∀ w ∈ lw_g, w.before _ s = true := fun w h => atoms_spec (ws := mw_MO_orderBytes) B0.pre w (List.mem_cons_of_mem _ h)
  have hown : s.vm.findClass R_MO = some m.cls := findClass_of_methodNamed B0.named
  have hlocks := B0.notSynchronized
  have hl := lv_entry ([.ref aM, .int p0, .int p1, .int p2, .int p3]) (n := 6) (Nat.le_of_ble_eq_true rfl)
  rw [lg_entry_eq]
  generalize (lg_sl ([.ref aM, .int p0, .int p1, .int p2, .int p3]) ++ List.replicate (6 - (lg_sl ([.ref aM, .int p0, .int p1, .int p2, .int p3])).length) Slot.unset).toArray = ls at hl ⊢
  have hl : lv_has ls 6 [(0, .ref aM), (1, .int p0), (2, .int p1), (3, .int p2), (4, .int p3)] := hl
  have C0 : lc_C p s m meth c _ b_MO_orderBytes 6 (some .int) R_MO lw_g := ⟨hx, hb, hml, hr, hown, hlocks, hT⟩
  refine lv_iconst (v := 0) hx hb d_MO_orderBytes_0 (by decide) ?_
  refine lv_istore (lv' := [(5, .int 0), (0, .ref aM), (1, .int p0), (2, .int p1), (3, .int p2), (4, .int p3)]) hx hb d_MO_orderBytes_1 hl (by decide) rfl (fun ls hl => ?_)
  refine l_MO_orderBytes_h3 C0 hs l D cB cI aM aMst aMdcs aMtot aMfrm aMsiz aMffr aMfsz aMlkd aMlat aMkkd aMkat aModr aMgrp aMikd aMiat fu thr tpd frs frt top bgn mst ovr tgr lvs its hgh loo dfl st hP hk p0 p1 p2 p3  (K := (fun (x5_6 : Int32) =>
      if p1 ≤ x5_6 then
        if p3 ≤ p1 then
          if p1 ≤ p3 then
            some 0
          else
            some 1
        else
          some (-1)
      else
        if p3 ≤ x5_6 then
          if p3 ≤ p1 then
            if p1 ≤ p3 then
              some 0
            else
              some 1
          else
            some (-1)
        else
          if 0 ≤ (p0 + x5_6) ∧ (p0 + x5_6) < 136400 then
            if 0 ≤ (p2 + x5_6) ∧ (p2 + x5_6) < 136400 then
              if (st (p2 + x5_6).toNatClampNeg) ≤ (st (p0 + x5_6).toNatClampNeg) then
                some 1
              else
                some (-1)
            else
              none
          else
            none)) ?_ fu 0  (by rw [tw_MO_orderBytes]) ls (lv_sub hl [1, 2, 3, 4, 5, 0] rfl)
  intro x5_6 hV_6 ls hl
  refine lv_iload hx hb d_MO_orderBytes_43 (lv_at hl 5 rfl) ?_
  refine lv_iload_n hx hb d_MO_orderBytes_45 rfl (lv_at hl 2 rfl) ?_
  refine lv_icmp_ge (tgt := 83) hx hb d_MO_orderBytes_46 (by decide) (fun c_7 => ?_) (fun c_7 => ?_)
  · refine lv_iload_n hx hb d_MO_orderBytes_83 rfl (lv_at hl 2 rfl) ?_
    refine lv_iload hx hb d_MO_orderBytes_84 (lv_at hl 4 rfl) ?_
    refine lv_icmp_ge (tgt := 93) hx hb d_MO_orderBytes_86 (by decide) (fun c_8 => ?_) (fun c_8 => ?_)
    · refine lv_iload_n hx hb d_MO_orderBytes_93 rfl (lv_at hl 2 rfl) ?_
      refine lv_iload hx hb d_MO_orderBytes_94 (lv_at hl 4 rfl) ?_
      refine lv_icmp_le (tgt := 103) hx hb d_MO_orderBytes_96 (by decide) (fun c_9 => ?_) (fun c_9 => ?_)
      · refine lv_iconst (v := 0) hx hb d_MO_orderBytes_103 (by decide) ?_
        exact W.iret (v := 0) hx hb hr (fun t ht hW => ⟨0, rfl, (op_eq hs (by rw [hV_6, if_pos c_7, if_pos c_8, if_pos c_9])), ht⟩) (fun _ h => by cases h) d_MO_orderBytes_104
      · refine lv_iconst (v := 1) hx hb d_MO_orderBytes_99 (by decide) ?_
        refine lv_goto (tgt := 104) hx hb d_MO_orderBytes_100 (by decide) ?_
        exact W.iret (v := 1) hx hb hr (fun t ht hW => ⟨1, rfl, (op_eq hs (by rw [hV_6, if_pos c_7, if_pos c_8, if_neg c_9])), ht⟩) (fun _ h => by cases h) d_MO_orderBytes_104
    · refine lv_iconst (v := -1) hx hb d_MO_orderBytes_89 (by decide) ?_
      refine lv_goto (tgt := 104) hx hb d_MO_orderBytes_90 (by decide) ?_
      exact W.iret (v := (-1)) hx hb hr (fun t ht hW => ⟨(-1), rfl, (op_eq hs (by rw [hV_6, if_pos c_7, if_neg c_8])), ht⟩) (fun _ h => by cases h) d_MO_orderBytes_104
  · refine lv_iload hx hb d_MO_orderBytes_49 (lv_at hl 5 rfl) ?_
    refine lv_iload hx hb d_MO_orderBytes_51 (lv_at hl 4 rfl) ?_
    refine lv_icmp_ge (tgt := 83) hx hb d_MO_orderBytes_53 (by decide) (fun c_10 => ?_) (fun c_10 => ?_)
    · refine lv_iload_n hx hb d_MO_orderBytes_83 rfl (lv_at hl 2 rfl) ?_
      refine lv_iload hx hb d_MO_orderBytes_84 (lv_at hl 4 rfl) ?_
      refine lv_icmp_ge (tgt := 93) hx hb d_MO_orderBytes_86 (by decide) (fun c_11 => ?_) (fun c_11 => ?_)
      · refine lv_iload_n hx hb d_MO_orderBytes_93 rfl (lv_at hl 2 rfl) ?_
        refine lv_iload hx hb d_MO_orderBytes_94 (lv_at hl 4 rfl) ?_
        refine lv_icmp_le (tgt := 103) hx hb d_MO_orderBytes_96 (by decide) (fun c_12 => ?_) (fun c_12 => ?_)
        · refine lv_iconst (v := 0) hx hb d_MO_orderBytes_103 (by decide) ?_
          exact W.iret (v := 0) hx hb hr (fun t ht hW => ⟨0, rfl, (op_eq hs (by rw [hV_6, if_neg c_7, if_pos c_10, if_pos c_11, if_pos c_12])), ht⟩) (fun _ h => by cases h) d_MO_orderBytes_104
        · refine lv_iconst (v := 1) hx hb d_MO_orderBytes_99 (by decide) ?_
          refine lv_goto (tgt := 104) hx hb d_MO_orderBytes_100 (by decide) ?_
          exact W.iret (v := 1) hx hb hr (fun t ht hW => ⟨1, rfl, (op_eq hs (by rw [hV_6, if_neg c_7, if_pos c_10, if_pos c_11, if_neg c_12])), ht⟩) (fun _ h => by cases h) d_MO_orderBytes_104
      · refine lv_iconst (v := -1) hx hb d_MO_orderBytes_89 (by decide) ?_
        refine lv_goto (tgt := 104) hx hb d_MO_orderBytes_90 (by decide) ?_
        exact W.iret (v := (-1)) hx hb hr (fun t ht hW => ⟨(-1), rfl, (op_eq hs (by rw [hV_6, if_neg c_7, if_pos c_10, if_neg c_11])), ht⟩) (fun _ h => by cases h) d_MO_orderBytes_104
    · refine lv_aload_n hx hb d_MO_orderBytes_56 rfl (lv_at hl 0 rfl) ?_
      refine va_get (D := D) (ci := 11) (v := .ref aMst) (C := R_MO) (T := T_MO) (N := 29) hx hb hT u_MO hown hK hP 0 rfl rfl 1 (by decide) (hT _ k_1044) (fun _ h9 => h9) rfl d_MO_orderBytes_57 ?_
      refine lv_iload_n hx hb d_MO_orderBytes_60 rfl (lv_at hl 1 rfl) ?_
      refine lv_iload hx hb d_MO_orderBytes_61 (lv_at hl 5 rfl) ?_
      refine lv_iadd hx hb d_MO_orderBytes_63 ?_
      by_cases c_13 : 0 ≤ (p0 + x5_6) ∧ (p0 + x5_6) < 136400
      rotate_left
      · exact op_no hs (by rw [hV_6, if_neg c_7, if_neg c_10, if_neg c_13])
      refine va_iald hx hb hK hP 1 1 rfl rfl (in_pp c_13.1 c_13.2 rfl) d_MO_orderBytes_64 ?_
      refine lv_aload_n hx hb d_MO_orderBytes_65 rfl (lv_at hl 0 rfl) ?_
      refine va_get (D := D) (ci := 11) (v := .ref aMst) (C := R_MO) (T := T_MO) (N := 29) hx hb hT u_MO hown hK hP 0 rfl rfl 1 (by decide) (hT _ k_1044) (fun _ h9 => h9) rfl d_MO_orderBytes_66 ?_
      refine lv_iload_n hx hb d_MO_orderBytes_69 rfl (lv_at hl 3 rfl) ?_
      refine lv_iload hx hb d_MO_orderBytes_70 (lv_at hl 5 rfl) ?_
      refine lv_iadd hx hb d_MO_orderBytes_72 ?_
      by_cases c_14 : 0 ≤ (p2 + x5_6) ∧ (p2 + x5_6) < 136400
      rotate_left
      · exact op_no hs (by rw [hV_6, if_neg c_7, if_neg c_10, if_pos c_13, if_neg c_14])
      refine va_iald hx hb hK hP 1 1 rfl rfl (in_pp c_14.1 c_14.2 rfl) d_MO_orderBytes_73 ?_
      refine lv_icmp_ge (tgt := 81) hx hb d_MO_orderBytes_74 (by decide) (fun c_15 => ?_) (fun c_15 => ?_)
      · refine lv_iconst (v := 1) hx hb d_MO_orderBytes_81 (by decide) ?_
        exact W.iret (v := 1) hx hb hr (fun t ht hW => ⟨1, rfl, (op_eq hs (by rw [hV_6, if_neg c_7, if_neg c_10, if_pos c_13, if_pos c_14, if_pos c_15])), ht⟩) (fun _ h => by cases h) d_MO_orderBytes_82
      · refine lv_iconst (v := -1) hx hb d_MO_orderBytes_77 (by decide) ?_
        refine lv_goto (tgt := 82) hx hb d_MO_orderBytes_78 (by decide) ?_
        exact W.iret (v := (-1)) hx hb hr (fun t ht hW => ⟨(-1), rfl, (op_eq hs (by rw [hV_6, if_neg c_7, if_neg c_10, if_pos c_13, if_pos c_14, if_neg c_15])), ht⟩) (fun _ h => by cases h) d_MO_orderBytes_82
set_option maxHeartbeats 4000000 in
set_option maxRecDepth 100000 in
theorem l_MO_nextStep_h2 {p : Program} {e : Env} {s : State} {m : MethodId} {args : Array Value} {below : List Frame} {meth : Method} {c : Code} {V : Option (Int32)} {V0 : Int32} (C0 : lc_C p s m meth c args b_MO_nextStep 3 (some .int) R_MO lw_g) (hs : V = some V0) (l : Launch) (D : va_G) (cB cI : ClassId) (aM aMst aMdcs aMtot aMfrm aMsiz aMffr aMfsz aMlkd aMlat aMkkd aMkat aModr aMgrp aMikd aMiat : Nat) (fu : Nat) (thr : Int32) (tpd : Int32) (frs : Int32) (frt : Int32) (top : Int32) (bgn : Int32) (mst : Int32) (ovr : Bool) (tgr : Bool) (lvs : Int32) (its : Int32) (hgh : Int64) (loo : Int64) (dfl : Bool) (st : Nat → Int32) (hP : va_P D vwCl [(aM, .inr (11, [.int thr, .ref aMst, .int tpd, .ref aMdcs, .ref aMtot, .ref aMfrm, .ref aMsiz, .int frs, .int frt, .ref aMffr, .ref aMfsz, .int top, .int bgn, .int mst, .int (b2i ovr), .int (b2i tgr), .int lvs, .ref aMlkd, .ref aMlat, .ref aMkkd, .ref aMkat, .ref aModr, .ref aMgrp, .int its, .ref aMikd, .ref aMiat, .long hgh, .long loo, .int (b2i dfl)])), (aMst, .inl (cI, 136400, .inl st))] s.heap) (hk : hk_ D cB cI s)  {K : Int32 → Option (Int32)} (hKx : ∀ (x2 : Int32), V = K x2 → ∀ ls : Array Slot, lv_has ls 3 [(0, .ref aM), (2, .int x2)] → W p l e ({ frames := 0, cells := 0, slots := 0, locals := 0 }) s m args below meth c s.heap [] 0 0 (MQ below (vp_Si (fun r => r = V0)) args s 0 0 (fun _ => False)) (F0 m 28 ls [])) : ∀ (n : Nat) (x2 : Int32), V = tw_MO_nextStep_h2 fu K st n x2 → ∀ ls : Array Slot, lv_has ls 3 [(0, .ref aM), (2, .int x2)] → W p l e ({ frames := 0, cells := 0, slots := 0, locals := 0 }) s m args below meth c s.heap [] 0 0 (MQ below (vp_Si (fun r => r = V0)) args s 0 0 (fun _ => False)) (F0 m 2 ls []) := by
  obtain ⟨hx, hb, hml, hr, hown, hlocks, hT⟩ := id C0
  have hK := hk.1
  have hN := hk.2.1
  intro n
  induction n with
  | zero =>
    intro x2 hV
    exact op_no hs (hV.trans rfl)
  | succ n ih =>
    intro x2 hV ls hl
    refine lv_aload_n hx hb d_MO_nextStep_2 rfl (lv_at hl 0 rfl) ?_
    refine va_get (D := D) (ci := 11) (v := .ref aMst) (C := R_MO) (T := T_MO) (N := 29) hx hb hT u_MO hown hK hP 0 rfl rfl 1 (by decide) (hT _ k_1044) (fun _ h9 => h9) rfl d_MO_nextStep_3 ?_
    refine lv_iload_n hx hb d_MO_nextStep_6 rfl (lv_at hl 1 rfl) ?_
    by_cases c_1 : 0 ≤ x2 ∧ x2 < 136400
    rotate_left
    · exact op_no hs (by rw [hV, tw_MO_nextStep_h2, if_neg c_1])
    refine va_iald hx hb hK hP 1 1 rfl rfl (in_pp c_1.1 c_1.2 rfl) d_MO_nextStep_7 ?_
    refine lv_if_eq (tgt := 28) hx hb d_MO_nextStep_8 (by decide) (fun c_2 => ?_) (fun c_2 => ?_)
    · exact hKx x2 (by rw [hV, tw_MO_nextStep_h2, if_pos c_1, if_pos c_2]) ls (lv_sub hl [0, 1] rfl)
    · refine lv_aload_n hx hb d_MO_nextStep_11 rfl (lv_at hl 0 rfl) ?_
      refine va_get (D := D) (ci := 11) (v := .ref aMst) (C := R_MO) (T := T_MO) (N := 29) hx hb hT u_MO hown hK hP 0 rfl rfl 1 (by decide) (hT _ k_1044) (fun _ h9 => h9) rfl d_MO_nextStep_12 ?_
      refine lv_iload_n hx hb d_MO_nextStep_15 rfl (lv_at hl 1 rfl) ?_
      refine va_iald hx hb hK hP 1 1 rfl rfl (in_pp c_1.1 c_1.2 rfl) d_MO_nextStep_16 ?_
      refine lv_bipush (v := 46) hx hb d_MO_nextStep_17 (by decide) ?_
      refine lv_icmp_eq (tgt := 28) hx hb d_MO_nextStep_19 (by decide) (fun c_3 => ?_) (fun c_3 => ?_)
      · exact hKx x2 (by rw [hV, tw_MO_nextStep_h2, if_pos c_1, if_neg c_2, if_pos c_3]) ls (lv_sub hl [0, 1] rfl)
      · refine lv_iinc (v := x2 + 1) (lv' := [(2, .int (x2 + 1)), (0, .ref aM)]) hx hb d_MO_nextStep_22 hl (k := 1) rfl rfl (by decide) rfl (fun ls hl => ?_)
        refine lv_goto (tgt := 2) hx hb d_MO_nextStep_25 (by decide) ?_
        exact ih (x2 + 1) (by rw [hV, tw_MO_nextStep_h2, if_pos c_1, if_neg c_2, if_neg c_3]) ls (lv_sub hl [1, 0] rfl)
set_option maxHeartbeats 4000000 in
set_option maxRecDepth 100000 in
theorem c_MO_nextStep (l : Launch) (D : va_G) (cB cI : ClassId) (aM aMst aMdcs aMtot aMfrm aMsiz aMffr aMfsz aMlkd aMlat aMkkd aMkat aModr aMgrp aMikd aMiat : Nat) (fu : Nat) (thr : Int32) (tpd : Int32) (frs : Int32) (frt : Int32) (top : Int32) (bgn : Int32) (mst : Int32) (ovr : Bool) (tgr : Bool) (lvs : Int32) (its : Int32) (hgh : Int64) (loo : Int64) (dfl : Bool) (st : Nat → Int32) (p0 : Int32) (V0 : Int32) (hs : tw_MO_nextStep fu st p0 = some V0) : Met l y_MO_nextStep mw_MO_nextStep { frames := 0, cells := 0, slots := 0, locals := 0 } (va_Pc [.ref aM, .int p0] (fun U => va_P D vwCl [(aM, .inr (11, [.int thr, .ref aMst, .int tpd, .ref aMdcs, .ref aMtot, .ref aMfrm, .ref aMsiz, .int frs, .int frt, .ref aMffr, .ref aMfsz, .int top, .int bgn, .int mst, .int (b2i ovr), .int (b2i tgr), .int lvs, .ref aMlkd, .ref aMlat, .ref aMkkd, .ref aMkat, .ref aModr, .ref aMgrp, .int its, .ref aMikd, .ref aMiat, .long hgh, .long loo, .int (b2i dfl)])), (aMst, .inl (cI, 136400, .inl st))] U.heap ∧ hk_ D cB cI U)) (vp_Si (fun r => r = V0)) 0 0 (fun _ => False) := by
  refine Met.ofW (cc := b_MO_nextStep) (maxL := 3) (ret := (some .int)) (by decide) rfl ?_
  intro p e s m args below meth c s₁ B0 hml hv
  obtain ⟨rfl, hP, hk⟩ := hv
  have hK := hk.1
  have hN := hk.2.1
  have hx := B0.exec
  have hb := B0.bytes
  have hr := B0.returns
  have hT : ∀ w ∈ lw_g, w.before _ s = true := fun w h => atoms_spec (ws := mw_MO_nextStep) B0.pre w (List.mem_cons_of_mem _ h)
  have hown : s.vm.findClass R_MO = some m.cls := findClass_of_methodNamed B0.named
  have hlocks := B0.notSynchronized
  have hl := lv_entry ([.ref aM, .int p0]) (n := 3) (Nat.le_of_ble_eq_true rfl)
  rw [lg_entry_eq]
  generalize (lg_sl ([.ref aM, .int p0]) ++ List.replicate (3 - (lg_sl ([.ref aM, .int p0])).length) Slot.unset).toArray = ls at hl ⊢
  have hl : lv_has ls 3 [(0, .ref aM), (1, .int p0)] := hl
  have C0 : lc_C p s m meth c _ b_MO_nextStep 3 (some .int) R_MO lw_g := ⟨hx, hb, hml, hr, hown, hlocks, hT⟩
  refine lv_iload_n hx hb d_MO_nextStep_0 rfl (lv_at hl 1 rfl) ?_
  refine lv_istore_n (lv' := [(2, .int p0), (0, .ref aM), (1, .int p0)]) hx hb d_MO_nextStep_1 rfl hl (by decide) rfl (fun ls hl => ?_)
  refine l_MO_nextStep_h2 C0 hs l D cB cI aM aMst aMdcs aMtot aMfrm aMsiz aMffr aMfsz aMlkd aMlat aMkkd aMkat aModr aMgrp aMikd aMiat fu thr tpd frs frt top bgn mst ovr tgr lvs its hgh loo dfl st hP hk   (K := (fun (x2_4 : Int32) =>
      if 0 ≤ x2_4 ∧ x2_4 < 136400 then
        if (st x2_4.toNatClampNeg) = 0 then
          some 0
        else
          some (x2_4 + 1)
      else
        none)) ?_ fu p0  (by rw [tw_MO_nextStep]) ls (lv_sub hl [1, 0] rfl)
  intro x2_4 hV_4 ls hl
  refine lv_aload_n hx hb d_MO_nextStep_28 rfl (lv_at hl 0 rfl) ?_
  refine va_get (D := D) (ci := 11) (v := .ref aMst) (C := R_MO) (T := T_MO) (N := 29) hx hb hT u_MO hown hK hP 0 rfl rfl 1 (by decide) (hT _ k_1044) (fun _ h9 => h9) rfl d_MO_nextStep_29 ?_
  refine lv_iload_n hx hb d_MO_nextStep_32 rfl (lv_at hl 1 rfl) ?_
  by_cases c_5 : 0 ≤ x2_4 ∧ x2_4 < 136400
  rotate_left
  · exact op_no hs (by rw [hV_4, if_neg c_5])
  refine va_iald hx hb hK hP 1 1 rfl rfl (in_pp c_5.1 c_5.2 rfl) d_MO_nextStep_33 ?_
  refine lv_if_ne (tgt := 41) hx hb d_MO_nextStep_34 (by decide) (fun c_6 => ?_) (fun c_6 => ?_)
  · refine lv_iload_n hx hb d_MO_nextStep_41 rfl (lv_at hl 1 rfl) ?_
    refine lv_iconst (v := 1) hx hb d_MO_nextStep_42 (by decide) ?_
    refine lv_iadd hx hb d_MO_nextStep_43 ?_
    exact W.iret (v := x2_4 + 1) hx hb hr (fun t ht hW => ⟨x2_4 + 1, rfl, (op_eq hs (by rw [hV_4, if_pos c_5, if_neg c_6])), ht⟩) (fun _ h => by cases h) d_MO_nextStep_44
  · refine lv_iconst (v := 0) hx hb d_MO_nextStep_37 (by decide) ?_
    refine lv_goto (tgt := 44) hx hb d_MO_nextStep_38 (by decide) ?_
    exact W.iret (v := 0) hx hb hr (fun t ht hW => ⟨0, rfl, (op_eq hs (by rw [hV_4, if_pos c_5, if_pos c_6])), ht⟩) (fun _ h => by cases h) d_MO_nextStep_44
set_option maxHeartbeats 4000000 in
set_option maxRecDepth 100000 in
theorem l_MO_isStep_h2 {p : Program} {e : Env} {s : State} {m : MethodId} {args : Array Value} {below : List Frame} {meth : Method} {c : Code} {V : Option (Bool)} {V0 : Bool} (C0 : lc_C p s m meth c args b_MO_isStep 4 (some .boolean) R_MO lw_g) (hs : V = some V0) (l : Launch) (D : va_G) (cB cI : ClassId) (aM aMst aMdcs aMtot aMfrm aMsiz aMffr aMfsz aMlkd aMlat aMkkd aMkat aModr aMgrp aMikd aMiat : Nat) (fu : Nat) (thr : Int32) (tpd : Int32) (frs : Int32) (frt : Int32) (top : Int32) (bgn : Int32) (mst : Int32) (ovr : Bool) (tgr : Bool) (lvs : Int32) (its : Int32) (hgh : Int64) (loo : Int64) (dfl : Bool) (st : Nat → Int32) (hP : va_P D vwCl [(aM, .inr (11, [.int thr, .ref aMst, .int tpd, .ref aMdcs, .ref aMtot, .ref aMfrm, .ref aMsiz, .int frs, .int frt, .ref aMffr, .ref aMfsz, .int top, .int bgn, .int mst, .int (b2i ovr), .int (b2i tgr), .int lvs, .ref aMlkd, .ref aMlat, .ref aMkkd, .ref aMkat, .ref aModr, .ref aMgrp, .int its, .ref aMikd, .ref aMiat, .long hgh, .long loo, .int (b2i dfl)])), (aMst, .inl (cI, 136400, .inl st))] s.heap) (hk : hk_ D cB cI s) (p0 : Int32) (p1 : Int32) {K : Int32 → Option (Bool)} (hKx : ∀ (x3 : Int32), V = K x3 → ∀ ls : Array Slot, lv_has ls 4 [(0, .ref aM), (1, .int p0), (2, .int p1), (3, .int x3)] → W p l e ({ frames := 0, cells := 0, slots := 0, locals := 0 }) s m args below meth c s.heap [] 0 0 (MQ below (vp_Si (fun r => r = b2i V0)) args s 0 0 (fun _ => False)) (F0 m 55 ls [])) : ∀ (n : Nat) (x3 : Int32), V = tw_MO_isStep_h2 fu K st p0 p1 n x3 → ∀ ls : Array Slot, lv_has ls 4 [(0, .ref aM), (1, .int p0), (2, .int p1), (3, .int x3)] → W p l e ({ frames := 0, cells := 0, slots := 0, locals := 0 }) s m args below meth c s.heap [] 0 0 (MQ below (vp_Si (fun r => r = b2i V0)) args s 0 0 (fun _ => False)) (F0 m 2 ls []) := by
  obtain ⟨hx, hb, hml, hr, hown, hlocks, hT⟩ := id C0
  have hK := hk.1
  have hN := hk.2.1
  intro n
  induction n with
  | zero =>
    intro x3 hV
    exact op_no hs (hV.trans rfl)
  | succ n ih =>
    intro x3 hV ls hl
    refine lv_aload_n hx hb d_MO_isStep_2 rfl (lv_at hl 0 rfl) ?_
    refine va_get (D := D) (ci := 11) (v := .ref aMst) (C := R_MO) (T := T_MO) (N := 29) hx hb hT u_MO hown hK hP 0 rfl rfl 1 (by decide) (hT _ k_1044) (fun _ h9 => h9) rfl d_MO_isStep_3 ?_
    refine lv_iload_n hx hb d_MO_isStep_6 rfl (lv_at hl 2 rfl) ?_
    refine lv_iconst (v := 1) hx hb d_MO_isStep_7 (by decide) ?_
    refine lv_iadd hx hb d_MO_isStep_8 ?_
    refine lv_iload_n hx hb d_MO_isStep_9 rfl (lv_at hl 3 rfl) ?_
    refine lv_iadd hx hb d_MO_isStep_10 ?_
    by_cases c_1 : 0 ≤ ((p1 + 1) + x3) ∧ ((p1 + 1) + x3) < 136400
    rotate_left
    · exact op_no hs (by rw [hV, tw_MO_isStep_h2, if_neg c_1])
    refine va_iald hx hb hK hP 1 1 rfl rfl (in_pp c_1.1 c_1.2 rfl) d_MO_isStep_11 ?_
    refine lv_if_eq (tgt := 55) hx hb d_MO_isStep_12 (by decide) (fun c_2 => ?_) (fun c_2 => ?_)
    · exact hKx x3 (by rw [hV, tw_MO_isStep_h2, if_pos c_1, if_pos c_2]) ls (lv_sub hl [0, 1, 2, 3] rfl)
    · refine lv_aload_n hx hb d_MO_isStep_15 rfl (lv_at hl 0 rfl) ?_
      refine va_get (D := D) (ci := 11) (v := .ref aMst) (C := R_MO) (T := T_MO) (N := 29) hx hb hT u_MO hown hK hP 0 rfl rfl 1 (by decide) (hT _ k_1044) (fun _ h9 => h9) rfl d_MO_isStep_16 ?_
      refine lv_iload_n hx hb d_MO_isStep_19 rfl (lv_at hl 2 rfl) ?_
      refine lv_iconst (v := 1) hx hb d_MO_isStep_20 (by decide) ?_
      refine lv_iadd hx hb d_MO_isStep_21 ?_
      refine lv_iload_n hx hb d_MO_isStep_22 rfl (lv_at hl 3 rfl) ?_
      refine lv_iadd hx hb d_MO_isStep_23 ?_
      refine va_iald hx hb hK hP 1 1 rfl rfl (in_pp c_1.1 c_1.2 rfl) d_MO_isStep_24 ?_
      refine lv_aload_n hx hb d_MO_isStep_25 rfl (lv_at hl 0 rfl) ?_
      refine va_get (D := D) (ci := 11) (v := .ref aMst) (C := R_MO) (T := T_MO) (N := 29) hx hb hT u_MO hown hK hP 0 rfl rfl 1 (by decide) (hT _ k_1044) (fun _ h9 => h9) rfl d_MO_isStep_26 ?_
      refine lv_iload_n hx hb d_MO_isStep_29 rfl (lv_at hl 1 rfl) ?_
      refine lv_iload_n hx hb d_MO_isStep_30 rfl (lv_at hl 3 rfl) ?_
      refine lv_iadd hx hb d_MO_isStep_31 ?_
      by_cases c_3 : 0 ≤ (p0 + x3) ∧ (p0 + x3) < 136400
      rotate_left
      · exact op_no hs (by rw [hV, tw_MO_isStep_h2, if_pos c_1, if_neg c_2, if_neg c_3])
      refine va_iald hx hb hK hP 1 1 rfl rfl (in_pp c_3.1 c_3.2 rfl) d_MO_isStep_32 ?_
      refine lv_icmp_ne (tgt := 55) hx hb d_MO_isStep_33 (by decide) (fun c_4 => ?_) (fun c_4 => ?_)
      · exact hKx x3 (by rw [hV, tw_MO_isStep_h2, if_pos c_1, if_neg c_2, if_pos c_3, if_neg c_4]) ls (lv_sub hl [0, 1, 2, 3] rfl)
      · refine lv_aload_n hx hb d_MO_isStep_36 rfl (lv_at hl 0 rfl) ?_
        refine va_get (D := D) (ci := 11) (v := .ref aMst) (C := R_MO) (T := T_MO) (N := 29) hx hb hT u_MO hown hK hP 0 rfl rfl 1 (by decide) (hT _ k_1044) (fun _ h9 => h9) rfl d_MO_isStep_37 ?_
        refine lv_iload_n hx hb d_MO_isStep_40 rfl (lv_at hl 1 rfl) ?_
        refine lv_iload_n hx hb d_MO_isStep_41 rfl (lv_at hl 3 rfl) ?_
        refine lv_iadd hx hb d_MO_isStep_42 ?_
        refine va_iald hx hb hK hP 1 1 rfl rfl (in_pp c_3.1 c_3.2 rfl) d_MO_isStep_43 ?_
        refine lv_bipush (v := 46) hx hb d_MO_isStep_44 (by decide) ?_
        refine lv_icmp_eq (tgt := 55) hx hb d_MO_isStep_46 (by decide) (fun c_5 => ?_) (fun c_5 => ?_)
        · exact hKx x3 (by rw [hV, tw_MO_isStep_h2, if_pos c_1, if_neg c_2, if_pos c_3, if_pos c_4, if_pos c_5]) ls (lv_sub hl [0, 1, 2, 3] rfl)
        · refine lv_iinc (v := x3 + 1) (lv' := [(3, .int (x3 + 1)), (0, .ref aM), (1, .int p0), (2, .int p1)]) hx hb d_MO_isStep_49 hl (k := 3) rfl rfl (by decide) rfl (fun ls hl => ?_)
          refine lv_goto (tgt := 2) hx hb d_MO_isStep_52 (by decide) ?_
          exact ih (x3 + 1) (by rw [hV, tw_MO_isStep_h2, if_pos c_1, if_neg c_2, if_pos c_3, if_pos c_4, if_neg c_5]) ls (lv_sub hl [1, 2, 3, 0] rfl)
set_option maxHeartbeats 4000000 in
set_option maxRecDepth 100000 in
theorem c_MO_isStep (l : Launch) (D : va_G) (cB cI : ClassId) (aM aMst aMdcs aMtot aMfrm aMsiz aMffr aMfsz aMlkd aMlat aMkkd aMkat aModr aMgrp aMikd aMiat : Nat) (fu : Nat) (thr : Int32) (tpd : Int32) (frs : Int32) (frt : Int32) (top : Int32) (bgn : Int32) (mst : Int32) (ovr : Bool) (tgr : Bool) (lvs : Int32) (its : Int32) (hgh : Int64) (loo : Int64) (dfl : Bool) (st : Nat → Int32) (p0 : Int32) (p1 : Int32) (V0 : Bool) (hs : tw_MO_isStep fu st p0 p1 = some V0) : Met l y_MO_isStep mw_MO_isStep { frames := 0, cells := 0, slots := 0, locals := 0 } (va_Pc [.ref aM, .int p0, .int p1] (fun U => va_P D vwCl [(aM, .inr (11, [.int thr, .ref aMst, .int tpd, .ref aMdcs, .ref aMtot, .ref aMfrm, .ref aMsiz, .int frs, .int frt, .ref aMffr, .ref aMfsz, .int top, .int bgn, .int mst, .int (b2i ovr), .int (b2i tgr), .int lvs, .ref aMlkd, .ref aMlat, .ref aMkkd, .ref aMkat, .ref aModr, .ref aMgrp, .int its, .ref aMikd, .ref aMiat, .long hgh, .long loo, .int (b2i dfl)])), (aMst, .inl (cI, 136400, .inl st))] U.heap ∧ hk_ D cB cI U)) (vp_Si (fun r => r = b2i V0)) 0 0 (fun _ => False) := by
  refine Met.ofW (cc := b_MO_isStep) (maxL := 4) (ret := (some .boolean)) (by decide) rfl ?_
  intro p e s m args below meth c s₁ B0 hml hv
  obtain ⟨rfl, hP, hk⟩ := hv
  have hK := hk.1
  have hN := hk.2.1
  have hx := B0.exec
  have hb := B0.bytes
  have hr := B0.returns
  have hT : ∀ w ∈ lw_g, w.before _ s = true := fun w h => atoms_spec (ws := mw_MO_isStep) B0.pre w (List.mem_cons_of_mem _ h)
  have hown : s.vm.findClass R_MO = some m.cls := findClass_of_methodNamed B0.named
  have hlocks := B0.notSynchronized
  have hl := lv_entry ([.ref aM, .int p0, .int p1]) (n := 4) (Nat.le_of_ble_eq_true rfl)
  rw [lg_entry_eq]
  generalize (lg_sl ([.ref aM, .int p0, .int p1]) ++ List.replicate (4 - (lg_sl ([.ref aM, .int p0, .int p1])).length) Slot.unset).toArray = ls at hl ⊢
  have hl : lv_has ls 4 [(0, .ref aM), (1, .int p0), (2, .int p1)] := hl
  have C0 : lc_C p s m meth c _ b_MO_isStep 4 (some .boolean) R_MO lw_g := ⟨hx, hb, hml, hr, hown, hlocks, hT⟩
  refine lv_iconst (v := 0) hx hb d_MO_isStep_0 (by decide) ?_
  refine lv_istore_n (lv' := [(3, .int 0), (0, .ref aM), (1, .int p0), (2, .int p1)]) hx hb d_MO_isStep_1 rfl hl (by decide) rfl (fun ls hl => ?_)
  refine l_MO_isStep_h2 C0 hs l D cB cI aM aMst aMdcs aMtot aMfrm aMsiz aMffr aMfsz aMlkd aMlat aMkkd aMkat aModr aMgrp aMikd aMiat fu thr tpd frs frt top bgn mst ovr tgr lvs its hgh loo dfl st hP hk p0 p1  (K := (fun (x3_6 : Int32) =>
      if 0 ≤ ((p1 + 1) + x3_6) ∧ ((p1 + 1) + x3_6) < 136400 then
        if (st ((p1 + 1) + x3_6).toNatClampNeg) = 0 then
          if 0 ≤ (p0 + x3_6) ∧ (p0 + x3_6) < 136400 then
            if (st (p0 + x3_6).toNatClampNeg) = 0 then
              some true
            else
              if (st (p0 + x3_6).toNatClampNeg) = 46 then
                some true
              else
                some false
          else
            none
        else
          some false
      else
        none)) ?_ fu 0  (by rw [tw_MO_isStep]) ls (lv_sub hl [1, 2, 3, 0] rfl)
  intro x3_6 hV_6 ls hl
  refine lv_aload_n hx hb d_MO_isStep_55 rfl (lv_at hl 0 rfl) ?_
  refine va_get (D := D) (ci := 11) (v := .ref aMst) (C := R_MO) (T := T_MO) (N := 29) hx hb hT u_MO hown hK hP 0 rfl rfl 1 (by decide) (hT _ k_1044) (fun _ h9 => h9) rfl d_MO_isStep_56 ?_
  refine lv_iload_n hx hb d_MO_isStep_59 rfl (lv_at hl 2 rfl) ?_
  refine lv_iconst (v := 1) hx hb d_MO_isStep_60 (by decide) ?_
  refine lv_iadd hx hb d_MO_isStep_61 ?_
  refine lv_iload_n hx hb d_MO_isStep_62 rfl (lv_at hl 3 rfl) ?_
  refine lv_iadd hx hb d_MO_isStep_63 ?_
  by_cases c_7 : 0 ≤ ((p1 + 1) + x3_6) ∧ ((p1 + 1) + x3_6) < 136400
  rotate_left
  · exact op_no hs (by rw [hV_6, if_neg c_7])
  refine va_iald hx hb hK hP 1 1 rfl rfl (in_pp c_7.1 c_7.2 rfl) d_MO_isStep_64 ?_
  refine lv_if_ne (tgt := 96) hx hb d_MO_isStep_65 (by decide) (fun c_8 => ?_) (fun c_8 => ?_)
  · refine lv_iconst (v := 0) hx hb d_MO_isStep_96 (by decide) ?_
    exact W.zret (v := 0) (ty := .boolean) hx hb hr (rfl) (fun t ht hW => ⟨0, rfl, (op_b (x := false) hs (by rw [hV_6, if_pos c_7, if_neg c_8])), ht⟩) (fun _ h => by cases h) d_MO_isStep_97
  · refine lv_aload_n hx hb d_MO_isStep_68 rfl (lv_at hl 0 rfl) ?_
    refine va_get (D := D) (ci := 11) (v := .ref aMst) (C := R_MO) (T := T_MO) (N := 29) hx hb hT u_MO hown hK hP 0 rfl rfl 1 (by decide) (hT _ k_1044) (fun _ h9 => h9) rfl d_MO_isStep_69 ?_
    refine lv_iload_n hx hb d_MO_isStep_72 rfl (lv_at hl 1 rfl) ?_
    refine lv_iload_n hx hb d_MO_isStep_73 rfl (lv_at hl 3 rfl) ?_
    refine lv_iadd hx hb d_MO_isStep_74 ?_
    by_cases c_9 : 0 ≤ (p0 + x3_6) ∧ (p0 + x3_6) < 136400
    rotate_left
    · exact op_no hs (by rw [hV_6, if_pos c_7, if_pos c_8, if_neg c_9])
    refine va_iald hx hb hK hP 1 1 rfl rfl (in_pp c_9.1 c_9.2 rfl) d_MO_isStep_75 ?_
    refine lv_if_eq (tgt := 92) hx hb d_MO_isStep_76 (by decide) (fun c_10 => ?_) (fun c_10 => ?_)
    · refine lv_iconst (v := 1) hx hb d_MO_isStep_92 (by decide) ?_
      refine lv_goto (tgt := 97) hx hb d_MO_isStep_93 (by decide) ?_
      exact W.zret (v := 1) (ty := .boolean) hx hb hr (rfl) (fun t ht hW => ⟨1, rfl, (op_b (x := true) hs (by rw [hV_6, if_pos c_7, if_pos c_8, if_pos c_9, if_pos c_10])), ht⟩) (fun _ h => by cases h) d_MO_isStep_97
    · refine lv_aload_n hx hb d_MO_isStep_79 rfl (lv_at hl 0 rfl) ?_
      refine va_get (D := D) (ci := 11) (v := .ref aMst) (C := R_MO) (T := T_MO) (N := 29) hx hb hT u_MO hown hK hP 0 rfl rfl 1 (by decide) (hT _ k_1044) (fun _ h9 => h9) rfl d_MO_isStep_80 ?_
      refine lv_iload_n hx hb d_MO_isStep_83 rfl (lv_at hl 1 rfl) ?_
      refine lv_iload_n hx hb d_MO_isStep_84 rfl (lv_at hl 3 rfl) ?_
      refine lv_iadd hx hb d_MO_isStep_85 ?_
      refine va_iald hx hb hK hP 1 1 rfl rfl (in_pp c_9.1 c_9.2 rfl) d_MO_isStep_86 ?_
      refine lv_bipush (v := 46) hx hb d_MO_isStep_87 (by decide) ?_
      refine lv_icmp_ne (tgt := 96) hx hb d_MO_isStep_89 (by decide) (fun c_11 => ?_) (fun c_11 => ?_)
      · refine lv_iconst (v := 0) hx hb d_MO_isStep_96 (by decide) ?_
        exact W.zret (v := 0) (ty := .boolean) hx hb hr (rfl) (fun t ht hW => ⟨0, rfl, (op_b (x := false) hs (by rw [hV_6, if_pos c_7, if_pos c_8, if_pos c_9, if_neg c_10, if_neg c_11])), ht⟩) (fun _ h => by cases h) d_MO_isStep_97
      · refine lv_iconst (v := 1) hx hb d_MO_isStep_92 (by decide) ?_
        refine lv_goto (tgt := 97) hx hb d_MO_isStep_93 (by decide) ?_
        exact W.zret (v := 1) (ty := .boolean) hx hb hr (rfl) (fun t ht hW => ⟨1, rfl, (op_b (x := true) hs (by rw [hV_6, if_pos c_7, if_pos c_8, if_pos c_9, if_neg c_10, if_pos c_11])), ht⟩) (fun _ h => by cases h) d_MO_isStep_97
set_option maxHeartbeats 4000000 in
set_option maxRecDepth 100000 in
theorem l_MO_met_h9 {p : Program} {e : Env} {s : State} {m : MethodId} {args : Array Value} {below : List Frame} {meth : Method} {c : Code} {V : Option (Int32)} {V0 : Int32} (C0 : lc_C p s m meth c args b_MO_met 5 (some .int) R_MO lw_g) (hs : V = some V0) (l : Launch) (D : va_G) (cB cI : ClassId) (aM aMst aMdcs aMtot aMfrm aMsiz aMffr aMfsz aMlkd aMlat aMkkd aMkat aModr aMgrp aMikd aMiat : Nat) (fu : Nat) (thr : Int32) (tpd : Int32) (frs : Int32) (frt : Int32) (top : Int32) (bgn : Int32) (mst : Int32) (ovr : Bool) (tgr : Bool) (lvs : Int32) (its : Int32) (hgh : Int64) (loo : Int64) (dfl : Bool) (st : Nat → Int32) (hP : va_P D vwCl [(aM, .inr (11, [.int thr, .ref aMst, .int tpd, .ref aMdcs, .ref aMtot, .ref aMfrm, .ref aMsiz, .int frs, .int frt, .ref aMffr, .ref aMfsz, .int top, .int bgn, .int mst, .int (b2i ovr), .int (b2i tgr), .int lvs, .ref aMlkd, .ref aMlat, .ref aMkkd, .ref aMkat, .ref aModr, .ref aMgrp, .int its, .ref aMikd, .ref aMiat, .long hgh, .long loo, .int (b2i dfl)])), (aMst, .inl (cI, 136400, .inl st))] s.heap) (hk : hk_ D cB cI s) (p1 : Int32) {K : Int32 → Int32 → Option (Int32)} (hKx : ∀ (x3 : Int32) (x4 : Int32), V = K x3 x4 → ∀ ls : Array Slot, lv_has ls 5 [(3, .int x3)] → W p l e ({ frames := 3, cells := 0, slots := 0, locals := 66 }) s m args below meth c s.heap [] 0 0 (MQ below (vp_Si (fun r => r = V0)) args s 0 0 (fun _ => False)) (F0 m 46 ls [])) : ∀ (n : Nat) (x3 : Int32) (x4 : Int32), V = tw_MO_met_h9 fu K st p1 n x3 x4 → ∀ ls : Array Slot, lv_has ls 5 [(0, .ref aM), (2, .int p1), (3, .int x3), (4, .int x4)] → W p l e ({ frames := 3, cells := 0, slots := 0, locals := 66 }) s m args below meth c s.heap [] 0 0 (MQ below (vp_Si (fun r => r = V0)) args s 0 0 (fun _ => False)) (F0 m 9 ls []) := by
  obtain ⟨hx, hb, hml, hr, hown, hlocks, hT⟩ := id C0
  have hK := hk.1
  have hN := hk.2.1
  intro n
  induction n with
  | zero =>
    intro x3 x4 hV
    exact op_no hs (hV.trans rfl)
  | succ n ih =>
    intro x3 x4 hV ls hl
    refine lv_iload hx hb d_MO_met_9 (lv_at hl 3 rfl) ?_
    refine lv_if_le (tgt := 46) hx hb d_MO_met_11 (by decide) (fun c_2 => ?_) (fun c_2 => ?_)
    · exact hKx x3 x4 (by rw [hV, tw_MO_met_h9, if_pos c_2]) ls (lv_sub hl [2] rfl)
    · refine lv_iload_n hx hb d_MO_met_14 rfl (lv_at hl 2 rfl) ?_
      refine lv_if_ne (tgt := 46) hx hb d_MO_met_15 (by decide) (fun c_3 => ?_) (fun c_3 => ?_)
      · exact hKx x3 x4 (by rw [hV, tw_MO_met_h9, if_neg c_2, if_neg c_3]) ls (lv_sub hl [2] rfl)
      · refine lv_aload_n hx hb d_MO_met_18 rfl (lv_at hl 0 rfl) ?_
        refine lv_iload_n hx hb d_MO_met_19 rfl (lv_at hl 1 rfl) ?_
        refine lv_iload hx hb d_MO_met_20 (lv_at hl 3 rfl) ?_
        rcases h_4 : tw_MO_isStep fu st p1 x4 with _ | r_4
        · exact op_no hs (by rw [hV, tw_MO_met_h9, if_neg c_2, if_pos c_3, h_4, ob1_no])
        refine rd_V (val := b2i r_4) (As := [.int p1, .int x4]) (rest := []) ⟨hx, hb, hml, hown, hT⟩ (c_MO_isStep l D cB cI aM aMst aMdcs aMtot aMfrm aMsiz aMffr aMfsz aMlkd aMlat aMkkd aMkat aModr aMgrp aMikd aMiat fu thr tpd frs frt top bgn mst ovr tgr lvs its hgh loo dfl st p1 x4 r_4 h_4) (cwV 2 hT (gV_of k_1359 k_1361 kp_MO_isStep k_12 kc_MO_isStep) rfl rfl rfl hd_MO_isStep ⟨Nat.le_of_ble_eq_true rfl, Nat.le_of_ble_eq_true rfl⟩) hk hP (q0 := 0) rfl rfl rfl rfl hl.1 rfl (Nat.le_of_ble_eq_true rfl) d_MO_met_22 ⟨Nat.zero_le _, Nat.zero_le _⟩ ?_
        refine lv_if_eq (tgt := 33) hx hb d_MO_met_25 (by decide) (fun c_5 => ?_) (fun c_5 => ?_)
        · refine lv_iconst (v := 0) hx hb d_MO_met_33 (by decide) ?_
          refine lv_istore_n (lv' := [(3, .int 0), (0, .ref aM), (2, .int p1), (4, .int x4)]) hx hb d_MO_met_34 rfl hl (by decide) rfl (fun ls hl => ?_)
          refine lv_aload_n hx hb d_MO_met_35 rfl (lv_at hl 1 rfl) ?_
          refine lv_iload hx hb d_MO_met_36 (lv_at hl 3 rfl) ?_
          rcases h_6 : tw_MO_nextOf fu st x4 with _ | r_6
          · exact op_no hs (by rw [hV, tw_MO_met_h9, if_neg c_2, if_pos c_3, h_4, ob1_mk, if_pos c_5, h_6, ob1_no])
          refine rd_V (val := r_6) (As := [.int x4]) (rest := []) ⟨hx, hb, hml, hown, hT⟩ (c_MO_nextOf l D cB cI aM aMst aMdcs aMtot aMfrm aMsiz aMffr aMfsz aMlkd aMlat aMkkd aMkat aModr aMgrp aMikd aMiat fu thr tpd frs frt top bgn mst ovr tgr lvs its hgh loo dfl st x4 r_6 h_6) (cwV 1 hT (gV_of k_1204 k_1206 kp_MO_nextOf k_12 kc_MO_nextOf) rfl rfl rfl hd_MO_nextOf ⟨Nat.le_of_ble_eq_true rfl, Nat.le_of_ble_eq_true rfl⟩) hk hP (q0 := 0) rfl rfl rfl rfl hl.1 rfl (Nat.le_of_ble_eq_true rfl) d_MO_met_38 ⟨Nat.zero_le _, Nat.zero_le _⟩ ?_
          refine lv_istore (lv' := [(4, .int r_6), (3, .int 0), (0, .ref aM), (2, .int p1)]) hx hb d_MO_met_41 hl (by decide) rfl (fun ls hl => ?_)
          refine lv_goto (tgt := 9) hx hb d_MO_met_43 (by decide) ?_
          exact ih 0 r_6 (by rw [hV, tw_MO_met_h9, if_neg c_2, if_pos c_3, h_4, ob1_mk, if_pos c_5, h_6, ob1_mk]) ls (lv_sub hl [2, 3, 1, 0] rfl)
        · refine lv_iload hx hb d_MO_met_28 (lv_at hl 3 rfl) ?_
          refine lv_goto (tgt := 34) hx hb d_MO_met_30 (by decide) ?_
          refine lv_istore_n (lv' := [(3, .int x4), (0, .ref aM), (2, .int p1), (4, .int x4)]) hx hb d_MO_met_34 rfl hl (by decide) rfl (fun ls hl => ?_)
          refine lv_aload_n hx hb d_MO_met_35 rfl (lv_at hl 1 rfl) ?_
          refine lv_iload hx hb d_MO_met_36 (lv_at hl 3 rfl) ?_
          rcases h_7 : tw_MO_nextOf fu st x4 with _ | r_7
          · exact op_no hs (by rw [hV, tw_MO_met_h9, if_neg c_2, if_pos c_3, h_4, ob1_mk, if_neg c_5, h_7, ob1_no])
          refine rd_V (val := r_7) (As := [.int x4]) (rest := []) ⟨hx, hb, hml, hown, hT⟩ (c_MO_nextOf l D cB cI aM aMst aMdcs aMtot aMfrm aMsiz aMffr aMfsz aMlkd aMlat aMkkd aMkat aModr aMgrp aMikd aMiat fu thr tpd frs frt top bgn mst ovr tgr lvs its hgh loo dfl st x4 r_7 h_7) (cwV 1 hT (gV_of k_1204 k_1206 kp_MO_nextOf k_12 kc_MO_nextOf) rfl rfl rfl hd_MO_nextOf ⟨Nat.le_of_ble_eq_true rfl, Nat.le_of_ble_eq_true rfl⟩) hk hP (q0 := 0) rfl rfl rfl rfl hl.1 rfl (Nat.le_of_ble_eq_true rfl) d_MO_met_38 ⟨Nat.zero_le _, Nat.zero_le _⟩ ?_
          refine lv_istore (lv' := [(4, .int r_7), (3, .int x4), (0, .ref aM), (2, .int p1)]) hx hb d_MO_met_41 hl (by decide) rfl (fun ls hl => ?_)
          refine lv_goto (tgt := 9) hx hb d_MO_met_43 (by decide) ?_
          exact ih x4 r_7 (by rw [hV, tw_MO_met_h9, if_neg c_2, if_pos c_3, h_4, ob1_mk, if_neg c_5, h_7, ob1_mk]) ls (lv_sub hl [2, 3, 1, 0] rfl)
set_option maxHeartbeats 4000000 in
set_option maxRecDepth 100000 in
theorem c_MO_met (l : Launch) (D : va_G) (cB cI : ClassId) (aM aMst aMdcs aMtot aMfrm aMsiz aMffr aMfsz aMlkd aMlat aMkkd aMkat aModr aMgrp aMikd aMiat : Nat) (fu : Nat) (thr : Int32) (tpd : Int32) (frs : Int32) (frt : Int32) (top : Int32) (bgn : Int32) (mst : Int32) (ovr : Bool) (tgr : Bool) (lvs : Int32) (its : Int32) (hgh : Int64) (loo : Int64) (dfl : Bool) (st : Nat → Int32) (p0 : Int32) (p1 : Int32) (V0 : Int32) (hs : tw_MO_met fu st p0 p1 = some V0) : Met l y_MO_met mw_MO_met { frames := 3, cells := 0, slots := 0, locals := 66 } (va_Pc [.ref aM, .int p0, .int p1] (fun U => va_P D vwCl [(aM, .inr (11, [.int thr, .ref aMst, .int tpd, .ref aMdcs, .ref aMtot, .ref aMfrm, .ref aMsiz, .int frs, .int frt, .ref aMffr, .ref aMfsz, .int top, .int bgn, .int mst, .int (b2i ovr), .int (b2i tgr), .int lvs, .ref aMlkd, .ref aMlat, .ref aMkkd, .ref aMkat, .ref aModr, .ref aMgrp, .int its, .ref aMikd, .ref aMiat, .long hgh, .long loo, .int (b2i dfl)])), (aMst, .inl (cI, 136400, .inl st))] U.heap ∧ hk_ D cB cI U)) (vp_Si (fun r => r = V0)) 0 0 (fun _ => False) := by
  refine Met.ofW (cc := b_MO_met) (maxL := 5) (ret := (some .int)) (by decide) rfl ?_
  intro p e s m args below meth c s₁ B0 hml hv
  obtain ⟨rfl, hP, hk⟩ := hv
  have hK := hk.1
  have hN := hk.2.1
  have hx := B0.exec
  have hb := B0.bytes
  have hr := B0.returns
  have hT : ∀ w ∈ lw_g, w.before _ s = true := fun w h => atoms_spec (ws := mw_MO_met) B0.pre w (List.mem_cons_of_mem _ h)
  have hown : s.vm.findClass R_MO = some m.cls := findClass_of_methodNamed B0.named
  have hlocks := B0.notSynchronized
  have hl := lv_entry ([.ref aM, .int p0, .int p1]) (n := 5) (Nat.le_of_ble_eq_true rfl)
  rw [lg_entry_eq]
  generalize (lg_sl ([.ref aM, .int p0, .int p1]) ++ List.replicate (5 - (lg_sl ([.ref aM, .int p0, .int p1])).length) Slot.unset).toArray = ls at hl ⊢
  have hl : lv_has ls 5 [(0, .ref aM), (1, .int p0), (2, .int p1)] := hl
  have C0 : lc_C p s m meth c _ b_MO_met 5 (some .int) R_MO lw_g := ⟨hx, hb, hml, hr, hown, hlocks, hT⟩
  refine lv_iconst (v := 0) hx hb d_MO_met_0 (by decide) ?_
  refine lv_istore_n (lv' := [(3, .int 0), (0, .ref aM), (1, .int p0), (2, .int p1)]) hx hb d_MO_met_1 rfl hl (by decide) rfl (fun ls hl => ?_)
  refine lv_aload_n hx hb d_MO_met_2 rfl (lv_at hl 1 rfl) ?_
  refine lv_iload_n hx hb d_MO_met_3 rfl (lv_at hl 2 rfl) ?_
  rcases h_1 : tw_MO_firstOf fu st p0 with _ | r_1
  · exact op_no hs (by rw [tw_MO_met, h_1, ob1_no])
  refine rd_V (val := r_1) (As := [.int p0]) (rest := []) ⟨hx, hb, hml, hown, hT⟩ (c_MO_firstOf l D cB cI aM aMst aMdcs aMtot aMfrm aMsiz aMffr aMfsz aMlkd aMlat aMkkd aMkat aModr aMgrp aMikd aMiat fu thr tpd frs frt top bgn mst ovr tgr lvs its hgh loo dfl st p0 r_1 h_1) (cwV 1 hT (gV_of k_1196 k_1198 kp_MO_firstOf k_12 kc_MO_firstOf) rfl rfl rfl hd_MO_firstOf ⟨Nat.le_of_ble_eq_true rfl, Nat.le_of_ble_eq_true rfl⟩) hk hP (q0 := 0) rfl rfl rfl rfl hl.1 rfl (Nat.le_of_ble_eq_true rfl) d_MO_met_4 ⟨Nat.zero_le _, Nat.zero_le _⟩ ?_
  refine lv_istore (lv' := [(4, .int r_1), (3, .int 0), (0, .ref aM), (1, .int p0), (2, .int p1)]) hx hb d_MO_met_7 hl (by decide) rfl (fun ls hl => ?_)
  refine l_MO_met_h9 C0 hs l D cB cI aM aMst aMdcs aMtot aMfrm aMsiz aMffr aMfsz aMlkd aMlat aMkkd aMkat aModr aMgrp aMikd aMiat fu thr tpd frs frt top bgn mst ovr tgr lvs its hgh loo dfl st hP hk p1  (K := (fun (x3_8 : Int32) (x4_8 : Int32) =>
      some x3_8)) ?_ fu 0 r_1  (by rw [tw_MO_met, h_1, ob1_mk]) ls (lv_sub hl [2, 4, 1, 0] rfl)
  intro x3_8 x4_8 hV_8 ls hl
  refine lv_iload_n hx hb d_MO_met_46 rfl (lv_at hl 0 rfl) ?_
  exact W.iret (v := x3_8) hx hb hr (fun t ht hW => ⟨x3_8, rfl, (op_eq hs (by rw [hV_8])), ht⟩) (fun _ h => by cases h) d_MO_met_47
set_option maxHeartbeats 4000000 in
set_option maxRecDepth 100000 in
theorem l_MO_isNamed_h8 {p : Program} {e : Env} {s : State} {m : MethodId} {args : Array Value} {below : List Frame} {meth : Method} {c : Code} {V : Option (Bool)} {V0 : Bool} (C0 : lc_C p s m meth c args b_MO_isNamed 7 (some .boolean) R_MO lw_g) (hs : V = some V0) (l : Launch) (D : va_G) (cB cI : ClassId) (aM aMst aMdcs aMtot aMfrm aMsiz aMffr aMfsz aMlkd aMlat aMkkd aMkat aModr aMgrp aMikd aMiat : Nat) (fu : Nat) (thr : Int32) (tpd : Int32) (frs : Int32) (frt : Int32) (top : Int32) (bgn : Int32) (mst : Int32) (ovr : Bool) (tgr : Bool) (lvs : Int32) (its : Int32) (hgh : Int64) (loo : Int64) (dfl : Bool) (st : Nat → Int32) (hP : va_P D vwCl [(aM, .inr (11, [.int thr, .ref aMst, .int tpd, .ref aMdcs, .ref aMtot, .ref aMfrm, .ref aMsiz, .int frs, .int frt, .ref aMffr, .ref aMfsz, .int top, .int bgn, .int mst, .int (b2i ovr), .int (b2i tgr), .int lvs, .ref aMlkd, .ref aMlat, .ref aMkkd, .ref aMkat, .ref aModr, .ref aMgrp, .int its, .ref aMikd, .ref aMiat, .long hgh, .long loo, .int (b2i dfl)])), (aMst, .inl (cI, 136400, .inl st))] s.heap) (hk : hk_ D cB cI s)  {K : Int64 → Int32 → Option (Bool)} (hKx : ∀ (x4 : Int64) (x6 : Int32), V = K x4 x6 → ∀ ls : Array Slot, lv_has ls 7 [(0, .ref aM), (4, .long x4), (6, .int x6)] → W p l e ({ frames := 0, cells := 0, slots := 0, locals := 0 }) s m args below meth c s.heap [] 0 0 (MQ below (vp_Si (fun r => r = b2i V0)) args s 0 0 (fun _ => False)) (F0 m 45 ls [])) : ∀ (n : Nat) (x4 : Int64) (x6 : Int32), V = tw_MO_isNamed_h8 fu K st n x4 x6 → ∀ ls : Array Slot, lv_has ls 7 [(0, .ref aM), (4, .long x4), (6, .int x6)] → W p l e ({ frames := 0, cells := 0, slots := 0, locals := 0 }) s m args below meth c s.heap [] 0 0 (MQ below (vp_Si (fun r => r = b2i V0)) args s 0 0 (fun _ => False)) (F0 m 8 ls []) := by
  obtain ⟨hx, hb, hml, hr, hown, hlocks, hT⟩ := id C0
  have hK := hk.1
  have hN := hk.2.1
  intro n
  induction n with
  | zero =>
    intro x4 x6 hV
    exact op_no hs (hV.trans rfl)
  | succ n ih =>
    intro x4 x6 hV ls hl
    refine lv_lload hx hb d_MO_isNamed_8 (lv_at hl 1 rfl) ?_
    refine lv_lconst (v := 0) hx hb d_MO_isNamed_10 (by decide) ?_
    refine W.lcmp hx hb d_MO_isNamed_11 ?_
    refine lv_if_le (tgt := 45) hx hb d_MO_isNamed_12 (by decide) (fun c_1 => ?_) (fun c_1 => ?_)
    · exact hKx x4 x6 (by rw [hV, tw_MO_isNamed_h8, if_pos c_1]) ls (lv_sub hl [0, 1, 2] rfl)
    · refine lv_aload_n hx hb d_MO_isNamed_15 rfl (lv_at hl 0 rfl) ?_
      refine va_get (D := D) (ci := 11) (v := .ref aMst) (C := R_MO) (T := T_MO) (N := 29) hx hb hT u_MO hown hK hP 0 rfl rfl 1 (by decide) (hT _ k_1044) (fun _ h9 => h9) rfl d_MO_isNamed_16 ?_
      refine lv_iload hx hb d_MO_isNamed_19 (lv_at hl 2 rfl) ?_
      by_cases c_2 : 0 ≤ x6 ∧ x6 < 136400
      rotate_left
      · exact op_no hs (by rw [hV, tw_MO_isNamed_h8, if_neg c_1, if_neg c_2])
      refine va_iald hx hb hK hP 1 1 rfl rfl (in_pp c_2.1 c_2.2 rfl) d_MO_isNamed_21 ?_
      refine lv_lload hx hb d_MO_isNamed_22 (lv_at hl 1 rfl) ?_
      refine lv_ldc2 (v := 255) hx hb hown (hT _ k_1221) d_MO_isNamed_24 ?_
      refine lv_land hx hb d_MO_isNamed_27 ?_
      refine lv_l2i (v := (x4 &&& 255).toInt32) hx hb d_MO_isNamed_28 rfl ?_
      refine lv_icmp_ne (tgt := 45) hx hb d_MO_isNamed_29 (by decide) (fun c_3 => ?_) (fun c_3 => ?_)
      · exact hKx x4 x6 (by rw [hV, tw_MO_isNamed_h8, if_neg c_1, if_pos c_2, if_neg c_3]) ls (lv_sub hl [0, 1, 2] rfl)
      · refine lv_lload hx hb d_MO_isNamed_32 (lv_at hl 1 rfl) ?_
        refine lv_bipush (v := 8) hx hb d_MO_isNamed_34 (by decide) ?_
        refine lv_lshr hx hb d_MO_isNamed_36 rfl ?_
        refine lv_lstore (lv' := [(4, .long (x4 >>> ((8 : Int32).toInt64 &&& 63))), (0, .ref aM), (6, .int x6)]) hx hb d_MO_isNamed_37 hl (by decide) rfl (fun ls hl => ?_)
        refine lv_iinc (v := x6 + 1) (lv' := [(6, .int (x6 + 1)), (4, .long (x4 >>> ((8 : Int32).toInt64 &&& 63))), (0, .ref aM)]) hx hb d_MO_isNamed_39 hl (k := 2) rfl rfl (by decide) rfl (fun ls hl => ?_)
        refine lv_goto (tgt := 8) hx hb d_MO_isNamed_42 (by decide) ?_
        exact ih (x4 >>> ((8 : Int32).toInt64 &&& 63)) (x6 + 1) (by rw [hV, tw_MO_isNamed_h8, if_neg c_1, if_pos c_2, if_pos c_3]) ls (lv_sub hl [2, 1, 0] rfl)
set_option maxHeartbeats 4000000 in
set_option maxRecDepth 100000 in
theorem c_MO_isNamed (l : Launch) (D : va_G) (cB cI : ClassId) (aM aMst aMdcs aMtot aMfrm aMsiz aMffr aMfsz aMlkd aMlat aMkkd aMkat aModr aMgrp aMikd aMiat : Nat) (fu : Nat) (thr : Int32) (tpd : Int32) (frs : Int32) (frt : Int32) (top : Int32) (bgn : Int32) (mst : Int32) (ovr : Bool) (tgr : Bool) (lvs : Int32) (its : Int32) (hgh : Int64) (loo : Int64) (dfl : Bool) (st : Nat → Int32) (p0 : Int32) (p1 : Int64) (V0 : Bool) (hs : tw_MO_isNamed fu st p0 p1 = some V0) : Met l y_MO_isNamed mw_MO_isNamed { frames := 0, cells := 0, slots := 0, locals := 0 } (va_Pc [.ref aM, .int p0, .long p1] (fun U => va_P D vwCl [(aM, .inr (11, [.int thr, .ref aMst, .int tpd, .ref aMdcs, .ref aMtot, .ref aMfrm, .ref aMsiz, .int frs, .int frt, .ref aMffr, .ref aMfsz, .int top, .int bgn, .int mst, .int (b2i ovr), .int (b2i tgr), .int lvs, .ref aMlkd, .ref aMlat, .ref aMkkd, .ref aMkat, .ref aModr, .ref aMgrp, .int its, .ref aMikd, .ref aMiat, .long hgh, .long loo, .int (b2i dfl)])), (aMst, .inl (cI, 136400, .inl st))] U.heap ∧ hk_ D cB cI U)) (vp_Si (fun r => r = b2i V0)) 0 0 (fun _ => False) := by
  refine Met.ofW (cc := b_MO_isNamed) (maxL := 7) (ret := (some .boolean)) (by decide) rfl ?_
  intro p e s m args below meth c s₁ B0 hml hv
  obtain ⟨rfl, hP, hk⟩ := hv
  have hK := hk.1
  have hN := hk.2.1
  have hx := B0.exec
  have hb := B0.bytes
  have hr := B0.returns
  have hT : ∀ w ∈ lw_g, w.before _ s = true := fun w h => atoms_spec (ws := mw_MO_isNamed) B0.pre w (List.mem_cons_of_mem _ h)
  have hown : s.vm.findClass R_MO = some m.cls := findClass_of_methodNamed B0.named
  have hlocks := B0.notSynchronized
  have hl := lv_entry ([.ref aM, .int p0, .long p1]) (n := 7) (Nat.le_of_ble_eq_true rfl)
  rw [lg_entry_eq]
  generalize (lg_sl ([.ref aM, .int p0, .long p1]) ++ List.replicate (7 - (lg_sl ([.ref aM, .int p0, .long p1])).length) Slot.unset).toArray = ls at hl ⊢
  have hl : lv_has ls 7 [(0, .ref aM), (1, .int p0), (2, .long p1)] := hl
  have C0 : lc_C p s m meth c _ b_MO_isNamed 7 (some .boolean) R_MO lw_g := ⟨hx, hb, hml, hr, hown, hlocks, hT⟩
  refine lv_lload_n hx hb d_MO_isNamed_0 rfl (lv_at hl 2 rfl) ?_
  refine lv_lstore (lv' := [(4, .long p1), (0, .ref aM), (1, .int p0), (2, .long p1)]) hx hb d_MO_isNamed_1 hl (by decide) rfl (fun ls hl => ?_)
  refine lv_iload_n hx hb d_MO_isNamed_3 rfl (lv_at hl 2 rfl) ?_
  refine lv_iconst (v := 1) hx hb d_MO_isNamed_4 (by decide) ?_
  refine lv_iadd hx hb d_MO_isNamed_5 ?_
  refine lv_istore (lv' := [(6, .int (p0 + 1)), (4, .long p1), (0, .ref aM), (1, .int p0), (2, .long p1)]) hx hb d_MO_isNamed_6 hl (by decide) rfl (fun ls hl => ?_)
  refine l_MO_isNamed_h8 C0 hs l D cB cI aM aMst aMdcs aMtot aMfrm aMsiz aMffr aMfsz aMlkd aMlat aMkkd aMkat aModr aMgrp aMikd aMiat fu thr tpd frs frt top bgn mst ovr tgr lvs its hgh loo dfl st hP hk   (K := (fun (x4_4 : Int64) (x6_4 : Int32) =>
      if (lg_cmp x4_4 0) = 0 then
        if 0 ≤ x6_4 ∧ x6_4 < 136400 then
          if (st x6_4.toNatClampNeg) = 0 then
            some true
          else
            some false
        else
          none
      else
        some false)) ?_ fu p1 (p0 + 1)  (by rw [tw_MO_isNamed]) ls (lv_sub hl [2, 1, 0] rfl)
  intro x4_4 x6_4 hV_4 ls hl
  refine lv_lload hx hb d_MO_isNamed_45 (lv_at hl 1 rfl) ?_
  refine lv_lconst (v := 0) hx hb d_MO_isNamed_47 (by decide) ?_
  refine W.lcmp hx hb d_MO_isNamed_48 ?_
  refine lv_if_ne (tgt := 66) hx hb d_MO_isNamed_49 (by decide) (fun c_5 => ?_) (fun c_5 => ?_)
  · refine lv_iconst (v := 0) hx hb d_MO_isNamed_66 (by decide) ?_
    exact W.zret (v := 0) (ty := .boolean) hx hb hr (rfl) (fun t ht hW => ⟨0, rfl, (op_b (x := false) hs (by rw [hV_4, if_neg c_5])), ht⟩) (fun _ h => by cases h) d_MO_isNamed_67
  · refine lv_aload_n hx hb d_MO_isNamed_52 rfl (lv_at hl 0 rfl) ?_
    refine va_get (D := D) (ci := 11) (v := .ref aMst) (C := R_MO) (T := T_MO) (N := 29) hx hb hT u_MO hown hK hP 0 rfl rfl 1 (by decide) (hT _ k_1044) (fun _ h9 => h9) rfl d_MO_isNamed_53 ?_
    refine lv_iload hx hb d_MO_isNamed_56 (lv_at hl 2 rfl) ?_
    by_cases c_6 : 0 ≤ x6_4 ∧ x6_4 < 136400
    rotate_left
    · exact op_no hs (by rw [hV_4, if_pos c_5, if_neg c_6])
    refine va_iald hx hb hK hP 1 1 rfl rfl (in_pp c_6.1 c_6.2 rfl) d_MO_isNamed_58 ?_
    refine lv_if_ne (tgt := 66) hx hb d_MO_isNamed_59 (by decide) (fun c_7 => ?_) (fun c_7 => ?_)
    · refine lv_iconst (v := 0) hx hb d_MO_isNamed_66 (by decide) ?_
      exact W.zret (v := 0) (ty := .boolean) hx hb hr (rfl) (fun t ht hW => ⟨0, rfl, (op_b (x := false) hs (by rw [hV_4, if_pos c_5, if_pos c_6, if_neg c_7])), ht⟩) (fun _ h => by cases h) d_MO_isNamed_67
    · refine lv_iconst (v := 1) hx hb d_MO_isNamed_62 (by decide) ?_
      refine lv_goto (tgt := 67) hx hb d_MO_isNamed_63 (by decide) ?_
      exact W.zret (v := 1) (ty := .boolean) hx hb hr (rfl) (fun t ht hW => ⟨1, rfl, (op_b (x := true) hs (by rw [hV_4, if_pos c_5, if_pos c_6, if_pos c_7])), ht⟩) (fun _ h => by cases h) d_MO_isNamed_67
set_option maxHeartbeats 4000000 in
set_option maxRecDepth 100000 in
theorem c_MO_isThere (l : Launch) (D : va_G) (cB cI : ClassId) (aM aMst aMdcs aMtot aMfrm aMsiz aMffr aMfsz aMlkd aMlat aMkkd aMkat aModr aMgrp aMikd aMiat : Nat) (fu : Nat) (thr : Int32) (tpd : Int32) (frs : Int32) (frt : Int32) (top : Int32) (bgn : Int32) (mst : Int32) (ovr : Bool) (tgr : Bool) (lvs : Int32) (its : Int32) (hgh : Int64) (loo : Int64) (dfl : Bool) (dcs : Nat → Int32) (p0 : Int32) (p1 : Int32) (V0 : Bool) (hs : tw_MO_isThere fu dcs p0 p1 = some V0) : Met l y_MO_isThere mw_MO_isThere { frames := 0, cells := 0, slots := 0, locals := 0 } (va_Pc [.ref aM, .int p0, .int p1] (fun U => va_P D vwCl [(aM, .inr (11, [.int thr, .ref aMst, .int tpd, .ref aMdcs, .ref aMtot, .ref aMfrm, .ref aMsiz, .int frs, .int frt, .ref aMffr, .ref aMfsz, .int top, .int bgn, .int mst, .int (b2i ovr), .int (b2i tgr), .int lvs, .ref aMlkd, .ref aMlat, .ref aMkkd, .ref aMkat, .ref aModr, .ref aMgrp, .int its, .ref aMikd, .ref aMiat, .long hgh, .long loo, .int (b2i dfl)])), (aMdcs, .inl (cI, 2, .inl dcs))] U.heap ∧ hk_ D cB cI U)) (vp_Si (fun r => r = b2i V0)) 0 0 (fun _ => False) := by
  refine Met.ofW (cc := b_MO_isThere) (maxL := 3) (ret := (some .boolean)) (by decide) rfl ?_
  intro p e s m args below meth c s₁ B0 hml hv
  obtain ⟨rfl, hP, hk⟩ := hv
  have hK := hk.1
  have hN := hk.2.1
  have hx := B0.exec
  have hb := B0.bytes
  have hr := B0.returns
  have hT : ∀ w ∈ lw_g, w.before _ s = true := fun w h => atoms_spec (ws := mw_MO_isThere) B0.pre w (List.mem_cons_of_mem _ h)
  have hown : s.vm.findClass R_MO = some m.cls := findClass_of_methodNamed B0.named
  have hlocks := B0.notSynchronized
  have hl := lv_entry ([.ref aM, .int p0, .int p1]) (n := 3) (Nat.le_of_ble_eq_true rfl)
  rw [lg_entry_eq]
  generalize (lg_sl ([.ref aM, .int p0, .int p1]) ++ List.replicate (3 - (lg_sl ([.ref aM, .int p0, .int p1])).length) Slot.unset).toArray = ls at hl ⊢
  have hl : lv_has ls 3 [(0, .ref aM), (1, .int p0), (2, .int p1)] := hl
  refine lv_iload_n hx hb d_MO_isThere_0 rfl (lv_at hl 1 rfl) ?_
  refine lv_if_lt (tgt := 27) hx hb d_MO_isThere_1 (by decide) (fun c_1 => ?_) (fun c_1 => ?_)
  · refine lv_iconst (v := 0) hx hb d_MO_isThere_27 (by decide) ?_
    exact W.zret (v := 0) (ty := .boolean) hx hb hr (rfl) (fun t ht hW => ⟨0, rfl, (op_b (x := false) hs (by rw [tw_MO_isThere, if_pos c_1])), ht⟩) (fun _ h => by cases h) d_MO_isThere_28
  · refine lv_iload_n hx hb d_MO_isThere_4 rfl (lv_at hl 1 rfl) ?_
    refine lv_iconst (v := 2) hx hb d_MO_isThere_5 (by decide) ?_
    refine lv_icmp_ge (tgt := 27) hx hb d_MO_isThere_6 (by decide) (fun c_2 => ?_) (fun c_2 => ?_)
    · refine lv_iconst (v := 0) hx hb d_MO_isThere_27 (by decide) ?_
      exact W.zret (v := 0) (ty := .boolean) hx hb hr (rfl) (fun t ht hW => ⟨0, rfl, (op_b (x := false) hs (by rw [tw_MO_isThere, if_neg c_1, if_pos c_2])), ht⟩) (fun _ h => by cases h) d_MO_isThere_28
    · refine lv_iload_n hx hb d_MO_isThere_9 rfl (lv_at hl 2 rfl) ?_
      refine lv_if_lt (tgt := 27) hx hb d_MO_isThere_10 (by decide) (fun c_3 => ?_) (fun c_3 => ?_)
      · refine lv_iconst (v := 0) hx hb d_MO_isThere_27 (by decide) ?_
        exact W.zret (v := 0) (ty := .boolean) hx hb hr (rfl) (fun t ht hW => ⟨0, rfl, (op_b (x := false) hs (by rw [tw_MO_isThere, if_neg c_1, if_neg c_2, if_pos c_3])), ht⟩) (fun _ h => by cases h) d_MO_isThere_28
      · refine lv_iload_n hx hb d_MO_isThere_13 rfl (lv_at hl 2 rfl) ?_
        refine lv_aload_n hx hb d_MO_isThere_14 rfl (lv_at hl 0 rfl) ?_
        refine va_get (D := D) (ci := 11) (v := .ref aMdcs) (C := R_MO) (T := T_MO) (N := 29) hx hb hT u_MO hown hK hP 0 rfl rfl 3 (by decide) (hT _ k_1046) (fun _ h9 => h9) rfl d_MO_isThere_15 ?_
        refine lv_iload_n hx hb d_MO_isThere_18 rfl (lv_at hl 1 rfl) ?_
        by_cases c_4 : 0 ≤ p0 ∧ p0 < 2
        rotate_left
        · exact op_no hs (by rw [tw_MO_isThere, if_neg c_1, if_neg c_2, if_neg c_3, if_neg c_4])
        refine va_iald hx hb hK hP 1 1 rfl rfl (in_nn c_1 c_2 rfl) d_MO_isThere_19 ?_
        refine lv_icmp_ge (tgt := 27) hx hb d_MO_isThere_20 (by decide) (fun c_5 => ?_) (fun c_5 => ?_)
        · refine lv_iconst (v := 0) hx hb d_MO_isThere_27 (by decide) ?_
          exact W.zret (v := 0) (ty := .boolean) hx hb hr (rfl) (fun t ht hW => ⟨0, rfl, (op_b (x := false) hs (by rw [tw_MO_isThere, if_neg c_1, if_neg c_2, if_neg c_3, if_pos c_4, if_pos c_5])), ht⟩) (fun _ h => by cases h) d_MO_isThere_28
        · refine lv_iconst (v := 1) hx hb d_MO_isThere_23 (by decide) ?_
          refine lv_goto (tgt := 28) hx hb d_MO_isThere_24 (by decide) ?_
          exact W.zret (v := 1) (ty := .boolean) hx hb hr (rfl) (fun t ht hW => ⟨1, rfl, (op_b (x := true) hs (by rw [tw_MO_isThere, if_neg c_1, if_neg c_2, if_neg c_3, if_pos c_4, if_neg c_5])), ht⟩) (fun _ h => by cases h) d_MO_isThere_28
set_option maxHeartbeats 4000000 in
set_option maxRecDepth 100000 in
theorem c_MO_many (l : Launch) (D : va_G) (cB cI : ClassId) (aM aMst aMdcs aMtot aMfrm aMsiz aMffr aMfsz aMlkd aMlat aMkkd aMkat aModr aMgrp aMikd aMiat : Nat) (fu : Nat) (thr : Int32) (tpd : Int32) (frs : Int32) (frt : Int32) (top : Int32) (bgn : Int32) (mst : Int32) (ovr : Bool) (tgr : Bool) (lvs : Int32) (its : Int32) (hgh : Int64) (loo : Int64) (dfl : Bool) (dcs : Nat → Int32) (tot : Nat → Int32) (p0 : Int32) (p1 : Int32) (V0 : Int32) (hs : tw_MO_many fu dcs tot p0 p1 = some V0) : Met l y_MO_many mw_MO_many { frames := 0, cells := 0, slots := 0, locals := 0 } (va_Pc [.ref aM, .int p0, .int p1] (fun U => va_P D vwCl [(aM, .inr (11, [.int thr, .ref aMst, .int tpd, .ref aMdcs, .ref aMtot, .ref aMfrm, .ref aMsiz, .int frs, .int frt, .ref aMffr, .ref aMfsz, .int top, .int bgn, .int mst, .int (b2i ovr), .int (b2i tgr), .int lvs, .ref aMlkd, .ref aMlat, .ref aMkkd, .ref aMkat, .ref aModr, .ref aMgrp, .int its, .ref aMikd, .ref aMiat, .long hgh, .long loo, .int (b2i dfl)])), (aMdcs, .inl (cI, 2, .inl dcs)), (aMtot, .inl (cI, 2, .inl tot))] U.heap ∧ hk_ D cB cI U)) (vp_Si (fun r => r = V0)) 0 0 (fun _ => False) := by
  refine Met.ofW (cc := b_MO_many) (maxL := 3) (ret := (some .int)) (by decide) rfl ?_
  intro p e s m args below meth c s₁ B0 hml hv
  obtain ⟨rfl, hP, hk⟩ := hv
  have hK := hk.1
  have hN := hk.2.1
  have hx := B0.exec
  have hb := B0.bytes
  have hr := B0.returns
  have hT : ∀ w ∈ lw_g, w.before _ s = true := fun w h => atoms_spec (ws := mw_MO_many) B0.pre w (List.mem_cons_of_mem _ h)
  have hown : s.vm.findClass R_MO = some m.cls := findClass_of_methodNamed B0.named
  have hlocks := B0.notSynchronized
  have hl := lv_entry ([.ref aM, .int p0, .int p1]) (n := 3) (Nat.le_of_ble_eq_true rfl)
  rw [lg_entry_eq]
  generalize (lg_sl ([.ref aM, .int p0, .int p1]) ++ List.replicate (3 - (lg_sl ([.ref aM, .int p0, .int p1])).length) Slot.unset).toArray = ls at hl ⊢
  have hl : lv_has ls 3 [(0, .ref aM), (1, .int p0), (2, .int p1)] := hl
  refine lv_iload_n hx hb d_MO_many_0 rfl (lv_at hl 1 rfl) ?_
  refine lv_if_lt (tgt := 9) hx hb d_MO_many_1 (by decide) (fun c_1 => ?_) (fun c_1 => ?_)
  · refine lv_iconst (v := -1) hx hb d_MO_many_9 (by decide) ?_
    exact W.iret (v := (-1)) hx hb hr (fun t ht hW => ⟨(-1), rfl, (op_eq hs (by rw [tw_MO_many, if_pos c_1])), ht⟩) (fun _ h => by cases h) d_MO_many_10
  · refine lv_iload_n hx hb d_MO_many_4 rfl (lv_at hl 1 rfl) ?_
    refine lv_iconst (v := 1) hx hb d_MO_many_5 (by decide) ?_
    refine lv_icmp_le (tgt := 11) hx hb d_MO_many_6 (by decide) (fun c_2 => ?_) (fun c_2 => ?_)
    · refine lv_iload_n hx hb d_MO_many_11 rfl (lv_at hl 2 rfl) ?_
      refine lv_if_ne (tgt := 24) hx hb d_MO_many_12 (by decide) (fun c_3 => ?_) (fun c_3 => ?_)
      · refine lv_iload_n hx hb d_MO_many_24 rfl (lv_at hl 2 rfl) ?_
        refine lv_iconst (v := 1) hx hb d_MO_many_25 (by decide) ?_
        refine lv_icmp_ne (tgt := 38) hx hb d_MO_many_26 (by decide) (fun c_4 => ?_) (fun c_4 => ?_)
        · refine lv_iconst (v := -1) hx hb d_MO_many_38 (by decide) ?_
          exact W.iret (v := (-1)) hx hb hr (fun t ht hW => ⟨(-1), rfl, (op_eq hs (by rw [tw_MO_many, if_neg c_1, if_pos c_2, if_neg c_3, if_neg c_4])), ht⟩) (fun _ h => by cases h) d_MO_many_39
        · refine lv_aload_n hx hb d_MO_many_29 rfl (lv_at hl 0 rfl) ?_
          refine va_get (D := D) (ci := 11) (v := .ref aMtot) (C := R_MO) (T := T_MO) (N := 29) hx hb hT u_MO hown hK hP 0 rfl rfl 4 (by decide) (hT _ k_1047) (fun _ h9 => h9) rfl d_MO_many_30 ?_
          refine lv_iload_n hx hb d_MO_many_33 rfl (lv_at hl 1 rfl) ?_
          by_cases c_5 : 0 ≤ p0 ∧ p0 < 2
          rotate_left
          · exact op_no hs (by rw [tw_MO_many, if_neg c_1, if_pos c_2, if_neg c_3, if_pos c_4, if_neg c_5])
          refine va_iald hx hb hK hP 2 1 rfl rfl (in_pp c_5.1 c_5.2 rfl) d_MO_many_34 ?_
          refine lv_goto (tgt := 39) hx hb d_MO_many_35 (by decide) ?_
          exact W.iret (v := tot p0.toNatClampNeg) hx hb hr (fun t ht hW => ⟨tot p0.toNatClampNeg, rfl, (op_eq hs (by rw [tw_MO_many, if_neg c_1, if_pos c_2, if_neg c_3, if_pos c_4, if_pos c_5])), ht⟩) (fun _ h => by cases h) d_MO_many_39
      · refine lv_aload_n hx hb d_MO_many_15 rfl (lv_at hl 0 rfl) ?_
        refine va_get (D := D) (ci := 11) (v := .ref aMdcs) (C := R_MO) (T := T_MO) (N := 29) hx hb hT u_MO hown hK hP 0 rfl rfl 3 (by decide) (hT _ k_1046) (fun _ h9 => h9) rfl d_MO_many_16 ?_
        refine lv_iload_n hx hb d_MO_many_19 rfl (lv_at hl 1 rfl) ?_
        by_cases c_6 : 0 ≤ p0 ∧ p0 < 2
        rotate_left
        · exact op_no hs (by rw [tw_MO_many, if_neg c_1, if_pos c_2, if_pos c_3, if_neg c_6])
        refine va_iald hx hb hK hP 1 1 rfl rfl (in_pp c_6.1 c_6.2 rfl) d_MO_many_20 ?_
        refine lv_goto (tgt := 39) hx hb d_MO_many_21 (by decide) ?_
        exact W.iret (v := dcs p0.toNatClampNeg) hx hb hr (fun t ht hW => ⟨dcs p0.toNatClampNeg, rfl, (op_eq hs (by rw [tw_MO_many, if_neg c_1, if_pos c_2, if_pos c_3, if_pos c_6])), ht⟩) (fun _ h => by cases h) d_MO_many_39
    · refine lv_iconst (v := -1) hx hb d_MO_many_9 (by decide) ?_
      exact W.iret (v := (-1)) hx hb hr (fun t ht hW => ⟨(-1), rfl, (op_eq hs (by rw [tw_MO_many, if_neg c_1, if_neg c_2])), ht⟩) (fun _ h => by cases h) d_MO_many_10
set_option maxHeartbeats 4000000 in
set_option maxRecDepth 100000 in
theorem c_MO_size (l : Launch) (D : va_G) (cB cI : ClassId) (aM aMst aMdcs aMtot aMfrm aMsiz aMffr aMfsz aMlkd aMlat aMkkd aMkat aModr aMgrp aMikd aMiat : Nat) (fu : Nat) (thr : Int32) (tpd : Int32) (frs : Int32) (frt : Int32) (top : Int32) (bgn : Int32) (mst : Int32) (ovr : Bool) (tgr : Bool) (lvs : Int32) (its : Int32) (hgh : Int64) (loo : Int64) (dfl : Bool) (dcs : Nat → Int32) (siz : Nat → Int32) (p0 : Int32) (p1 : Int32) (V0 : Int32) (hs : tw_MO_size fu dcs siz p0 p1 = some V0) : Met l y_MO_size mw_MO_size { frames := 1, cells := 0, slots := 0, locals := 22 } (va_Pc [.ref aM, .int p0, .int p1] (fun U => va_P D vwCl [(aM, .inr (11, [.int thr, .ref aMst, .int tpd, .ref aMdcs, .ref aMtot, .ref aMfrm, .ref aMsiz, .int frs, .int frt, .ref aMffr, .ref aMfsz, .int top, .int bgn, .int mst, .int (b2i ovr), .int (b2i tgr), .int lvs, .ref aMlkd, .ref aMlat, .ref aMkkd, .ref aMkat, .ref aModr, .ref aMgrp, .int its, .ref aMikd, .ref aMiat, .long hgh, .long loo, .int (b2i dfl)])), (aMdcs, .inl (cI, 2, .inl dcs)), (aMsiz, .inl (cI, 400, .inl siz))] U.heap ∧ hk_ D cB cI U)) (vp_Si (fun r => r = V0)) 0 0 (fun _ => False) := by
  refine Met.ofW (cc := b_MO_size) (maxL := 3) (ret := (some .int)) (by decide) rfl ?_
  intro p e s m args below meth c s₁ B0 hml hv
  obtain ⟨rfl, hP, hk⟩ := hv
  have hK := hk.1
  have hN := hk.2.1
  have hx := B0.exec
  have hb := B0.bytes
  have hr := B0.returns
  have hT : ∀ w ∈ lw_g, w.before _ s = true := fun w h => atoms_spec (ws := mw_MO_size) B0.pre w (List.mem_cons_of_mem _ h)
  have hown : s.vm.findClass R_MO = some m.cls := findClass_of_methodNamed B0.named
  have hlocks := B0.notSynchronized
  have hl := lv_entry ([.ref aM, .int p0, .int p1]) (n := 3) (Nat.le_of_ble_eq_true rfl)
  rw [lg_entry_eq]
  generalize (lg_sl ([.ref aM, .int p0, .int p1]) ++ List.replicate (3 - (lg_sl ([.ref aM, .int p0, .int p1])).length) Slot.unset).toArray = ls at hl ⊢
  have hl : lv_has ls 3 [(0, .ref aM), (1, .int p0), (2, .int p1)] := hl
  refine lv_aload_n hx hb d_MO_size_0 rfl (lv_at hl 0 rfl) ?_
  refine lv_iload_n hx hb d_MO_size_1 rfl (lv_at hl 1 rfl) ?_
  refine lv_iload_n hx hb d_MO_size_2 rfl (lv_at hl 2 rfl) ?_
  rcases h_1 : tw_MO_isThere fu dcs p0 p1 with _ | r_1
  · exact op_no hs (by rw [tw_MO_size, h_1, ob1_no])
  refine rd_V (val := b2i r_1) (As := [.int p0, .int p1]) (rest := []) ⟨hx, hb, hml, hown, hT⟩ (c_MO_isThere l D cB cI aM aMst aMdcs aMtot aMfrm aMsiz aMffr aMfsz aMlkd aMlat aMkkd aMkat aModr aMgrp aMikd aMiat fu thr tpd frs frt top bgn mst ovr tgr lvs its hgh loo dfl dcs p0 p1 r_1 h_1) (cwV 2 hT (gV_of k_1488 k_1490 kp_MO_isThere k_12 kc_MO_isThere) rfl rfl rfl hd_MO_isThere ⟨Nat.le_of_ble_eq_true rfl, Nat.le_of_ble_eq_true rfl⟩) hk (hP.sub (ws' := [(aM, .inr (11, [.int thr, .ref aMst, .int tpd, .ref aMdcs, .ref aMtot, .ref aMfrm, .ref aMsiz, .int frs, .int frt, .ref aMffr, .ref aMfsz, .int top, .int bgn, .int mst, .int (b2i ovr), .int (b2i tgr), .int lvs, .ref aMlkd, .ref aMlat, .ref aMkkd, .ref aMkat, .ref aModr, .ref aMgrp, .int its, .ref aMikd, .ref aMiat, .long hgh, .long loo, .int (b2i dfl)])), (aMdcs, .inl (cI, 2, .inl dcs))]) [0, 1] rfl) (q0 := 0) rfl rfl rfl rfl hl.1 rfl (Nat.le_of_ble_eq_true rfl) d_MO_size_3 ⟨Nat.zero_le _, Nat.zero_le _⟩ ?_
  refine lv_if_eq (tgt := 24) hx hb d_MO_size_6 (by decide) (fun c_2 => ?_) (fun c_2 => ?_)
  · refine lv_iconst (v := -1) hx hb d_MO_size_24 (by decide) ?_
    exact W.iret (v := (-1)) hx hb hr (fun t ht hW => ⟨(-1), rfl, (op_eq hs (by rw [tw_MO_size, h_1, ob1_mk, if_pos c_2])), ht⟩) (fun _ h => by cases h) d_MO_size_25
  · refine lv_aload_n hx hb d_MO_size_9 rfl (lv_at hl 0 rfl) ?_
    refine va_get (D := D) (ci := 11) (v := .ref aMsiz) (C := R_MO) (T := T_MO) (N := 29) hx hb hT u_MO hown hK hP 0 rfl rfl 6 (by decide) (hT _ k_1049) (fun _ h9 => h9) rfl d_MO_size_10 ?_
    refine lv_sipush (v := 200) hx hb d_MO_size_13 (by decide) ?_
    refine lv_iload_n hx hb d_MO_size_16 rfl (lv_at hl 1 rfl) ?_
    refine lv_imul hx hb d_MO_size_17 ?_
    refine lv_iload_n hx hb d_MO_size_18 rfl (lv_at hl 2 rfl) ?_
    refine lv_iadd hx hb d_MO_size_19 ?_
    by_cases c_3 : 0 ≤ ((200 * p0) + p1) ∧ ((200 * p0) + p1) < 400
    rotate_left
    · exact op_no hs (by rw [tw_MO_size, h_1, ob1_mk, if_neg c_2, if_neg c_3])
    refine va_iald hx hb hK hP 2 1 rfl rfl (in_pp c_3.1 c_3.2 rfl) d_MO_size_20 ?_
    refine lv_goto (tgt := 25) hx hb d_MO_size_21 (by decide) ?_
    exact W.iret (v := siz ((200 * p0) + p1).toNatClampNeg) hx hb hr (fun t ht hW => ⟨siz ((200 * p0) + p1).toNatClampNeg, rfl, (op_eq hs (by rw [tw_MO_size, h_1, ob1_mk, if_neg c_2, if_pos c_3])), ht⟩) (fun _ h => by cases h) d_MO_size_25
set_option maxHeartbeats 4000000 in
set_option maxRecDepth 100000 in
theorem c_MO_byteAt (l : Launch) (D : va_G) (cB cI : ClassId) (aM aMst aMdcs aMtot aMfrm aMsiz aMffr aMfsz aMlkd aMlat aMkkd aMkat aModr aMgrp aMikd aMiat : Nat) (fu : Nat) (thr : Int32) (tpd : Int32) (frs : Int32) (frt : Int32) (top : Int32) (bgn : Int32) (mst : Int32) (ovr : Bool) (tgr : Bool) (lvs : Int32) (its : Int32) (hgh : Int64) (loo : Int64) (dfl : Bool) (st : Nat → Int32) (dcs : Nat → Int32) (frm : Nat → Int32) (siz : Nat → Int32) (p0 : Int32) (p1 : Int32) (p2 : Int32) (V0 : Int32) (hs : tw_MO_byteAt fu st dcs frm siz p0 p1 p2 = some V0) : Met l y_MO_byteAt mw_MO_byteAt { frames := 1, cells := 0, slots := 0, locals := 22 } (va_Pc [.ref aM, .int p0, .int p1, .int p2] (fun U => va_P D vwCl [(aM, .inr (11, [.int thr, .ref aMst, .int tpd, .ref aMdcs, .ref aMtot, .ref aMfrm, .ref aMsiz, .int frs, .int frt, .ref aMffr, .ref aMfsz, .int top, .int bgn, .int mst, .int (b2i ovr), .int (b2i tgr), .int lvs, .ref aMlkd, .ref aMlat, .ref aMkkd, .ref aMkat, .ref aModr, .ref aMgrp, .int its, .ref aMikd, .ref aMiat, .long hgh, .long loo, .int (b2i dfl)])), (aMst, .inl (cI, 136400, .inl st)), (aMdcs, .inl (cI, 2, .inl dcs)), (aMfrm, .inl (cI, 400, .inl frm)), (aMsiz, .inl (cI, 400, .inl siz))] U.heap ∧ hk_ D cB cI U)) (vp_Si (fun r => r = V0)) 0 0 (fun _ => False) := by
  refine Met.ofW (cc := b_MO_byteAt) (maxL := 4) (ret := (some .int)) (by decide) rfl ?_
  intro p e s m args below meth c s₁ B0 hml hv
  obtain ⟨rfl, hP, hk⟩ := hv
  have hK := hk.1
  have hN := hk.2.1
  have hx := B0.exec
  have hb := B0.bytes
  have hr := B0.returns
  have hT : ∀ w ∈ lw_g, w.before _ s = true := fun w h => atoms_spec (ws := mw_MO_byteAt) B0.pre w (List.mem_cons_of_mem _ h)
  have hown : s.vm.findClass R_MO = some m.cls := findClass_of_methodNamed B0.named
  have hlocks := B0.notSynchronized
  have hl := lv_entry ([.ref aM, .int p0, .int p1, .int p2]) (n := 4) (Nat.le_of_ble_eq_true rfl)
  rw [lg_entry_eq]
  generalize (lg_sl ([.ref aM, .int p0, .int p1, .int p2]) ++ List.replicate (4 - (lg_sl ([.ref aM, .int p0, .int p1, .int p2])).length) Slot.unset).toArray = ls at hl ⊢
  have hl : lv_has ls 4 [(0, .ref aM), (1, .int p0), (2, .int p1), (3, .int p2)] := hl
  refine lv_aload_n hx hb d_MO_byteAt_0 rfl (lv_at hl 0 rfl) ?_
  refine lv_iload_n hx hb d_MO_byteAt_1 rfl (lv_at hl 1 rfl) ?_
  refine lv_iload_n hx hb d_MO_byteAt_2 rfl (lv_at hl 2 rfl) ?_
  rcases h_1 : tw_MO_isThere fu dcs p0 p1 with _ | r_1
  · exact op_no hs (by rw [tw_MO_byteAt, h_1, ob1_no])
  refine rd_V (val := b2i r_1) (As := [.int p0, .int p1]) (rest := []) ⟨hx, hb, hml, hown, hT⟩ (c_MO_isThere l D cB cI aM aMst aMdcs aMtot aMfrm aMsiz aMffr aMfsz aMlkd aMlat aMkkd aMkat aModr aMgrp aMikd aMiat fu thr tpd frs frt top bgn mst ovr tgr lvs its hgh loo dfl dcs p0 p1 r_1 h_1) (cwV 2 hT (gV_of k_1488 k_1490 kp_MO_isThere k_12 kc_MO_isThere) rfl rfl rfl hd_MO_isThere ⟨Nat.le_of_ble_eq_true rfl, Nat.le_of_ble_eq_true rfl⟩) hk (hP.sub (ws' := [(aM, .inr (11, [.int thr, .ref aMst, .int tpd, .ref aMdcs, .ref aMtot, .ref aMfrm, .ref aMsiz, .int frs, .int frt, .ref aMffr, .ref aMfsz, .int top, .int bgn, .int mst, .int (b2i ovr), .int (b2i tgr), .int lvs, .ref aMlkd, .ref aMlat, .ref aMkkd, .ref aMkat, .ref aModr, .ref aMgrp, .int its, .ref aMikd, .ref aMiat, .long hgh, .long loo, .int (b2i dfl)])), (aMdcs, .inl (cI, 2, .inl dcs))]) [0, 2] rfl) (q0 := 0) rfl rfl rfl rfl hl.1 rfl (Nat.le_of_ble_eq_true rfl) d_MO_byteAt_3 ⟨Nat.zero_le _, Nat.zero_le _⟩ ?_
  refine lv_if_eq (tgt := 51) hx hb d_MO_byteAt_6 (by decide) (fun c_2 => ?_) (fun c_2 => ?_)
  · refine lv_iconst (v := -1) hx hb d_MO_byteAt_51 (by decide) ?_
    exact W.iret (v := (-1)) hx hb hr (fun t ht hW => ⟨(-1), rfl, (op_eq hs (by rw [tw_MO_byteAt, h_1, ob1_mk, if_pos c_2])), ht⟩) (fun _ h => by cases h) d_MO_byteAt_52
  · refine lv_iload_n hx hb d_MO_byteAt_9 rfl (lv_at hl 3 rfl) ?_
    refine lv_if_lt (tgt := 51) hx hb d_MO_byteAt_10 (by decide) (fun c_3 => ?_) (fun c_3 => ?_)
    · refine lv_iconst (v := -1) hx hb d_MO_byteAt_51 (by decide) ?_
      exact W.iret (v := (-1)) hx hb hr (fun t ht hW => ⟨(-1), rfl, (op_eq hs (by rw [tw_MO_byteAt, h_1, ob1_mk, if_neg c_2, if_pos c_3])), ht⟩) (fun _ h => by cases h) d_MO_byteAt_52
    · refine lv_iload_n hx hb d_MO_byteAt_13 rfl (lv_at hl 3 rfl) ?_
      refine lv_aload_n hx hb d_MO_byteAt_14 rfl (lv_at hl 0 rfl) ?_
      refine va_get (D := D) (ci := 11) (v := .ref aMsiz) (C := R_MO) (T := T_MO) (N := 29) hx hb hT u_MO hown hK hP 0 rfl rfl 6 (by decide) (hT _ k_1049) (fun _ h9 => h9) rfl d_MO_byteAt_15 ?_
      refine lv_sipush (v := 200) hx hb d_MO_byteAt_18 (by decide) ?_
      refine lv_iload_n hx hb d_MO_byteAt_21 rfl (lv_at hl 1 rfl) ?_
      refine lv_imul hx hb d_MO_byteAt_22 ?_
      refine lv_iload_n hx hb d_MO_byteAt_23 rfl (lv_at hl 2 rfl) ?_
      refine lv_iadd hx hb d_MO_byteAt_24 ?_
      by_cases c_4 : 0 ≤ ((200 * p0) + p1) ∧ ((200 * p0) + p1) < 400
      rotate_left
      · exact op_no hs (by rw [tw_MO_byteAt, h_1, ob1_mk, if_neg c_2, if_neg c_3, if_neg c_4])
      refine va_iald hx hb hK hP 4 1 rfl rfl (in_pp c_4.1 c_4.2 rfl) d_MO_byteAt_25 ?_
      refine lv_icmp_ge (tgt := 51) hx hb d_MO_byteAt_26 (by decide) (fun c_5 => ?_) (fun c_5 => ?_)
      · refine lv_iconst (v := -1) hx hb d_MO_byteAt_51 (by decide) ?_
        exact W.iret (v := (-1)) hx hb hr (fun t ht hW => ⟨(-1), rfl, (op_eq hs (by rw [tw_MO_byteAt, h_1, ob1_mk, if_neg c_2, if_neg c_3, if_pos c_4, if_pos c_5])), ht⟩) (fun _ h => by cases h) d_MO_byteAt_52
      · refine lv_aload_n hx hb d_MO_byteAt_29 rfl (lv_at hl 0 rfl) ?_
        refine va_get (D := D) (ci := 11) (v := .ref aMst) (C := R_MO) (T := T_MO) (N := 29) hx hb hT u_MO hown hK hP 0 rfl rfl 1 (by decide) (hT _ k_1044) (fun _ h9 => h9) rfl d_MO_byteAt_30 ?_
        refine lv_aload_n hx hb d_MO_byteAt_33 rfl (lv_at hl 0 rfl) ?_
        refine va_get (D := D) (ci := 11) (v := .ref aMfrm) (C := R_MO) (T := T_MO) (N := 29) hx hb hT u_MO hown hK hP 0 rfl rfl 5 (by decide) (hT _ k_1048) (fun _ h9 => h9) rfl d_MO_byteAt_34 ?_
        refine lv_sipush (v := 200) hx hb d_MO_byteAt_37 (by decide) ?_
        refine lv_iload_n hx hb d_MO_byteAt_40 rfl (lv_at hl 1 rfl) ?_
        refine lv_imul hx hb d_MO_byteAt_41 ?_
        refine lv_iload_n hx hb d_MO_byteAt_42 rfl (lv_at hl 2 rfl) ?_
        refine lv_iadd hx hb d_MO_byteAt_43 ?_
        refine va_iald hx hb hK hP 3 1 rfl rfl (in_pp c_4.1 c_4.2 rfl) d_MO_byteAt_44 ?_
        refine lv_iload_n hx hb d_MO_byteAt_45 rfl (lv_at hl 3 rfl) ?_
        refine lv_iadd hx hb d_MO_byteAt_46 ?_
        by_cases c_6 : 0 ≤ ((frm ((200 * p0) + p1).toNatClampNeg) + p2) ∧ ((frm ((200 * p0) + p1).toNatClampNeg) + p2) < 136400
        rotate_left
        · exact op_no hs (by rw [tw_MO_byteAt, h_1, ob1_mk, if_neg c_2, if_neg c_3, if_pos c_4, if_neg c_5, if_neg c_6])
        refine va_iald hx hb hK hP 1 1 rfl rfl (in_pp c_6.1 c_6.2 rfl) d_MO_byteAt_47 ?_
        refine lv_goto (tgt := 52) hx hb d_MO_byteAt_48 (by decide) ?_
        exact W.iret (v := st ((frm ((200 * p0) + p1).toNatClampNeg) + p2).toNatClampNeg) hx hb hr (fun t ht hW => ⟨st ((frm ((200 * p0) + p1).toNatClampNeg) + p2).toNatClampNeg, rfl, (op_eq hs (by rw [tw_MO_byteAt, h_1, ob1_mk, if_neg c_2, if_neg c_3, if_pos c_4, if_neg c_5, if_pos c_6])), ht⟩) (fun _ h => by cases h) d_MO_byteAt_52
