/-! printed by wip/gen -/
theorem k_1045 : (Jvm.Cond.fieldLink "PipelineBeltModel" (61 : Nat) "PipelineBeltModel" "taped" "I") ∈ lw_g := lw_gm (List.mem_append_right _ (List.mem_of_getElem? (i := 1045) (by decide +kernel))) rfl
theorem k_1050 : (Jvm.Cond.fieldLink "PipelineBeltModel" (197 : Nat) "PipelineBeltModel" "fresh" "I") ∈ lw_g := lw_gm (List.mem_append_right _ (List.mem_of_getElem? (i := 1050) (by decide +kernel))) rfl
theorem k_1051 : (Jvm.Cond.fieldLink "PipelineBeltModel" (200 : Nat) "PipelineBeltModel" "freshTotal" "I") ∈ lw_g := lw_gm (List.mem_append_right _ (List.mem_of_getElem? (i := 1051) (by decide +kernel))) rfl
theorem k_1054 : (Jvm.Cond.fieldLink "PipelineBeltModel" (155 : Nat) "PipelineBeltModel" "top" "I") ∈ lw_g := lw_gm (List.mem_append_right _ (List.mem_of_getElem? (i := 1054) (by decide +kernel))) rfl
theorem k_1055 : (Jvm.Cond.fieldLink "PipelineBeltModel" (158 : Nat) "PipelineBeltModel" "began" "I") ∈ lw_g := lw_gm (List.mem_append_right _ (List.mem_of_getElem? (i := 1055) (by decide +kernel))) rfl
theorem k_1056 : (Jvm.Cond.fieldLink "PipelineBeltModel" (161 : Nat) "PipelineBeltModel" "most" "I") ∈ lw_g := lw_gm (List.mem_append_right _ (List.mem_of_getElem? (i := 1056) (by decide +kernel))) rfl
theorem k_1057 : (Jvm.Cond.fieldLink "PipelineBeltModel" (151 : Nat) "PipelineBeltModel" "over" "Z") ∈ lw_g := lw_gm (List.mem_append_right _ (List.mem_of_getElem? (i := 1057) (by decide +kernel))) rfl
theorem k_1058 : (Jvm.Cond.fieldLink "PipelineBeltModel" (203 : Nat) "PipelineBeltModel" "tooGreat" "Z") ∈ lw_g := lw_gm (List.mem_append_right _ (List.mem_of_getElem? (i := 1058) (by decide +kernel))) rfl
theorem k_1059 : (Jvm.Cond.fieldLink "PipelineBeltModel" (148 : Nat) "PipelineBeltModel" "leaves" "I") ∈ lw_g := lw_gm (List.mem_append_right _ (List.mem_of_getElem? (i := 1059) (by decide +kernel))) rfl
theorem k_1060 : (Jvm.Cond.fieldLink "PipelineBeltModel" (33 : Nat) "PipelineBeltModel" "leafKind" "[I") ∈ lw_g := lw_gm (List.mem_append_right _ (List.mem_of_getElem? (i := 1060) (by decide +kernel))) rfl
theorem k_1061 : (Jvm.Cond.fieldLink "PipelineBeltModel" (36 : Nat) "PipelineBeltModel" "leafAt" "[I") ∈ lw_g := lw_gm (List.mem_append_right _ (List.mem_of_getElem? (i := 1061) (by decide +kernel))) rfl
theorem k_1071 : (Jvm.Cond.fieldLink "PipelineBeltModel" (330 : Nat) "PipelineBeltModel" "docFull" "Z") ∈ lw_g := lw_gm (List.mem_append_right _ (List.mem_of_getElem? (i := 1071) (by decide +kernel))) rfl
theorem k_1135 : (Jvm.Cond.methodLink "PipelineBeltModel" (64 : Nat) ({ cls := "PipelineBeltModel", name := "take", desc := "(I)V" } : Jvm.MethodName)) ∈ lw_g := lw_gm (List.mem_append_right _ (List.mem_of_getElem? (i := 1135) (by decide +kernel))) rfl
theorem k_1137 : (Jvm.Cond.instanceMethod ({ cls := "PipelineBeltModel", name := "take", desc := "(I)V" } : Jvm.MethodName)) ∈ lw_g := lw_gm (List.mem_append_right _ (List.mem_of_getElem? (i := 1137) (by decide +kernel))) rfl
theorem k_1139 : (Jvm.Cond.constant "PipelineBeltModel" (68 : Nat) (132400 : Int32)) ∈ lw_g := lw_gm (List.mem_append_right _ (List.mem_of_getElem? (i := 1139) (by decide +kernel))) rfl
theorem k_1190 : (Jvm.Cond.constant "PipelineBeltModel" (207 : Nat) (40000 : Int32)) ∈ lw_g := lw_gm (List.mem_append_right _ (List.mem_of_getElem? (i := 1190) (by decide +kernel))) rfl
theorem k_1305 : (Jvm.Cond.constant "PipelineBeltModel" (206 : Nat) (80000 : Int32)) ∈ lw_g := lw_gm (List.mem_append_right _ (List.mem_of_getElem? (i := 1305) (by decide +kernel))) rfl
theorem k_1314 : (Jvm.Cond.methodLink "PipelineBeltModel" (190 : Nat) ({ cls := "PipelineBeltModel", name := "beginValue", desc := "(II)V" } : Jvm.MethodName)) ∈ lw_g := lw_gm (List.mem_append_right _ (List.mem_of_getElem? (i := 1314) (by decide +kernel))) rfl
theorem k_1316 : (Jvm.Cond.instanceMethod ({ cls := "PipelineBeltModel", name := "beginValue", desc := "(II)V" } : Jvm.MethodName)) ∈ lw_g := lw_gm (List.mem_append_right _ (List.mem_of_getElem? (i := 1316) (by decide +kernel))) rfl
theorem k_1318 : (Jvm.Cond.methodLink "PipelineBeltModel" (180 : Nat) ({ cls := "PipelineBeltModel", name := "open", desc := "()I" } : Jvm.MethodName)) ∈ lw_g := lw_gm (List.mem_append_right _ (List.mem_of_getElem? (i := 1318) (by decide +kernel))) rfl
theorem k_1320 : (Jvm.Cond.instanceMethod ({ cls := "PipelineBeltModel", name := "open", desc := "()I" } : Jvm.MethodName)) ∈ lw_g := lw_gm (List.mem_append_right _ (List.mem_of_getElem? (i := 1320) (by decide +kernel))) rfl
theorem k_1322 : (Jvm.Cond.methodLink "PipelineBeltModel" (169 : Nat) ({ cls := "PipelineBeltModel", name := "putLow", desc := "(JI)V" } : Jvm.MethodName)) ∈ lw_g := lw_gm (List.mem_append_right _ (List.mem_of_getElem? (i := 1322) (by decide +kernel))) rfl
theorem k_1324 : (Jvm.Cond.instanceMethod ({ cls := "PipelineBeltModel", name := "putLow", desc := "(JI)V" } : Jvm.MethodName)) ∈ lw_g := lw_gm (List.mem_append_right _ (List.mem_of_getElem? (i := 1324) (by decide +kernel))) rfl
theorem k_1326 : (Jvm.Cond.methodLink "PipelineBeltModel" (164 : Nat) ({ cls := "PipelineBeltModel", name := "write", desc := "(I)V" } : Jvm.MethodName)) ∈ lw_g := lw_gm (List.mem_append_right _ (List.mem_of_getElem? (i := 1326) (by decide +kernel))) rfl
theorem k_1328 : (Jvm.Cond.instanceMethod ({ cls := "PipelineBeltModel", name := "write", desc := "(I)V" } : Jvm.MethodName)) ∈ lw_g := lw_gm (List.mem_append_right _ (List.mem_of_getElem? (i := 1328) (by decide +kernel))) rfl
theorem k_1338 : (Jvm.Cond.methodLink "PipelineBeltModel" (173 : Nat) ({ cls := "PipelineBeltModel", name := "copy", desc := "(II)V" } : Jvm.MethodName)) ∈ lw_g := lw_gm (List.mem_append_right _ (List.mem_of_getElem? (i := 1338) (by decide +kernel))) rfl
theorem k_1340 : (Jvm.Cond.instanceMethod ({ cls := "PipelineBeltModel", name := "copy", desc := "(II)V" } : Jvm.MethodName)) ∈ lw_g := lw_gm (List.mem_append_right _ (List.mem_of_getElem? (i := 1340) (by decide +kernel))) rfl
abbrev b_MO_leaf : ByteArray := prog_13_method_29_code
def y_MO_leaf : MethodName := ⟨R_MO, "leaf", "(II)V"⟩
theorem kc_MO_leaf : Cond.code y_MO_leaf b_MO_leaf 3 none ∈ lw_g := lw_gm (List.mem_append_right _ (List.mem_of_getElem? (i := 1459) (by decide +kernel))) rfl
abbrev mw_MO_leaf : List Cond := Cond.code y_MO_leaf b_MO_leaf 3 none :: lw_g
theorem hd_MO_leaf : y_MO_leaf.cls = R_MO ∧ y_MO_leaf.cls ≠ "java/lang/invoke/MethodHandle" ∧ y_MO_leaf.cls ≠ "java/lang/invoke/VarHandle" ∧ (parseMethodDescriptor y_MO_leaf.desc).map (fun d => d.parameters.length) = some 2 := by decide +kernel
theorem kp_MO_leaf : Cond.selects R_MO y_MO_leaf y_MO_leaf ∈ lw_g := lw_gm (List.mem_append_left _ (by decide +kernel)) rfl
theorem d_MO_leaf_0 : decode b_MO_leaf 0 = .ok (.aload_n 0, 1) := by decide +kernel
theorem d_MO_leaf_1 : decode b_MO_leaf 1 = .ok (.getfield 148, 3) := by decide +kernel
theorem d_MO_leaf_4 : decode b_MO_leaf 4 = .ok (.sipush 30000, 3) := by decide +kernel
theorem d_MO_leaf_7 : decode b_MO_leaf 7 = .ok (.irem, 1) := by decide +kernel
theorem d_MO_leaf_8 : decode b_MO_leaf 8 = .ok (.sipush 29999, 3) := by decide +kernel
theorem d_MO_leaf_11 : decode b_MO_leaf 11 = .ok (.if_icmp .ne 4, 3) := by decide +kernel
theorem d_MO_leaf_14 : decode b_MO_leaf 14 = .ok (.return_, 1) := by decide +kernel
theorem d_MO_leaf_15 : decode b_MO_leaf 15 = .ok (.aload_n 0, 1) := by decide +kernel
theorem d_MO_leaf_16 : decode b_MO_leaf 16 = .ok (.getfield 33, 3) := by decide +kernel
theorem d_MO_leaf_19 : decode b_MO_leaf 19 = .ok (.aload_n 0, 1) := by decide +kernel
theorem d_MO_leaf_20 : decode b_MO_leaf 20 = .ok (.getfield 148, 3) := by decide +kernel
theorem d_MO_leaf_23 : decode b_MO_leaf 23 = .ok (.iload_n 1, 1) := by decide +kernel
theorem d_MO_leaf_24 : decode b_MO_leaf 24 = .ok (.iastore, 1) := by decide +kernel
theorem d_MO_leaf_25 : decode b_MO_leaf 25 = .ok (.aload_n 0, 1) := by decide +kernel
theorem d_MO_leaf_26 : decode b_MO_leaf 26 = .ok (.getfield 36, 3) := by decide +kernel
theorem d_MO_leaf_29 : decode b_MO_leaf 29 = .ok (.aload_n 0, 1) := by decide +kernel
theorem d_MO_leaf_30 : decode b_MO_leaf 30 = .ok (.getfield 148, 3) := by decide +kernel
theorem d_MO_leaf_33 : decode b_MO_leaf 33 = .ok (.iload_n 2, 1) := by decide +kernel
theorem d_MO_leaf_34 : decode b_MO_leaf 34 = .ok (.iastore, 1) := by decide +kernel
theorem d_MO_leaf_35 : decode b_MO_leaf 35 = .ok (.aload_n 0, 1) := by decide +kernel
theorem d_MO_leaf_36 : decode b_MO_leaf 36 = .ok (.dup, 1) := by decide +kernel
theorem d_MO_leaf_37 : decode b_MO_leaf 37 = .ok (.getfield 148, 3) := by decide +kernel
theorem d_MO_leaf_40 : decode b_MO_leaf 40 = .ok (.iconst 1, 1) := by decide +kernel
theorem d_MO_leaf_41 : decode b_MO_leaf 41 = .ok (.iadd, 1) := by decide +kernel
theorem d_MO_leaf_42 : decode b_MO_leaf 42 = .ok (.putfield 148, 3) := by decide +kernel
theorem d_MO_leaf_45 : decode b_MO_leaf 45 = .ok (.return_, 1) := by decide +kernel
abbrev b_MO_write : ByteArray := prog_13_method_30_code
def y_MO_write : MethodName := ⟨R_MO, "write", "(I)V"⟩
theorem kc_MO_write : Cond.code y_MO_write b_MO_write 2 none ∈ lw_g := lw_gm (List.mem_append_right _ (List.mem_of_getElem? (i := 1329) (by decide +kernel))) rfl
abbrev mw_MO_write : List Cond := Cond.code y_MO_write b_MO_write 2 none :: lw_g
theorem hd_MO_write : y_MO_write.cls = R_MO ∧ y_MO_write.cls ≠ "java/lang/invoke/MethodHandle" ∧ y_MO_write.cls ≠ "java/lang/invoke/VarHandle" ∧ (parseMethodDescriptor y_MO_write.desc).map (fun d => d.parameters.length) = some 1 := by decide +kernel
theorem kp_MO_write : Cond.selects R_MO y_MO_write y_MO_write ∈ lw_g := lw_gm (List.mem_append_left _ (by decide +kernel)) rfl
theorem d_MO_write_0 : decode b_MO_write 0 = .ok (.aload_n 0, 1) := by decide +kernel
theorem d_MO_write_1 : decode b_MO_write 1 = .ok (.aload_n 0, 1) := by decide +kernel
theorem d_MO_write_2 : decode b_MO_write 2 = .ok (.getfield 151, 3) := by decide +kernel
theorem d_MO_write_5 : decode b_MO_write 5 = .ok (.ifCond .ne 19, 3) := by decide +kernel
theorem d_MO_write_8 : decode b_MO_write 8 = .ok (.aload_n 0, 1) := by decide +kernel
theorem d_MO_write_9 : decode b_MO_write 9 = .ok (.getfield 155, 3) := by decide +kernel
theorem d_MO_write_12 : decode b_MO_write 12 = .ok (.aload_n 0, 1) := by decide +kernel
theorem d_MO_write_13 : decode b_MO_write 13 = .ok (.getfield 158, 3) := by decide +kernel
theorem d_MO_write_16 : decode b_MO_write 16 = .ok (.isub, 1) := by decide +kernel
theorem d_MO_write_17 : decode b_MO_write 17 = .ok (.aload_n 0, 1) := by decide +kernel
theorem d_MO_write_18 : decode b_MO_write 18 = .ok (.getfield 161, 3) := by decide +kernel
theorem d_MO_write_21 : decode b_MO_write 21 = .ok (.if_icmp .lt 7, 3) := by decide +kernel
theorem d_MO_write_24 : decode b_MO_write 24 = .ok (.iconst 1, 1) := by decide +kernel
theorem d_MO_write_25 : decode b_MO_write 25 = .ok (.goto 4, 3) := by decide +kernel
theorem d_MO_write_28 : decode b_MO_write 28 = .ok (.iconst 0, 1) := by decide +kernel
theorem d_MO_write_29 : decode b_MO_write 29 = .ok (.putfield 151, 3) := by decide +kernel
theorem d_MO_write_32 : decode b_MO_write 32 = .ok (.aload_n 0, 1) := by decide +kernel
theorem d_MO_write_33 : decode b_MO_write 33 = .ok (.getfield 151, 3) := by decide +kernel
theorem d_MO_write_36 : decode b_MO_write 36 = .ok (.ifCond .eq 4, 3) := by decide +kernel
theorem d_MO_write_39 : decode b_MO_write 39 = .ok (.return_, 1) := by decide +kernel
theorem d_MO_write_40 : decode b_MO_write 40 = .ok (.aload_n 0, 1) := by decide +kernel
theorem d_MO_write_41 : decode b_MO_write 41 = .ok (.getfield 8, 3) := by decide +kernel
theorem d_MO_write_44 : decode b_MO_write 44 = .ok (.aload_n 0, 1) := by decide +kernel
theorem d_MO_write_45 : decode b_MO_write 45 = .ok (.getfield 155, 3) := by decide +kernel
theorem d_MO_write_48 : decode b_MO_write 48 = .ok (.iload_n 1, 1) := by decide +kernel
theorem d_MO_write_49 : decode b_MO_write 49 = .ok (.iastore, 1) := by decide +kernel
theorem d_MO_write_50 : decode b_MO_write 50 = .ok (.aload_n 0, 1) := by decide +kernel
theorem d_MO_write_51 : decode b_MO_write 51 = .ok (.dup, 1) := by decide +kernel
theorem d_MO_write_52 : decode b_MO_write 52 = .ok (.getfield 155, 3) := by decide +kernel
theorem d_MO_write_55 : decode b_MO_write 55 = .ok (.iconst 1, 1) := by decide +kernel
theorem d_MO_write_56 : decode b_MO_write 56 = .ok (.iadd, 1) := by decide +kernel
theorem d_MO_write_57 : decode b_MO_write 57 = .ok (.putfield 155, 3) := by decide +kernel
theorem d_MO_write_60 : decode b_MO_write 60 = .ok (.return_, 1) := by decide +kernel
abbrev b_MO_copy : ByteArray := prog_13_method_31_code
def y_MO_copy : MethodName := ⟨R_MO, "copy", "(II)V"⟩
theorem kc_MO_copy : Cond.code y_MO_copy b_MO_copy 4 none ∈ lw_g := lw_gm (List.mem_append_right _ (List.mem_of_getElem? (i := 1341) (by decide +kernel))) rfl
abbrev mw_MO_copy : List Cond := Cond.code y_MO_copy b_MO_copy 4 none :: lw_g
theorem hd_MO_copy : y_MO_copy.cls = R_MO ∧ y_MO_copy.cls ≠ "java/lang/invoke/MethodHandle" ∧ y_MO_copy.cls ≠ "java/lang/invoke/VarHandle" ∧ (parseMethodDescriptor y_MO_copy.desc).map (fun d => d.parameters.length) = some 2 := by decide +kernel
theorem kp_MO_copy : Cond.selects R_MO y_MO_copy y_MO_copy ∈ lw_g := lw_gm (List.mem_append_left _ (by decide +kernel)) rfl
theorem d_MO_copy_0 : decode b_MO_copy 0 = .ok (.iconst 0, 1) := by decide +kernel
theorem d_MO_copy_1 : decode b_MO_copy 1 = .ok (.istore_n 3, 1) := by decide +kernel
theorem d_MO_copy_2 : decode b_MO_copy 2 = .ok (.iload_n 3, 1) := by decide +kernel
theorem d_MO_copy_3 : decode b_MO_copy 3 = .ok (.iload_n 2, 1) := by decide +kernel
theorem d_MO_copy_4 : decode b_MO_copy 4 = .ok (.if_icmp .ge 21, 3) := by decide +kernel
theorem d_MO_copy_7 : decode b_MO_copy 7 = .ok (.aload_n 0, 1) := by decide +kernel
theorem d_MO_copy_8 : decode b_MO_copy 8 = .ok (.aload_n 0, 1) := by decide +kernel
theorem d_MO_copy_9 : decode b_MO_copy 9 = .ok (.getfield 8, 3) := by decide +kernel
theorem d_MO_copy_12 : decode b_MO_copy 12 = .ok (.iload_n 1, 1) := by decide +kernel
theorem d_MO_copy_13 : decode b_MO_copy 13 = .ok (.iload_n 3, 1) := by decide +kernel
theorem d_MO_copy_14 : decode b_MO_copy 14 = .ok (.iadd, 1) := by decide +kernel
theorem d_MO_copy_15 : decode b_MO_copy 15 = .ok (.iaload, 1) := by decide +kernel
theorem d_MO_copy_16 : decode b_MO_copy 16 = .ok (.invokevirtual 164, 3) := by decide +kernel
theorem d_MO_copy_19 : decode b_MO_copy 19 = .ok (.iinc 3 1, 3) := by decide +kernel
theorem d_MO_copy_22 : decode b_MO_copy 22 = .ok (.goto (-20), 3) := by decide +kernel
theorem d_MO_copy_25 : decode b_MO_copy 25 = .ok (.return_, 1) := by decide +kernel
abbrev b_MO_putLow : ByteArray := prog_13_method_32_code
def y_MO_putLow : MethodName := ⟨R_MO, "putLow", "(JI)V"⟩
theorem kc_MO_putLow : Cond.code y_MO_putLow b_MO_putLow 5 none ∈ lw_g := lw_gm (List.mem_append_right _ (List.mem_of_getElem? (i := 1325) (by decide +kernel))) rfl
abbrev mw_MO_putLow : List Cond := Cond.code y_MO_putLow b_MO_putLow 5 none :: lw_g
theorem hd_MO_putLow : y_MO_putLow.cls = R_MO ∧ y_MO_putLow.cls ≠ "java/lang/invoke/MethodHandle" ∧ y_MO_putLow.cls ≠ "java/lang/invoke/VarHandle" ∧ (parseMethodDescriptor y_MO_putLow.desc).map (fun d => d.parameters.length) = some 2 := by decide +kernel
theorem kp_MO_putLow : Cond.selects R_MO y_MO_putLow y_MO_putLow ∈ lw_g := lw_gm (List.mem_append_left _ (by decide +kernel)) rfl
theorem d_MO_putLow_0 : decode b_MO_putLow 0 = .ok (.iconst 0, 1) := by decide +kernel
theorem d_MO_putLow_1 : decode b_MO_putLow 1 = .ok (.istore 4, 2) := by decide +kernel
theorem d_MO_putLow_3 : decode b_MO_putLow 3 = .ok (.iload 4, 2) := by decide +kernel
theorem d_MO_putLow_5 : decode b_MO_putLow 5 = .ok (.iload_n 3, 1) := by decide +kernel
theorem d_MO_putLow_6 : decode b_MO_putLow 6 = .ok (.if_icmp .ge 25, 3) := by decide +kernel
theorem d_MO_putLow_9 : decode b_MO_putLow 9 = .ok (.aload_n 0, 1) := by decide +kernel
theorem d_MO_putLow_10 : decode b_MO_putLow 10 = .ok (.lload_n 1, 1) := by decide +kernel
theorem d_MO_putLow_11 : decode b_MO_putLow 11 = .ok (.bipush 8, 2) := by decide +kernel
theorem d_MO_putLow_13 : decode b_MO_putLow 13 = .ok (.iload 4, 2) := by decide +kernel
theorem d_MO_putLow_15 : decode b_MO_putLow 15 = .ok (.imul, 1) := by decide +kernel
theorem d_MO_putLow_16 : decode b_MO_putLow 16 = .ok (.lshr, 1) := by decide +kernel
theorem d_MO_putLow_17 : decode b_MO_putLow 17 = .ok (.ldc2_w 167, 3) := by decide +kernel
theorem d_MO_putLow_20 : decode b_MO_putLow 20 = .ok (.land, 1) := by decide +kernel
theorem d_MO_putLow_21 : decode b_MO_putLow 21 = .ok (.l2i, 1) := by decide +kernel
theorem d_MO_putLow_22 : decode b_MO_putLow 22 = .ok (.invokevirtual 164, 3) := by decide +kernel
theorem d_MO_putLow_25 : decode b_MO_putLow 25 = .ok (.iinc 4 1, 3) := by decide +kernel
theorem d_MO_putLow_28 : decode b_MO_putLow 28 = .ok (.goto (-25), 3) := by decide +kernel
theorem d_MO_putLow_31 : decode b_MO_putLow 31 = .ok (.return_, 1) := by decide +kernel
abbrev b_MO_putDigits : ByteArray := prog_13_method_33_code
def y_MO_putDigits : MethodName := ⟨R_MO, "putDigits", "(I)V"⟩
theorem kc_MO_putDigits : Cond.code y_MO_putDigits b_MO_putDigits 2 none ∈ lw_g := lw_gm (List.mem_append_right _ (List.mem_of_getElem? (i := 1370) (by decide +kernel))) rfl
abbrev mw_MO_putDigits : List Cond := Cond.code y_MO_putDigits b_MO_putDigits 2 none :: lw_g
theorem hd_MO_putDigits : y_MO_putDigits.cls = R_MO ∧ y_MO_putDigits.cls ≠ "java/lang/invoke/MethodHandle" ∧ y_MO_putDigits.cls ≠ "java/lang/invoke/VarHandle" ∧ (parseMethodDescriptor y_MO_putDigits.desc).map (fun d => d.parameters.length) = some 1 := by decide +kernel
theorem kp_MO_putDigits : Cond.selects R_MO y_MO_putDigits y_MO_putDigits ∈ lw_g := lw_gm (List.mem_append_left _ (by decide +kernel)) rfl
theorem d_MO_putDigits_0 : decode b_MO_putDigits 0 = .ok (.iload_n 1, 1) := by decide +kernel
theorem d_MO_putDigits_1 : decode b_MO_putDigits 1 = .ok (.bipush 99, 2) := by decide +kernel
theorem d_MO_putDigits_3 : decode b_MO_putDigits 3 = .ok (.if_icmp .le 14, 3) := by decide +kernel
theorem d_MO_putDigits_6 : decode b_MO_putDigits 6 = .ok (.aload_n 0, 1) := by decide +kernel
theorem d_MO_putDigits_7 : decode b_MO_putDigits 7 = .ok (.bipush 48, 2) := by decide +kernel
theorem d_MO_putDigits_9 : decode b_MO_putDigits 9 = .ok (.iload_n 1, 1) := by decide +kernel
theorem d_MO_putDigits_10 : decode b_MO_putDigits 10 = .ok (.bipush 100, 2) := by decide +kernel
theorem d_MO_putDigits_12 : decode b_MO_putDigits 12 = .ok (.idiv, 1) := by decide +kernel
theorem d_MO_putDigits_13 : decode b_MO_putDigits 13 = .ok (.iadd, 1) := by decide +kernel
theorem d_MO_putDigits_14 : decode b_MO_putDigits 14 = .ok (.invokevirtual 164, 3) := by decide +kernel
theorem d_MO_putDigits_17 : decode b_MO_putDigits 17 = .ok (.iload_n 1, 1) := by decide +kernel
theorem d_MO_putDigits_18 : decode b_MO_putDigits 18 = .ok (.bipush 9, 2) := by decide +kernel
theorem d_MO_putDigits_20 : decode b_MO_putDigits 20 = .ok (.if_icmp .le 17, 3) := by decide +kernel
theorem d_MO_putDigits_23 : decode b_MO_putDigits 23 = .ok (.aload_n 0, 1) := by decide +kernel
theorem d_MO_putDigits_24 : decode b_MO_putDigits 24 = .ok (.bipush 48, 2) := by decide +kernel
theorem d_MO_putDigits_26 : decode b_MO_putDigits 26 = .ok (.iload_n 1, 1) := by decide +kernel
theorem d_MO_putDigits_27 : decode b_MO_putDigits 27 = .ok (.bipush 10, 2) := by decide +kernel
theorem d_MO_putDigits_29 : decode b_MO_putDigits 29 = .ok (.idiv, 1) := by decide +kernel
theorem d_MO_putDigits_30 : decode b_MO_putDigits 30 = .ok (.bipush 10, 2) := by decide +kernel
theorem d_MO_putDigits_32 : decode b_MO_putDigits 32 = .ok (.irem, 1) := by decide +kernel
theorem d_MO_putDigits_33 : decode b_MO_putDigits 33 = .ok (.iadd, 1) := by decide +kernel
theorem d_MO_putDigits_34 : decode b_MO_putDigits 34 = .ok (.invokevirtual 164, 3) := by decide +kernel
theorem d_MO_putDigits_37 : decode b_MO_putDigits 37 = .ok (.aload_n 0, 1) := by decide +kernel
theorem d_MO_putDigits_38 : decode b_MO_putDigits 38 = .ok (.bipush 48, 2) := by decide +kernel
theorem d_MO_putDigits_40 : decode b_MO_putDigits 40 = .ok (.iload_n 1, 1) := by decide +kernel
theorem d_MO_putDigits_41 : decode b_MO_putDigits 41 = .ok (.bipush 10, 2) := by decide +kernel
theorem d_MO_putDigits_43 : decode b_MO_putDigits 43 = .ok (.irem, 1) := by decide +kernel
theorem d_MO_putDigits_44 : decode b_MO_putDigits 44 = .ok (.iadd, 1) := by decide +kernel
theorem d_MO_putDigits_45 : decode b_MO_putDigits 45 = .ok (.invokevirtual 164, 3) := by decide +kernel
theorem d_MO_putDigits_48 : decode b_MO_putDigits 48 = .ok (.aload_n 0, 1) := by decide +kernel
theorem d_MO_putDigits_49 : decode b_MO_putDigits 49 = .ok (.iconst 0, 1) := by decide +kernel
theorem d_MO_putDigits_50 : decode b_MO_putDigits 50 = .ok (.invokevirtual 164, 3) := by decide +kernel
theorem d_MO_putDigits_53 : decode b_MO_putDigits 53 = .ok (.return_, 1) := by decide +kernel
abbrev b_MO_open : ByteArray := prog_13_method_34_code
def y_MO_open : MethodName := ⟨R_MO, "open", "()I"⟩
theorem kc_MO_open : Cond.code y_MO_open b_MO_open 1 (some .int) ∈ lw_g := lw_gm (List.mem_append_right _ (List.mem_of_getElem? (i := 1321) (by decide +kernel))) rfl
abbrev mw_MO_open : List Cond := Cond.code y_MO_open b_MO_open 1 (some .int) :: lw_g
theorem hd_MO_open : y_MO_open.cls = R_MO ∧ y_MO_open.cls ≠ "java/lang/invoke/MethodHandle" ∧ y_MO_open.cls ≠ "java/lang/invoke/VarHandle" ∧ (parseMethodDescriptor y_MO_open.desc).map (fun d => d.parameters.length) = some 0 := by decide +kernel
theorem kp_MO_open : Cond.selects R_MO y_MO_open y_MO_open ∈ lw_g := lw_gm (List.mem_append_left _ (by decide +kernel)) rfl
theorem d_MO_open_0 : decode b_MO_open 0 = .ok (.aload_n 0, 1) := by decide +kernel
theorem d_MO_open_1 : decode b_MO_open 1 = .ok (.lconst 0, 1) := by decide +kernel
theorem d_MO_open_2 : decode b_MO_open 2 = .ok (.iconst 4, 1) := by decide +kernel
theorem d_MO_open_3 : decode b_MO_open 3 = .ok (.invokevirtual 169, 3) := by decide +kernel
theorem d_MO_open_6 : decode b_MO_open 6 = .ok (.aload_n 0, 1) := by decide +kernel
theorem d_MO_open_7 : decode b_MO_open 7 = .ok (.getfield 155, 3) := by decide +kernel
theorem d_MO_open_10 : decode b_MO_open 10 = .ok (.iconst 4, 1) := by decide +kernel
theorem d_MO_open_11 : decode b_MO_open 11 = .ok (.isub, 1) := by decide +kernel
theorem d_MO_open_12 : decode b_MO_open 12 = .ok (.ireturn, 1) := by decide +kernel
abbrev b_MO_close : ByteArray := prog_13_method_35_code
def y_MO_close : MethodName := ⟨R_MO, "close", "(I)V"⟩
theorem kc_MO_close : Cond.code y_MO_close b_MO_close 4 none ∈ lw_g := lw_gm (List.mem_append_right _ (List.mem_of_getElem? (i := 1374) (by decide +kernel))) rfl
abbrev mw_MO_close : List Cond := Cond.code y_MO_close b_MO_close 4 none :: lw_g
theorem hd_MO_close : y_MO_close.cls = R_MO ∧ y_MO_close.cls ≠ "java/lang/invoke/MethodHandle" ∧ y_MO_close.cls ≠ "java/lang/invoke/VarHandle" ∧ (parseMethodDescriptor y_MO_close.desc).map (fun d => d.parameters.length) = some 1 := by decide +kernel
theorem kp_MO_close : Cond.selects R_MO y_MO_close y_MO_close ∈ lw_g := lw_gm (List.mem_append_left _ (by decide +kernel)) rfl
theorem d_MO_close_0 : decode b_MO_close 0 = .ok (.aload_n 0, 1) := by decide +kernel
theorem d_MO_close_1 : decode b_MO_close 1 = .ok (.iconst 0, 1) := by decide +kernel
theorem d_MO_close_2 : decode b_MO_close 2 = .ok (.invokevirtual 164, 3) := by decide +kernel
theorem d_MO_close_5 : decode b_MO_close 5 = .ok (.aload_n 0, 1) := by decide +kernel
theorem d_MO_close_6 : decode b_MO_close 6 = .ok (.getfield 151, 3) := by decide +kernel
theorem d_MO_close_9 : decode b_MO_close 9 = .ok (.ifCond .eq 4, 3) := by decide +kernel
theorem d_MO_close_12 : decode b_MO_close 12 = .ok (.return_, 1) := by decide +kernel
theorem d_MO_close_13 : decode b_MO_close 13 = .ok (.aload_n 0, 1) := by decide +kernel
theorem d_MO_close_14 : decode b_MO_close 14 = .ok (.getfield 155, 3) := by decide +kernel
theorem d_MO_close_17 : decode b_MO_close 17 = .ok (.iload_n 1, 1) := by decide +kernel
theorem d_MO_close_18 : decode b_MO_close 18 = .ok (.isub, 1) := by decide +kernel
theorem d_MO_close_19 : decode b_MO_close 19 = .ok (.istore_n 2, 1) := by decide +kernel
theorem d_MO_close_20 : decode b_MO_close 20 = .ok (.iconst 0, 1) := by decide +kernel
theorem d_MO_close_21 : decode b_MO_close 21 = .ok (.istore_n 3, 1) := by decide +kernel
theorem d_MO_close_22 : decode b_MO_close 22 = .ok (.iload_n 3, 1) := by decide +kernel
theorem d_MO_close_23 : decode b_MO_close 23 = .ok (.iconst 4, 1) := by decide +kernel
theorem d_MO_close_24 : decode b_MO_close 24 = .ok (.if_icmp .ge 27, 3) := by decide +kernel
theorem d_MO_close_27 : decode b_MO_close 27 = .ok (.aload_n 0, 1) := by decide +kernel
theorem d_MO_close_28 : decode b_MO_close 28 = .ok (.getfield 8, 3) := by decide +kernel
theorem d_MO_close_31 : decode b_MO_close 31 = .ok (.iload_n 1, 1) := by decide +kernel
theorem d_MO_close_32 : decode b_MO_close 32 = .ok (.iload_n 3, 1) := by decide +kernel
theorem d_MO_close_33 : decode b_MO_close 33 = .ok (.iadd, 1) := by decide +kernel
theorem d_MO_close_34 : decode b_MO_close 34 = .ok (.iload_n 2, 1) := by decide +kernel
theorem d_MO_close_35 : decode b_MO_close 35 = .ok (.bipush 8, 2) := by decide +kernel
theorem d_MO_close_37 : decode b_MO_close 37 = .ok (.iload_n 3, 1) := by decide +kernel
theorem d_MO_close_38 : decode b_MO_close 38 = .ok (.imul, 1) := by decide +kernel
theorem d_MO_close_39 : decode b_MO_close 39 = .ok (.ishr, 1) := by decide +kernel
theorem d_MO_close_40 : decode b_MO_close 40 = .ok (.sipush 255, 3) := by decide +kernel
theorem d_MO_close_43 : decode b_MO_close 43 = .ok (.iand, 1) := by decide +kernel
theorem d_MO_close_44 : decode b_MO_close 44 = .ok (.iastore, 1) := by decide +kernel
theorem d_MO_close_45 : decode b_MO_close 45 = .ok (.iinc 3 1, 3) := by decide +kernel
theorem d_MO_close_48 : decode b_MO_close 48 = .ok (.goto (-26), 3) := by decide +kernel
theorem d_MO_close_51 : decode b_MO_close 51 = .ok (.return_, 1) := by decide +kernel
abbrev b_MO_head : ByteArray := prog_13_method_36_code
def y_MO_head : MethodName := ⟨R_MO, "head", "(II)V"⟩
theorem kc_MO_head : Cond.code y_MO_head b_MO_head 3 none ∈ lw_g := lw_gm (List.mem_append_right _ (List.mem_of_getElem? (i := 1378) (by decide +kernel))) rfl
abbrev mw_MO_head : List Cond := Cond.code y_MO_head b_MO_head 3 none :: lw_g
theorem hd_MO_head : y_MO_head.cls = R_MO ∧ y_MO_head.cls ≠ "java/lang/invoke/MethodHandle" ∧ y_MO_head.cls ≠ "java/lang/invoke/VarHandle" ∧ (parseMethodDescriptor y_MO_head.desc).map (fun d => d.parameters.length) = some 2 := by decide +kernel
theorem kp_MO_head : Cond.selects R_MO y_MO_head y_MO_head ∈ lw_g := lw_gm (List.mem_append_left _ (by decide +kernel)) rfl
theorem d_MO_head_0 : decode b_MO_head 0 = .ok (.aload_n 0, 1) := by decide +kernel
theorem d_MO_head_1 : decode b_MO_head 1 = .ok (.iload_n 1, 1) := by decide +kernel
theorem d_MO_head_2 : decode b_MO_head 2 = .ok (.invokevirtual 164, 3) := by decide +kernel
theorem d_MO_head_5 : decode b_MO_head 5 = .ok (.aload_n 0, 1) := by decide +kernel
theorem d_MO_head_6 : decode b_MO_head 6 = .ok (.iload_n 2, 1) := by decide +kernel
theorem d_MO_head_7 : decode b_MO_head 7 = .ok (.iconst 1, 1) := by decide +kernel
theorem d_MO_head_8 : decode b_MO_head 8 = .ok (.iadd, 1) := by decide +kernel
theorem d_MO_head_9 : decode b_MO_head 9 = .ok (.aload_n 0, 1) := by decide +kernel
theorem d_MO_head_10 : decode b_MO_head 10 = .ok (.iload_n 2, 1) := by decide +kernel
theorem d_MO_head_11 : decode b_MO_head 11 = .ok (.invokevirtual 95, 3) := by decide +kernel
theorem d_MO_head_14 : decode b_MO_head 14 = .ok (.iload_n 2, 1) := by decide +kernel
theorem d_MO_head_15 : decode b_MO_head 15 = .ok (.isub, 1) := by decide +kernel
theorem d_MO_head_16 : decode b_MO_head 16 = .ok (.invokevirtual 173, 3) := by decide +kernel
theorem d_MO_head_19 : decode b_MO_head 19 = .ok (.return_, 1) := by decide +kernel
abbrev b_MO_element : ByteArray := prog_13_method_37_code
def y_MO_element : MethodName := ⟨R_MO, "element", "(I)V"⟩
theorem kc_MO_element : Cond.code y_MO_element b_MO_element 2 none ∈ lw_g := lw_gm (List.mem_append_right _ (List.mem_of_getElem? (i := 1337) (by decide +kernel))) rfl
abbrev mw_MO_element : List Cond := Cond.code y_MO_element b_MO_element 2 none :: lw_g
theorem hd_MO_element : y_MO_element.cls = R_MO ∧ y_MO_element.cls ≠ "java/lang/invoke/MethodHandle" ∧ y_MO_element.cls ≠ "java/lang/invoke/VarHandle" ∧ (parseMethodDescriptor y_MO_element.desc).map (fun d => d.parameters.length) = some 1 := by decide +kernel
theorem kp_MO_element : Cond.selects R_MO y_MO_element y_MO_element ∈ lw_g := lw_gm (List.mem_append_left _ (by decide +kernel)) rfl
theorem d_MO_element_0 : decode b_MO_element 0 = .ok (.aload_n 0, 1) := by decide +kernel
theorem d_MO_element_1 : decode b_MO_element 1 = .ok (.iload_n 1, 1) := by decide +kernel
theorem d_MO_element_2 : decode b_MO_element 2 = .ok (.aload_n 0, 1) := by decide +kernel
theorem d_MO_element_3 : decode b_MO_element 3 = .ok (.iload_n 1, 1) := by decide +kernel
theorem d_MO_element_4 : decode b_MO_element 4 = .ok (.invokevirtual 81, 3) := by decide +kernel
theorem d_MO_element_7 : decode b_MO_element 7 = .ok (.aload_n 0, 1) := by decide +kernel
theorem d_MO_element_8 : decode b_MO_element 8 = .ok (.aload_n 0, 1) := by decide +kernel
theorem d_MO_element_9 : decode b_MO_element 9 = .ok (.getfield 8, 3) := by decide +kernel
theorem d_MO_element_12 : decode b_MO_element 12 = .ok (.iload_n 1, 1) := by decide +kernel
theorem d_MO_element_13 : decode b_MO_element 13 = .ok (.iaload, 1) := by decide +kernel
theorem d_MO_element_14 : decode b_MO_element 14 = .ok (.aload_n 0, 1) := by decide +kernel
theorem d_MO_element_15 : decode b_MO_element 15 = .ok (.iload_n 1, 1) := by decide +kernel
theorem d_MO_element_16 : decode b_MO_element 16 = .ok (.invokevirtual 81, 3) := by decide +kernel
theorem d_MO_element_19 : decode b_MO_element 19 = .ok (.invokevirtual 84, 3) := by decide +kernel
theorem d_MO_element_22 : decode b_MO_element 22 = .ok (.iadd, 1) := by decide +kernel
theorem d_MO_element_23 : decode b_MO_element 23 = .ok (.iload_n 1, 1) := by decide +kernel
theorem d_MO_element_24 : decode b_MO_element 24 = .ok (.isub, 1) := by decide +kernel
theorem d_MO_element_25 : decode b_MO_element 25 = .ok (.invokevirtual 173, 3) := by decide +kernel
theorem d_MO_element_28 : decode b_MO_element 28 = .ok (.return_, 1) := by decide +kernel
abbrev b_MO_beginValue : ByteArray := prog_13_method_38_code
def y_MO_beginValue : MethodName := ⟨R_MO, "beginValue", "(II)V"⟩
theorem kc_MO_beginValue : Cond.code y_MO_beginValue b_MO_beginValue 3 none ∈ lw_g := lw_gm (List.mem_append_right _ (List.mem_of_getElem? (i := 1317) (by decide +kernel))) rfl
abbrev mw_MO_beginValue : List Cond := Cond.code y_MO_beginValue b_MO_beginValue 3 none :: lw_g
theorem hd_MO_beginValue : y_MO_beginValue.cls = R_MO ∧ y_MO_beginValue.cls ≠ "java/lang/invoke/MethodHandle" ∧ y_MO_beginValue.cls ≠ "java/lang/invoke/VarHandle" ∧ (parseMethodDescriptor y_MO_beginValue.desc).map (fun d => d.parameters.length) = some 2 := by decide +kernel
theorem kp_MO_beginValue : Cond.selects R_MO y_MO_beginValue y_MO_beginValue ∈ lw_g := lw_gm (List.mem_append_left _ (by decide +kernel)) rfl
theorem d_MO_beginValue_0 : decode b_MO_beginValue 0 = .ok (.aload_n 0, 1) := by decide +kernel
theorem d_MO_beginValue_1 : decode b_MO_beginValue 1 = .ok (.iload_n 1, 1) := by decide +kernel
theorem d_MO_beginValue_2 : decode b_MO_beginValue 2 = .ok (.putfield 155, 3) := by decide +kernel
theorem d_MO_beginValue_5 : decode b_MO_beginValue 5 = .ok (.aload_n 0, 1) := by decide +kernel
theorem d_MO_beginValue_6 : decode b_MO_beginValue 6 = .ok (.iload_n 1, 1) := by decide +kernel
theorem d_MO_beginValue_7 : decode b_MO_beginValue 7 = .ok (.putfield 158, 3) := by decide +kernel
theorem d_MO_beginValue_10 : decode b_MO_beginValue 10 = .ok (.aload_n 0, 1) := by decide +kernel
theorem d_MO_beginValue_11 : decode b_MO_beginValue 11 = .ok (.iload_n 2, 1) := by decide +kernel
theorem d_MO_beginValue_12 : decode b_MO_beginValue 12 = .ok (.putfield 161, 3) := by decide +kernel
theorem d_MO_beginValue_15 : decode b_MO_beginValue 15 = .ok (.aload_n 0, 1) := by decide +kernel
theorem d_MO_beginValue_16 : decode b_MO_beginValue 16 = .ok (.iconst 0, 1) := by decide +kernel
theorem d_MO_beginValue_17 : decode b_MO_beginValue 17 = .ok (.putfield 151, 3) := by decide +kernel
theorem d_MO_beginValue_20 : decode b_MO_beginValue 20 = .ok (.return_, 1) := by decide +kernel
abbrev b_MO_beginAll : ByteArray := prog_13_method_42_code
def y_MO_beginAll : MethodName := ⟨R_MO, "beginAll", "()V"⟩
theorem kc_MO_beginAll : Cond.code y_MO_beginAll b_MO_beginAll 1 none ∈ lw_g := lw_gm (List.mem_append_right _ (List.mem_of_getElem? (i := 1304) (by decide +kernel))) rfl
abbrev mw_MO_beginAll : List Cond := Cond.code y_MO_beginAll b_MO_beginAll 1 none :: lw_g
theorem hd_MO_beginAll : y_MO_beginAll.cls = R_MO ∧ y_MO_beginAll.cls ≠ "java/lang/invoke/MethodHandle" ∧ y_MO_beginAll.cls ≠ "java/lang/invoke/VarHandle" ∧ (parseMethodDescriptor y_MO_beginAll.desc).map (fun d => d.parameters.length) = some 0 := by decide +kernel
theorem kp_MO_beginAll : Cond.selects R_MO y_MO_beginAll y_MO_beginAll ∈ lw_g := lw_gm (List.mem_append_left _ (by decide +kernel)) rfl
theorem d_MO_beginAll_0 : decode b_MO_beginAll 0 = .ok (.aload_n 0, 1) := by decide +kernel
theorem d_MO_beginAll_1 : decode b_MO_beginAll 1 = .ok (.iconst 0, 1) := by decide +kernel
theorem d_MO_beginAll_2 : decode b_MO_beginAll 2 = .ok (.putfield 197, 3) := by decide +kernel
theorem d_MO_beginAll_5 : decode b_MO_beginAll 5 = .ok (.aload_n 0, 1) := by decide +kernel
theorem d_MO_beginAll_6 : decode b_MO_beginAll 6 = .ok (.iconst 0, 1) := by decide +kernel
theorem d_MO_beginAll_7 : decode b_MO_beginAll 7 = .ok (.putfield 200, 3) := by decide +kernel
theorem d_MO_beginAll_10 : decode b_MO_beginAll 10 = .ok (.aload_n 0, 1) := by decide +kernel
theorem d_MO_beginAll_11 : decode b_MO_beginAll 11 = .ok (.iconst 0, 1) := by decide +kernel
theorem d_MO_beginAll_12 : decode b_MO_beginAll 12 = .ok (.putfield 203, 3) := by decide +kernel
theorem d_MO_beginAll_15 : decode b_MO_beginAll 15 = .ok (.aload_n 0, 1) := by decide +kernel
theorem d_MO_beginAll_16 : decode b_MO_beginAll 16 = .ok (.ldc 206, 2) := by decide +kernel
theorem d_MO_beginAll_18 : decode b_MO_beginAll 18 = .ok (.putfield 155, 3) := by decide +kernel
theorem d_MO_beginAll_21 : decode b_MO_beginAll 21 = .ok (.return_, 1) := by decide +kernel
abbrev b_MO_beginDocument : ByteArray := prog_13_method_43_code
def y_MO_beginDocument : MethodName := ⟨R_MO, "beginDocument", "()I"⟩
theorem kc_MO_beginDocument : Cond.code y_MO_beginDocument b_MO_beginDocument 2 (some .int) ∈ lw_g := lw_gm (List.mem_append_right _ (List.mem_of_getElem? (i := 1313) (by decide +kernel))) rfl
abbrev mw_MO_beginDocument : List Cond := Cond.code y_MO_beginDocument b_MO_beginDocument 2 (some .int) :: lw_g
theorem hd_MO_beginDocument : y_MO_beginDocument.cls = R_MO ∧ y_MO_beginDocument.cls ≠ "java/lang/invoke/MethodHandle" ∧ y_MO_beginDocument.cls ≠ "java/lang/invoke/VarHandle" ∧ (parseMethodDescriptor y_MO_beginDocument.desc).map (fun d => d.parameters.length) = some 0 := by decide +kernel
theorem kp_MO_beginDocument : Cond.selects R_MO y_MO_beginDocument y_MO_beginDocument ∈ lw_g := lw_gm (List.mem_append_left _ (by decide +kernel)) rfl
theorem d_MO_beginDocument_0 : decode b_MO_beginDocument 0 = .ok (.aload_n 0, 1) := by decide +kernel
theorem d_MO_beginDocument_1 : decode b_MO_beginDocument 1 = .ok (.getfield 203, 3) := by decide +kernel
theorem d_MO_beginDocument_4 : decode b_MO_beginDocument 4 = .ok (.ifCond .eq 9, 3) := by decide +kernel
theorem d_MO_beginDocument_7 : decode b_MO_beginDocument 7 = .ok (.aload_n 0, 1) := by decide +kernel
theorem d_MO_beginDocument_8 : decode b_MO_beginDocument 8 = .ok (.ldc 206, 2) := by decide +kernel
theorem d_MO_beginDocument_10 : decode b_MO_beginDocument 10 = .ok (.putfield 155, 3) := by decide +kernel
theorem d_MO_beginDocument_13 : decode b_MO_beginDocument 13 = .ok (.aload_n 0, 1) := by decide +kernel
theorem d_MO_beginDocument_14 : decode b_MO_beginDocument 14 = .ok (.getfield 155, 3) := by decide +kernel
theorem d_MO_beginDocument_17 : decode b_MO_beginDocument 17 = .ok (.istore_n 1, 1) := by decide +kernel
theorem d_MO_beginDocument_18 : decode b_MO_beginDocument 18 = .ok (.aload_n 0, 1) := by decide +kernel
theorem d_MO_beginDocument_19 : decode b_MO_beginDocument 19 = .ok (.iload_n 1, 1) := by decide +kernel
theorem d_MO_beginDocument_20 : decode b_MO_beginDocument 20 = .ok (.sipush 2001, 3) := by decide +kernel
theorem d_MO_beginDocument_23 : decode b_MO_beginDocument 23 = .ok (.invokevirtual 190, 3) := by decide +kernel
theorem d_MO_beginDocument_26 : decode b_MO_beginDocument 26 = .ok (.aload_n 0, 1) := by decide +kernel
theorem d_MO_beginDocument_27 : decode b_MO_beginDocument 27 = .ok (.invokevirtual 180, 3) := by decide +kernel
theorem d_MO_beginDocument_30 : decode b_MO_beginDocument 30 = .ok (.ireturn, 1) := by decide +kernel
abbrev b_MO_resume : ByteArray := prog_13_method_68_code
def y_MO_resume : MethodName := ⟨R_MO, "resume", "(II)V"⟩
theorem kc_MO_resume : Cond.code y_MO_resume b_MO_resume 4 none ∈ lw_g := lw_gm (List.mem_append_right _ (List.mem_of_getElem? (i := 1422) (by decide +kernel))) rfl
abbrev mw_MO_resume : List Cond := Cond.code y_MO_resume b_MO_resume 4 none :: lw_g
theorem hd_MO_resume : y_MO_resume.cls = R_MO ∧ y_MO_resume.cls ≠ "java/lang/invoke/MethodHandle" ∧ y_MO_resume.cls ≠ "java/lang/invoke/VarHandle" ∧ (parseMethodDescriptor y_MO_resume.desc).map (fun d => d.parameters.length) = some 2 := by decide +kernel
theorem kp_MO_resume : Cond.selects R_MO y_MO_resume y_MO_resume ∈ lw_g := lw_gm (List.mem_append_left _ (by decide +kernel)) rfl
theorem d_MO_resume_0 : decode b_MO_resume 0 = .ok (.aload_n 0, 1) := by decide +kernel
theorem d_MO_resume_1 : decode b_MO_resume 1 = .ok (.getfield 330, 3) := by decide +kernel
theorem d_MO_resume_4 : decode b_MO_resume 4 = .ok (.istore_n 3, 1) := by decide +kernel
theorem d_MO_resume_5 : decode b_MO_resume 5 = .ok (.aload_n 0, 1) := by decide +kernel
theorem d_MO_resume_6 : decode b_MO_resume 6 = .ok (.iload_n 2, 1) := by decide +kernel
theorem d_MO_resume_7 : decode b_MO_resume 7 = .ok (.putfield 155, 3) := by decide +kernel
theorem d_MO_resume_10 : decode b_MO_resume 10 = .ok (.aload_n 0, 1) := by decide +kernel
theorem d_MO_resume_11 : decode b_MO_resume 11 = .ok (.iload_n 1, 1) := by decide +kernel
theorem d_MO_resume_12 : decode b_MO_resume 12 = .ok (.putfield 158, 3) := by decide +kernel
theorem d_MO_resume_15 : decode b_MO_resume 15 = .ok (.aload_n 0, 1) := by decide +kernel
theorem d_MO_resume_16 : decode b_MO_resume 16 = .ok (.sipush 2001, 3) := by decide +kernel
theorem d_MO_resume_19 : decode b_MO_resume 19 = .ok (.putfield 161, 3) := by decide +kernel
theorem d_MO_resume_22 : decode b_MO_resume 22 = .ok (.aload_n 0, 1) := by decide +kernel
theorem d_MO_resume_23 : decode b_MO_resume 23 = .ok (.iload_n 3, 1) := by decide +kernel
theorem d_MO_resume_24 : decode b_MO_resume 24 = .ok (.putfield 151, 3) := by decide +kernel
theorem d_MO_resume_27 : decode b_MO_resume 27 = .ok (.return_, 1) := by decide +kernel
abbrev b_MO_take : ByteArray := prog_13_method_4_code
def y_MO_take : MethodName := ⟨R_MO, "take", "(I)V"⟩
theorem kc_MO_take : Cond.code y_MO_take b_MO_take 3 none ∈ lw_g := lw_gm (List.mem_append_right _ (List.mem_of_getElem? (i := 1138) (by decide +kernel))) rfl
abbrev mw_MO_take : List Cond := Cond.code y_MO_take b_MO_take 3 none :: lw_g
theorem hd_MO_take : y_MO_take.cls = R_MO ∧ y_MO_take.cls ≠ "java/lang/invoke/MethodHandle" ∧ y_MO_take.cls ≠ "java/lang/invoke/VarHandle" ∧ (parseMethodDescriptor y_MO_take.desc).map (fun d => d.parameters.length) = some 1 := by decide +kernel
theorem kp_MO_take : Cond.selects R_MO y_MO_take y_MO_take ∈ lw_g := lw_gm (List.mem_append_left _ (by decide +kernel)) rfl
theorem d_MO_take_0 : decode b_MO_take 0 = .ok (.bipush 24, 2) := by decide +kernel
theorem d_MO_take_2 : decode b_MO_take 2 = .ok (.istore_n 2, 1) := by decide +kernel
theorem d_MO_take_3 : decode b_MO_take 3 = .ok (.iload_n 2, 1) := by decide +kernel
theorem d_MO_take_4 : decode b_MO_take 4 = .ok (.ifCond .lt 38, 3) := by decide +kernel
theorem d_MO_take_7 : decode b_MO_take 7 = .ok (.aload_n 0, 1) := by decide +kernel
theorem d_MO_take_8 : decode b_MO_take 8 = .ok (.getfield 8, 3) := by decide +kernel
theorem d_MO_take_11 : decode b_MO_take 11 = .ok (.ldc 68, 2) := by decide +kernel
theorem d_MO_take_13 : decode b_MO_take 13 = .ok (.aload_n 0, 1) := by decide +kernel
theorem d_MO_take_14 : decode b_MO_take 14 = .ok (.getfield 61, 3) := by decide +kernel
theorem d_MO_take_17 : decode b_MO_take 17 = .ok (.iadd, 1) := by decide +kernel
theorem d_MO_take_18 : decode b_MO_take 18 = .ok (.iload_n 1, 1) := by decide +kernel
theorem d_MO_take_19 : decode b_MO_take 19 = .ok (.iload_n 2, 1) := by decide +kernel
theorem d_MO_take_20 : decode b_MO_take 20 = .ok (.ishr, 1) := by decide +kernel
theorem d_MO_take_21 : decode b_MO_take 21 = .ok (.sipush 255, 3) := by decide +kernel
theorem d_MO_take_24 : decode b_MO_take 24 = .ok (.iand, 1) := by decide +kernel
theorem d_MO_take_25 : decode b_MO_take 25 = .ok (.iastore, 1) := by decide +kernel
theorem d_MO_take_26 : decode b_MO_take 26 = .ok (.aload_n 0, 1) := by decide +kernel
theorem d_MO_take_27 : decode b_MO_take 27 = .ok (.dup, 1) := by decide +kernel
theorem d_MO_take_28 : decode b_MO_take 28 = .ok (.getfield 61, 3) := by decide +kernel
theorem d_MO_take_31 : decode b_MO_take 31 = .ok (.iconst 1, 1) := by decide +kernel
theorem d_MO_take_32 : decode b_MO_take 32 = .ok (.iadd, 1) := by decide +kernel
theorem d_MO_take_33 : decode b_MO_take 33 = .ok (.putfield 61, 3) := by decide +kernel
theorem d_MO_take_36 : decode b_MO_take 36 = .ok (.iinc 2 (-8), 3) := by decide +kernel
theorem d_MO_take_39 : decode b_MO_take 39 = .ok (.goto (-36), 3) := by decide +kernel
theorem d_MO_take_42 : decode b_MO_take 42 = .ok (.return_, 1) := by decide +kernel
abbrev b_MO_feed : ByteArray := prog_13_method_3_code
def y_MO_feed : MethodName := ⟨R_MO, "feed", "(IIIII)I"⟩
theorem kc_MO_feed : Cond.code y_MO_feed b_MO_feed 6 (some .int) ∈ lw_g := lw_gm (List.mem_append_right _ (List.mem_of_getElem? (i := 1134) (by decide +kernel))) rfl
abbrev mw_MO_feed : List Cond := Cond.code y_MO_feed b_MO_feed 6 (some .int) :: lw_g
theorem hd_MO_feed : y_MO_feed.cls = R_MO ∧ y_MO_feed.cls ≠ "java/lang/invoke/MethodHandle" ∧ y_MO_feed.cls ≠ "java/lang/invoke/VarHandle" ∧ (parseMethodDescriptor y_MO_feed.desc).map (fun d => d.parameters.length) = some 5 := by decide +kernel
theorem d_MO_feed_0 : decode b_MO_feed 0 = .ok (.aload_n 0, 1) := by decide +kernel
theorem d_MO_feed_1 : decode b_MO_feed 1 = .ok (.getfield 61, 3) := by decide +kernel
theorem d_MO_feed_4 : decode b_MO_feed 4 = .ok (.bipush 20, 2) := by decide +kernel
theorem d_MO_feed_6 : decode b_MO_feed 6 = .ok (.iadd, 1) := by decide +kernel
theorem d_MO_feed_7 : decode b_MO_feed 7 = .ok (.sipush 2000, 3) := by decide +kernel
theorem d_MO_feed_10 : decode b_MO_feed 10 = .ok (.if_icmp .le 5, 3) := by decide +kernel
theorem d_MO_feed_13 : decode b_MO_feed 13 = .ok (.iconst (-1), 1) := by decide +kernel
theorem d_MO_feed_14 : decode b_MO_feed 14 = .ok (.ireturn, 1) := by decide +kernel
theorem d_MO_feed_15 : decode b_MO_feed 15 = .ok (.aload_n 0, 1) := by decide +kernel
theorem d_MO_feed_16 : decode b_MO_feed 16 = .ok (.iload_n 1, 1) := by decide +kernel
theorem d_MO_feed_17 : decode b_MO_feed 17 = .ok (.invokevirtual 64, 3) := by decide +kernel
theorem d_MO_feed_20 : decode b_MO_feed 20 = .ok (.aload_n 0, 1) := by decide +kernel
theorem d_MO_feed_21 : decode b_MO_feed 21 = .ok (.iload_n 2, 1) := by decide +kernel
theorem d_MO_feed_22 : decode b_MO_feed 22 = .ok (.invokevirtual 64, 3) := by decide +kernel
theorem d_MO_feed_25 : decode b_MO_feed 25 = .ok (.aload_n 0, 1) := by decide +kernel
theorem d_MO_feed_26 : decode b_MO_feed 26 = .ok (.iload_n 3, 1) := by decide +kernel
theorem d_MO_feed_27 : decode b_MO_feed 27 = .ok (.invokevirtual 64, 3) := by decide +kernel
theorem d_MO_feed_30 : decode b_MO_feed 30 = .ok (.aload_n 0, 1) := by decide +kernel
theorem d_MO_feed_31 : decode b_MO_feed 31 = .ok (.iload 4, 2) := by decide +kernel
theorem d_MO_feed_33 : decode b_MO_feed 33 = .ok (.invokevirtual 64, 3) := by decide +kernel
theorem d_MO_feed_36 : decode b_MO_feed 36 = .ok (.aload_n 0, 1) := by decide +kernel
theorem d_MO_feed_37 : decode b_MO_feed 37 = .ok (.iload 5, 2) := by decide +kernel
theorem d_MO_feed_39 : decode b_MO_feed 39 = .ok (.invokevirtual 64, 3) := by decide +kernel
theorem d_MO_feed_42 : decode b_MO_feed 42 = .ok (.aload_n 0, 1) := by decide +kernel
theorem d_MO_feed_43 : decode b_MO_feed 43 = .ok (.getfield 61, 3) := by decide +kernel
theorem d_MO_feed_46 : decode b_MO_feed 46 = .ok (.ireturn, 1) := by decide +kernel
abbrev b_MO_clear : ByteArray := prog_13_method_86_code
def y_MO_clear : MethodName := ⟨R_MO, "clear", "(I)I"⟩
theorem kc_MO_clear : Cond.code y_MO_clear b_MO_clear 3 (some .int) ∈ lw_g := lw_gm (List.mem_append_right _ (List.mem_of_getElem? (i := 1499) (by decide +kernel))) rfl
abbrev mw_MO_clear : List Cond := Cond.code y_MO_clear b_MO_clear 3 (some .int) :: lw_g
theorem hd_MO_clear : y_MO_clear.cls = R_MO ∧ y_MO_clear.cls ≠ "java/lang/invoke/MethodHandle" ∧ y_MO_clear.cls ≠ "java/lang/invoke/VarHandle" ∧ (parseMethodDescriptor y_MO_clear.desc).map (fun d => d.parameters.length) = some 1 := by decide +kernel
theorem d_MO_clear_0 : decode b_MO_clear 0 = .ok (.iload_n 1, 1) := by decide +kernel
theorem d_MO_clear_1 : decode b_MO_clear 1 = .ok (.ifCond .lt 8, 3) := by decide +kernel
theorem d_MO_clear_4 : decode b_MO_clear 4 = .ok (.iload_n 1, 1) := by decide +kernel
theorem d_MO_clear_5 : decode b_MO_clear 5 = .ok (.iconst 1, 1) := by decide +kernel
theorem d_MO_clear_6 : decode b_MO_clear 6 = .ok (.if_icmp .le 5, 3) := by decide +kernel
theorem d_MO_clear_9 : decode b_MO_clear 9 = .ok (.iconst (-1), 1) := by decide +kernel
theorem d_MO_clear_10 : decode b_MO_clear 10 = .ok (.ireturn, 1) := by decide +kernel
theorem d_MO_clear_11 : decode b_MO_clear 11 = .ok (.aload_n 0, 1) := by decide +kernel
theorem d_MO_clear_12 : decode b_MO_clear 12 = .ok (.getfield 14, 3) := by decide +kernel
theorem d_MO_clear_15 : decode b_MO_clear 15 = .ok (.iload_n 1, 1) := by decide +kernel
theorem d_MO_clear_16 : decode b_MO_clear 16 = .ok (.iaload, 1) := by decide +kernel
theorem d_MO_clear_17 : decode b_MO_clear 17 = .ok (.istore_n 2, 1) := by decide +kernel
theorem d_MO_clear_18 : decode b_MO_clear 18 = .ok (.aload_n 0, 1) := by decide +kernel
theorem d_MO_clear_19 : decode b_MO_clear 19 = .ok (.getfield 14, 3) := by decide +kernel
theorem d_MO_clear_22 : decode b_MO_clear 22 = .ok (.iload_n 1, 1) := by decide +kernel
theorem d_MO_clear_23 : decode b_MO_clear 23 = .ok (.iconst 0, 1) := by decide +kernel
theorem d_MO_clear_24 : decode b_MO_clear 24 = .ok (.iastore, 1) := by decide +kernel
theorem d_MO_clear_25 : decode b_MO_clear 25 = .ok (.aload_n 0, 1) := by decide +kernel
theorem d_MO_clear_26 : decode b_MO_clear 26 = .ok (.getfield 17, 3) := by decide +kernel
theorem d_MO_clear_29 : decode b_MO_clear 29 = .ok (.iload_n 1, 1) := by decide +kernel
theorem d_MO_clear_30 : decode b_MO_clear 30 = .ok (.iconst 0, 1) := by decide +kernel
theorem d_MO_clear_31 : decode b_MO_clear 31 = .ok (.iastore, 1) := by decide +kernel
theorem d_MO_clear_32 : decode b_MO_clear 32 = .ok (.iload_n 2, 1) := by decide +kernel
theorem d_MO_clear_33 : decode b_MO_clear 33 = .ok (.ireturn, 1) := by decide +kernel
abbrev b_MO_swap : ByteArray := prog_13_method_87_code
def y_MO_swap : MethodName := ⟨R_MO, "swap", "()V"⟩
theorem kc_MO_swap : Cond.code y_MO_swap b_MO_swap 3 none ∈ lw_g := lw_gm (List.mem_append_right _ (List.mem_of_getElem? (i := 1503) (by decide +kernel))) rfl
abbrev mw_MO_swap : List Cond := Cond.code y_MO_swap b_MO_swap 3 none :: lw_g
theorem hd_MO_swap : y_MO_swap.cls = R_MO ∧ y_MO_swap.cls ≠ "java/lang/invoke/MethodHandle" ∧ y_MO_swap.cls ≠ "java/lang/invoke/VarHandle" ∧ (parseMethodDescriptor y_MO_swap.desc).map (fun d => d.parameters.length) = some 0 := by decide +kernel
theorem d_MO_swap_0 : decode b_MO_swap 0 = .ok (.iconst 0, 1) := by decide +kernel
theorem d_MO_swap_1 : decode b_MO_swap 1 = .ok (.istore_n 1, 1) := by decide +kernel
theorem d_MO_swap_2 : decode b_MO_swap 2 = .ok (.iload_n 1, 1) := by decide +kernel
theorem d_MO_swap_3 : decode b_MO_swap 3 = .ok (.ldc 207, 2) := by decide +kernel
theorem d_MO_swap_5 : decode b_MO_swap 5 = .ok (.if_icmp .ge 41, 3) := by decide +kernel
theorem d_MO_swap_8 : decode b_MO_swap 8 = .ok (.aload_n 0, 1) := by decide +kernel
theorem d_MO_swap_9 : decode b_MO_swap 9 = .ok (.getfield 8, 3) := by decide +kernel
theorem d_MO_swap_12 : decode b_MO_swap 12 = .ok (.iload_n 1, 1) := by decide +kernel
theorem d_MO_swap_13 : decode b_MO_swap 13 = .ok (.iaload, 1) := by decide +kernel
theorem d_MO_swap_14 : decode b_MO_swap 14 = .ok (.istore_n 2, 1) := by decide +kernel
theorem d_MO_swap_15 : decode b_MO_swap 15 = .ok (.aload_n 0, 1) := by decide +kernel
theorem d_MO_swap_16 : decode b_MO_swap 16 = .ok (.getfield 8, 3) := by decide +kernel
theorem d_MO_swap_19 : decode b_MO_swap 19 = .ok (.iload_n 1, 1) := by decide +kernel
theorem d_MO_swap_20 : decode b_MO_swap 20 = .ok (.aload_n 0, 1) := by decide +kernel
theorem d_MO_swap_21 : decode b_MO_swap 21 = .ok (.getfield 8, 3) := by decide +kernel
theorem d_MO_swap_24 : decode b_MO_swap 24 = .ok (.ldc 207, 2) := by decide +kernel
theorem d_MO_swap_26 : decode b_MO_swap 26 = .ok (.iload_n 1, 1) := by decide +kernel
theorem d_MO_swap_27 : decode b_MO_swap 27 = .ok (.iadd, 1) := by decide +kernel
theorem d_MO_swap_28 : decode b_MO_swap 28 = .ok (.iaload, 1) := by decide +kernel
theorem d_MO_swap_29 : decode b_MO_swap 29 = .ok (.iastore, 1) := by decide +kernel
theorem d_MO_swap_30 : decode b_MO_swap 30 = .ok (.aload_n 0, 1) := by decide +kernel
theorem d_MO_swap_31 : decode b_MO_swap 31 = .ok (.getfield 8, 3) := by decide +kernel
theorem d_MO_swap_34 : decode b_MO_swap 34 = .ok (.ldc 207, 2) := by decide +kernel
theorem d_MO_swap_36 : decode b_MO_swap 36 = .ok (.iload_n 1, 1) := by decide +kernel
theorem d_MO_swap_37 : decode b_MO_swap 37 = .ok (.iadd, 1) := by decide +kernel
theorem d_MO_swap_38 : decode b_MO_swap 38 = .ok (.iload_n 2, 1) := by decide +kernel
theorem d_MO_swap_39 : decode b_MO_swap 39 = .ok (.iastore, 1) := by decide +kernel
theorem d_MO_swap_40 : decode b_MO_swap 40 = .ok (.iinc 1 1, 3) := by decide +kernel
theorem d_MO_swap_43 : decode b_MO_swap 43 = .ok (.goto (-41), 3) := by decide +kernel
theorem d_MO_swap_46 : decode b_MO_swap 46 = .ok (.iconst 0, 1) := by decide +kernel
theorem d_MO_swap_47 : decode b_MO_swap 47 = .ok (.istore_n 1, 1) := by decide +kernel
theorem d_MO_swap_48 : decode b_MO_swap 48 = .ok (.iload_n 1, 1) := by decide +kernel
theorem d_MO_swap_49 : decode b_MO_swap 49 = .ok (.sipush 200, 3) := by decide +kernel
theorem d_MO_swap_52 : decode b_MO_swap 52 = .ok (.if_icmp .ge 83, 3) := by decide +kernel
theorem d_MO_swap_55 : decode b_MO_swap 55 = .ok (.aload_n 0, 1) := by decide +kernel
theorem d_MO_swap_56 : decode b_MO_swap 56 = .ok (.getfield 20, 3) := by decide +kernel
theorem d_MO_swap_59 : decode b_MO_swap 59 = .ok (.iload_n 1, 1) := by decide +kernel
theorem d_MO_swap_60 : decode b_MO_swap 60 = .ok (.iaload, 1) := by decide +kernel
theorem d_MO_swap_61 : decode b_MO_swap 61 = .ok (.istore_n 2, 1) := by decide +kernel
theorem d_MO_swap_62 : decode b_MO_swap 62 = .ok (.aload_n 0, 1) := by decide +kernel
theorem d_MO_swap_63 : decode b_MO_swap 63 = .ok (.getfield 20, 3) := by decide +kernel
theorem d_MO_swap_66 : decode b_MO_swap 66 = .ok (.iload_n 1, 1) := by decide +kernel
theorem d_MO_swap_67 : decode b_MO_swap 67 = .ok (.aload_n 0, 1) := by decide +kernel
theorem d_MO_swap_68 : decode b_MO_swap 68 = .ok (.getfield 20, 3) := by decide +kernel
theorem d_MO_swap_71 : decode b_MO_swap 71 = .ok (.sipush 200, 3) := by decide +kernel
theorem d_MO_swap_74 : decode b_MO_swap 74 = .ok (.iload_n 1, 1) := by decide +kernel
theorem d_MO_swap_75 : decode b_MO_swap 75 = .ok (.iadd, 1) := by decide +kernel
theorem d_MO_swap_76 : decode b_MO_swap 76 = .ok (.iaload, 1) := by decide +kernel
theorem d_MO_swap_77 : decode b_MO_swap 77 = .ok (.ldc 207, 2) := by decide +kernel
theorem d_MO_swap_79 : decode b_MO_swap 79 = .ok (.isub, 1) := by decide +kernel
theorem d_MO_swap_80 : decode b_MO_swap 80 = .ok (.iastore, 1) := by decide +kernel
theorem d_MO_swap_81 : decode b_MO_swap 81 = .ok (.aload_n 0, 1) := by decide +kernel
theorem d_MO_swap_82 : decode b_MO_swap 82 = .ok (.getfield 20, 3) := by decide +kernel
theorem d_MO_swap_85 : decode b_MO_swap 85 = .ok (.sipush 200, 3) := by decide +kernel
theorem d_MO_swap_88 : decode b_MO_swap 88 = .ok (.iload_n 1, 1) := by decide +kernel
theorem d_MO_swap_89 : decode b_MO_swap 89 = .ok (.iadd, 1) := by decide +kernel
theorem d_MO_swap_90 : decode b_MO_swap 90 = .ok (.iload_n 2, 1) := by decide +kernel
theorem d_MO_swap_91 : decode b_MO_swap 91 = .ok (.ldc 207, 2) := by decide +kernel
theorem d_MO_swap_93 : decode b_MO_swap 93 = .ok (.iadd, 1) := by decide +kernel
theorem d_MO_swap_94 : decode b_MO_swap 94 = .ok (.iastore, 1) := by decide +kernel
theorem d_MO_swap_95 : decode b_MO_swap 95 = .ok (.aload_n 0, 1) := by decide +kernel
theorem d_MO_swap_96 : decode b_MO_swap 96 = .ok (.getfield 23, 3) := by decide +kernel
theorem d_MO_swap_99 : decode b_MO_swap 99 = .ok (.iload_n 1, 1) := by decide +kernel
theorem d_MO_swap_100 : decode b_MO_swap 100 = .ok (.iaload, 1) := by decide +kernel
theorem d_MO_swap_101 : decode b_MO_swap 101 = .ok (.istore_n 2, 1) := by decide +kernel
theorem d_MO_swap_102 : decode b_MO_swap 102 = .ok (.aload_n 0, 1) := by decide +kernel
theorem d_MO_swap_103 : decode b_MO_swap 103 = .ok (.getfield 23, 3) := by decide +kernel
theorem d_MO_swap_106 : decode b_MO_swap 106 = .ok (.iload_n 1, 1) := by decide +kernel
theorem d_MO_swap_107 : decode b_MO_swap 107 = .ok (.aload_n 0, 1) := by decide +kernel
theorem d_MO_swap_108 : decode b_MO_swap 108 = .ok (.getfield 23, 3) := by decide +kernel
theorem d_MO_swap_111 : decode b_MO_swap 111 = .ok (.sipush 200, 3) := by decide +kernel
theorem d_MO_swap_114 : decode b_MO_swap 114 = .ok (.iload_n 1, 1) := by decide +kernel
theorem d_MO_swap_115 : decode b_MO_swap 115 = .ok (.iadd, 1) := by decide +kernel
theorem d_MO_swap_116 : decode b_MO_swap 116 = .ok (.iaload, 1) := by decide +kernel
theorem d_MO_swap_117 : decode b_MO_swap 117 = .ok (.iastore, 1) := by decide +kernel
theorem d_MO_swap_118 : decode b_MO_swap 118 = .ok (.aload_n 0, 1) := by decide +kernel
theorem d_MO_swap_119 : decode b_MO_swap 119 = .ok (.getfield 23, 3) := by decide +kernel
theorem d_MO_swap_122 : decode b_MO_swap 122 = .ok (.sipush 200, 3) := by decide +kernel
theorem d_MO_swap_125 : decode b_MO_swap 125 = .ok (.iload_n 1, 1) := by decide +kernel
theorem d_MO_swap_126 : decode b_MO_swap 126 = .ok (.iadd, 1) := by decide +kernel
theorem d_MO_swap_127 : decode b_MO_swap 127 = .ok (.iload_n 2, 1) := by decide +kernel
theorem d_MO_swap_128 : decode b_MO_swap 128 = .ok (.iastore, 1) := by decide +kernel
theorem d_MO_swap_129 : decode b_MO_swap 129 = .ok (.iinc 1 1, 3) := by decide +kernel
theorem d_MO_swap_132 : decode b_MO_swap 132 = .ok (.goto (-84), 3) := by decide +kernel
theorem d_MO_swap_135 : decode b_MO_swap 135 = .ok (.aload_n 0, 1) := by decide +kernel
theorem d_MO_swap_136 : decode b_MO_swap 136 = .ok (.getfield 14, 3) := by decide +kernel
theorem d_MO_swap_139 : decode b_MO_swap 139 = .ok (.iconst 0, 1) := by decide +kernel
theorem d_MO_swap_140 : decode b_MO_swap 140 = .ok (.iaload, 1) := by decide +kernel
theorem d_MO_swap_141 : decode b_MO_swap 141 = .ok (.istore_n 1, 1) := by decide +kernel
theorem d_MO_swap_142 : decode b_MO_swap 142 = .ok (.aload_n 0, 1) := by decide +kernel
theorem d_MO_swap_143 : decode b_MO_swap 143 = .ok (.getfield 14, 3) := by decide +kernel
theorem d_MO_swap_146 : decode b_MO_swap 146 = .ok (.iconst 0, 1) := by decide +kernel
theorem d_MO_swap_147 : decode b_MO_swap 147 = .ok (.aload_n 0, 1) := by decide +kernel
theorem d_MO_swap_148 : decode b_MO_swap 148 = .ok (.getfield 14, 3) := by decide +kernel
theorem d_MO_swap_151 : decode b_MO_swap 151 = .ok (.iconst 1, 1) := by decide +kernel
theorem d_MO_swap_152 : decode b_MO_swap 152 = .ok (.iaload, 1) := by decide +kernel
theorem d_MO_swap_153 : decode b_MO_swap 153 = .ok (.iastore, 1) := by decide +kernel
theorem d_MO_swap_154 : decode b_MO_swap 154 = .ok (.aload_n 0, 1) := by decide +kernel
theorem d_MO_swap_155 : decode b_MO_swap 155 = .ok (.getfield 14, 3) := by decide +kernel
theorem d_MO_swap_158 : decode b_MO_swap 158 = .ok (.iconst 1, 1) := by decide +kernel
theorem d_MO_swap_159 : decode b_MO_swap 159 = .ok (.iload_n 1, 1) := by decide +kernel
theorem d_MO_swap_160 : decode b_MO_swap 160 = .ok (.iastore, 1) := by decide +kernel
theorem d_MO_swap_161 : decode b_MO_swap 161 = .ok (.aload_n 0, 1) := by decide +kernel
theorem d_MO_swap_162 : decode b_MO_swap 162 = .ok (.getfield 17, 3) := by decide +kernel
theorem d_MO_swap_165 : decode b_MO_swap 165 = .ok (.iconst 0, 1) := by decide +kernel
theorem d_MO_swap_166 : decode b_MO_swap 166 = .ok (.iaload, 1) := by decide +kernel
theorem d_MO_swap_167 : decode b_MO_swap 167 = .ok (.istore_n 1, 1) := by decide +kernel
theorem d_MO_swap_168 : decode b_MO_swap 168 = .ok (.aload_n 0, 1) := by decide +kernel
theorem d_MO_swap_169 : decode b_MO_swap 169 = .ok (.getfield 17, 3) := by decide +kernel
theorem d_MO_swap_172 : decode b_MO_swap 172 = .ok (.iconst 0, 1) := by decide +kernel
theorem d_MO_swap_173 : decode b_MO_swap 173 = .ok (.aload_n 0, 1) := by decide +kernel
theorem d_MO_swap_174 : decode b_MO_swap 174 = .ok (.getfield 17, 3) := by decide +kernel
theorem d_MO_swap_177 : decode b_MO_swap 177 = .ok (.iconst 1, 1) := by decide +kernel
theorem d_MO_swap_178 : decode b_MO_swap 178 = .ok (.iaload, 1) := by decide +kernel
theorem d_MO_swap_179 : decode b_MO_swap 179 = .ok (.iastore, 1) := by decide +kernel
theorem d_MO_swap_180 : decode b_MO_swap 180 = .ok (.aload_n 0, 1) := by decide +kernel
theorem d_MO_swap_181 : decode b_MO_swap 181 = .ok (.getfield 17, 3) := by decide +kernel
theorem d_MO_swap_184 : decode b_MO_swap 184 = .ok (.iconst 1, 1) := by decide +kernel
theorem d_MO_swap_185 : decode b_MO_swap 185 = .ok (.iload_n 1, 1) := by decide +kernel
theorem d_MO_swap_186 : decode b_MO_swap 186 = .ok (.iastore, 1) := by decide +kernel
theorem d_MO_swap_187 : decode b_MO_swap 187 = .ok (.return_, 1) := by decide +kernel
abbrev wd_MO_leaf (aM aMst aMdcs aMtot aMfrm aMsiz aMffr aMfsz aMlkd aMlat aMkkd aMkat aModr aMgrp aMikd aMiat : Nat) (cB cI : ClassId) (thr : Int32) (tpd : Int32) (frs : Int32) (frt : Int32) (top : Int32) (bgn : Int32) (mst : Int32) (ovr : Bool) (tgr : Bool) (its : Int32) (hgh : Int64) (loo : Int64) (dfl : Bool) (lvs : Int32) (lkd : Nat → Int32) (lat : Nat → Int32) : va_W := [(aM, .inr (11, [.int thr, .ref aMst, .int tpd, .ref aMdcs, .ref aMtot, .ref aMfrm, .ref aMsiz, .int frs, .int frt, .ref aMffr, .ref aMfsz, .int top, .int bgn, .int mst, .int (b2i ovr), .int (b2i tgr), .int lvs, .ref aMlkd, .ref aMlat, .ref aMkkd, .ref aMkat, .ref aModr, .ref aMgrp, .int its, .ref aMikd, .ref aMiat, .long hgh, .long loo, .int (b2i dfl)])), (aMlkd, .inl (cI, 60000, .inl lkd)), (aMlat, .inl (cI, 60000, .inl lat))]
set_option maxHeartbeats 4000000 in
set_option maxRecDepth 100000 in
theorem c_MO_leaf (l : Launch) (D : va_G) (cB cI : ClassId) (aM aMst aMdcs aMtot aMfrm aMsiz aMffr aMfsz aMlkd aMlat aMkkd aMkat aModr aMgrp aMikd aMiat : Nat) (fu : Nat) (thr : Int32) (tpd : Int32) (frs : Int32) (frt : Int32) (top : Int32) (bgn : Int32) (mst : Int32) (ovr : Bool) (tgr : Bool) (its : Int32) (hgh : Int64) (loo : Int64) (dfl : Bool) (sz : Nat) (lvs : Int32) (lkd : Nat → Int32) (lat : Nat → Int32) (p0 : Int32) (p1 : Int32) (V0 : Int32 × (Nat → Int32) × (Nat → Int32)) (hs : tw_MO_leaf fu lvs lkd lat p0 p1 = some V0) : Met l y_MO_leaf mw_MO_leaf { frames := 0, cells := 0, slots := 0, locals := 0 } (va_Pc [.ref aM, .int p0, .int p1] (mt_P D cB cI (wd_MO_leaf aM aMst aMdcs aMtot aMfrm aMsiz aMffr aMfsz aMlkd aMlat aMkkd aMkat aModr aMgrp aMikd aMiat cB cI thr tpd frs frt top bgn mst ovr tgr its hgh loo dfl lvs lkd lat) sz)) (va_Qv (fun (u : Int32 × (Nat → Int32) × (Nat → Int32)) => u = V0) (mt_B D (va_A (wd_MO_leaf aM aMst aMdcs aMtot aMfrm aMsiz aMffr aMfsz aMlkd aMlat aMkkd aMkat aModr aMgrp aMikd aMiat cB cI thr tpd frs frt top bgn mst ovr tgr its hgh loo dfl lvs lkd lat) sz) (fun u => wd_MO_leaf aM aMst aMdcs aMtot aMfrm aMsiz aMffr aMfsz aMlkd aMlat aMkkd aMkat aModr aMgrp aMikd aMiat cB cI thr tpd frs frt top bgn mst ovr tgr its hgh loo dfl u.1 u.2.1 u.2.2)) (va_A (wd_MO_leaf aM aMst aMdcs aMtot aMfrm aMsiz aMffr aMfsz aMlkd aMlat aMkkd aMkat aModr aMgrp aMikd aMiat cB cI thr tpd frs frt top bgn mst ovr tgr its hgh loo dfl lvs lkd lat) sz)) 0 0 (va_A (wd_MO_leaf aM aMst aMdcs aMtot aMfrm aMsiz aMffr aMfsz aMlkd aMlat aMkkd aMkat aModr aMgrp aMikd aMiat cB cI thr tpd frs frt top bgn mst ovr tgr its hgh loo dfl lvs lkd lat) sz) := by
  refine Met.ofW (cc := b_MO_leaf) (maxL := 3) (ret := none) (by decide) rfl ?_
  intro p e s m args below meth c s₁ B0 hml hv
  obtain ⟨rfl, hsz, hP, hk, hD0⟩ := hv
  have hK := hk.1
  have hN := hk.2.1
  have hx := B0.exec
  have hb := B0.bytes
  have hr := B0.returns
  have hT : ∀ w ∈ lw_g, w.before _ s = true := fun w h => atoms_spec (ws := mw_MO_leaf) B0.pre w (List.mem_cons_of_mem _ h)
  have hown : s.vm.findClass R_MO = some m.cls := findClass_of_methodNamed B0.named
  have hlocks := B0.notSynchronized
  subst hsz
  have hD := hD0.self (sz := s.heap.size)
  generalize hAe : va_A [(aM, .inr (11, [.int thr, .ref aMst, .int tpd, .ref aMdcs, .ref aMtot, .ref aMfrm, .ref aMsiz, .int frs, .int frt, .ref aMffr, .ref aMfsz, .int top, .int bgn, .int mst, .int (b2i ovr), .int (b2i tgr), .int lvs, .ref aMlkd, .ref aMlat, .ref aMkkd, .ref aMkat, .ref aModr, .ref aMgrp, .int its, .ref aMikd, .ref aMiat, .long hgh, .long loo, .int (b2i dfl)])), (aMlkd, .inl (cI, 60000, .inl lkd)), (aMlat, .inl (cI, 60000, .inl lat))] s.heap.size = A at hD ⊢
  have hA : ∀ q : Nat, s.heap.size ≤ q → A q := fun q h => by rw [← hAe]; exact Or.inr h
  have hS : va_S A s.heap s.heap [] := va_S.rf
  have hl := lv_entry ([.ref aM, .int p0, .int p1]) (n := 3) (Nat.le_of_ble_eq_true rfl)
  rw [lg_entry_eq]
  generalize (lg_sl ([.ref aM, .int p0, .int p1]) ++ List.replicate (3 - (lg_sl ([.ref aM, .int p0, .int p1])).length) Slot.unset).toArray = ls at hl ⊢
  have hl : lv_has ls 3 [(0, .ref aM), (1, .int p0), (2, .int p1)] := hl
  refine lv_aload_n hx hb d_MO_leaf_0 rfl (lv_at hl 0 rfl) ?_
  refine va_get (D := D) (ci := 11) (v := .int lvs) (C := R_MO) (T := T_MO) (N := 29) hx hb hT u_MO hown hK hP 0 rfl rfl 16 (by decide) (hT _ k_1059) (fun _ h9 => h9) rfl d_MO_leaf_1 ?_
  refine lv_sipush (v := 30000) hx hb d_MO_leaf_4 (by decide) ?_
  refine lv_irem hx hb d_MO_leaf_7 (by decide) ?_
  refine lv_sipush (v := 29999) hx hb d_MO_leaf_8 (by decide) ?_
  refine lv_icmp_ne (tgt := 15) hx hb d_MO_leaf_11 (by decide) (fun c_1 => ?_) (fun c_1 => ?_)
  · refine lv_aload_n hx hb d_MO_leaf_15 rfl (lv_at hl 0 rfl) ?_
    refine va_get (D := D) (ci := 11) (v := .ref aMlkd) (C := R_MO) (T := T_MO) (N := 29) hx hb hT u_MO hown hK hP 0 rfl rfl 17 (by decide) (hT _ k_1060) (fun _ h9 => h9) rfl d_MO_leaf_16 ?_
    refine lv_aload_n hx hb d_MO_leaf_19 rfl (lv_at hl 0 rfl) ?_
    refine va_get (D := D) (ci := 11) (v := .int lvs) (C := R_MO) (T := T_MO) (N := 29) hx hb hT u_MO hown hK hP 0 rfl rfl 16 (by decide) (hT _ k_1059) (fun _ h9 => h9) rfl d_MO_leaf_20 ?_
    refine lv_iload_n hx hb d_MO_leaf_23 rfl (lv_at hl 1 rfl) ?_
    by_cases c_2 : 0 ≤ lvs ∧ lvs < 60000
    rotate_left
    · exact op_no hs (by rw [tw_MO_leaf, if_neg c_1, if_neg c_2])
    refine va_iast hx hb hK hP hD hS 1 1 rfl rfl (in_pp c_2.1 c_2.2 rfl) d_MO_leaf_24 (fun H locs hP hD hS => ?_)
    have hP : va_P D vwCl [(aM, .inr (11, [.int thr, .ref aMst, .int tpd, .ref aMdcs, .ref aMtot, .ref aMfrm, .ref aMsiz, .int frs, .int frt, .ref aMffr, .ref aMfsz, .int top, .int bgn, .int mst, .int (b2i ovr), .int (b2i tgr), .int lvs, .ref aMlkd, .ref aMlat, .ref aMkkd, .ref aMkat, .ref aModr, .ref aMgrp, .int its, .ref aMikd, .ref aMiat, .long hgh, .long loo, .int (b2i dfl)])), (aMlkd, .inl (cI, 60000, .inl (upd lkd lvs.toNatClampNeg p0))), (aMlat, .inl (cI, 60000, .inl lat))] H := hP
    have hD : va_D A [(aM, .inr (11, [.int thr, .ref aMst, .int tpd, .ref aMdcs, .ref aMtot, .ref aMfrm, .ref aMsiz, .int frs, .int frt, .ref aMffr, .ref aMfsz, .int top, .int bgn, .int mst, .int (b2i ovr), .int (b2i tgr), .int lvs, .ref aMlkd, .ref aMlat, .ref aMkkd, .ref aMkat, .ref aModr, .ref aMgrp, .int its, .ref aMikd, .ref aMiat, .long hgh, .long loo, .int (b2i dfl)])), (aMlkd, .inl (cI, 60000, .inl (upd lkd lvs.toNatClampNeg p0))), (aMlat, .inl (cI, 60000, .inl lat))] := hD
    refine lv_aload_n hx hb d_MO_leaf_25 rfl (lv_at hl 0 rfl) ?_
    refine va_get (D := D) (ci := 11) (v := .ref aMlat) (C := R_MO) (T := T_MO) (N := 29) hx hb hT u_MO hown hK hP 0 rfl rfl 18 (by decide) (hT _ k_1061) (fun _ h9 => h9) rfl d_MO_leaf_26 ?_
    refine lv_aload_n hx hb d_MO_leaf_29 rfl (lv_at hl 0 rfl) ?_
    refine va_get (D := D) (ci := 11) (v := .int lvs) (C := R_MO) (T := T_MO) (N := 29) hx hb hT u_MO hown hK hP 0 rfl rfl 16 (by decide) (hT _ k_1059) (fun _ h9 => h9) rfl d_MO_leaf_30 ?_
    refine lv_iload_n hx hb d_MO_leaf_33 rfl (lv_at hl 2 rfl) ?_
    refine va_iast hx hb hK hP hD hS 2 1 rfl rfl (in_pp c_2.1 c_2.2 rfl) d_MO_leaf_34 (fun H locs hP hD hS => ?_)
    have hP : va_P D vwCl [(aM, .inr (11, [.int thr, .ref aMst, .int tpd, .ref aMdcs, .ref aMtot, .ref aMfrm, .ref aMsiz, .int frs, .int frt, .ref aMffr, .ref aMfsz, .int top, .int bgn, .int mst, .int (b2i ovr), .int (b2i tgr), .int lvs, .ref aMlkd, .ref aMlat, .ref aMkkd, .ref aMkat, .ref aModr, .ref aMgrp, .int its, .ref aMikd, .ref aMiat, .long hgh, .long loo, .int (b2i dfl)])), (aMlkd, .inl (cI, 60000, .inl (upd lkd lvs.toNatClampNeg p0))), (aMlat, .inl (cI, 60000, .inl (upd lat lvs.toNatClampNeg p1)))] H := hP
    have hD : va_D A [(aM, .inr (11, [.int thr, .ref aMst, .int tpd, .ref aMdcs, .ref aMtot, .ref aMfrm, .ref aMsiz, .int frs, .int frt, .ref aMffr, .ref aMfsz, .int top, .int bgn, .int mst, .int (b2i ovr), .int (b2i tgr), .int lvs, .ref aMlkd, .ref aMlat, .ref aMkkd, .ref aMkat, .ref aModr, .ref aMgrp, .int its, .ref aMikd, .ref aMiat, .long hgh, .long loo, .int (b2i dfl)])), (aMlkd, .inl (cI, 60000, .inl (upd lkd lvs.toNatClampNeg p0))), (aMlat, .inl (cI, 60000, .inl (upd lat lvs.toNatClampNeg p1)))] := hD
    refine lv_aload_n hx hb d_MO_leaf_35 rfl (lv_at hl 0 rfl) ?_
    refine lv_dup hx hb d_MO_leaf_36 rfl ?_
    refine va_get (D := D) (ci := 11) (v := .int lvs) (C := R_MO) (T := T_MO) (N := 29) hx hb hT u_MO hown hK hP 0 rfl rfl 16 (by decide) (hT _ k_1059) (fun _ h9 => h9) rfl d_MO_leaf_37 ?_
    refine lv_iconst (v := 1) hx hb d_MO_leaf_40 (by decide) ?_
    refine lv_iadd hx hb d_MO_leaf_41 ?_
    refine va_put (D := D) (ci := 11) (v := .int (lvs + 1)) (ty := .int) (C := R_MO) (T := T_MO) (N := 29) hx hb hT u_MO ty_MO tyok_MO nm_MO hown hK hP hD hS 0 rfl rfl 16 (by decide) (hT _ k_1059) (fun _ h9 => h9) rfl (by decide +kernel) (rfl) (rfl) (Nat.le_of_ble_eq_true rfl) d_MO_leaf_42 (fun H locs hP hD hS => ?_)
    have hP : va_P D vwCl [(aM, .inr (11, [.int thr, .ref aMst, .int tpd, .ref aMdcs, .ref aMtot, .ref aMfrm, .ref aMsiz, .int frs, .int frt, .ref aMffr, .ref aMfsz, .int top, .int bgn, .int mst, .int (b2i ovr), .int (b2i tgr), .int (lvs + 1), .ref aMlkd, .ref aMlat, .ref aMkkd, .ref aMkat, .ref aModr, .ref aMgrp, .int its, .ref aMikd, .ref aMiat, .long hgh, .long loo, .int (b2i dfl)])), (aMlkd, .inl (cI, 60000, .inl (upd lkd lvs.toNatClampNeg p0))), (aMlat, .inl (cI, 60000, .inl (upd lat lvs.toNatClampNeg p1)))] H := hP
    have hD : va_D A [(aM, .inr (11, [.int thr, .ref aMst, .int tpd, .ref aMdcs, .ref aMtot, .ref aMfrm, .ref aMsiz, .int frs, .int frt, .ref aMffr, .ref aMfsz, .int top, .int bgn, .int mst, .int (b2i ovr), .int (b2i tgr), .int (lvs + 1), .ref aMlkd, .ref aMlat, .ref aMkkd, .ref aMkat, .ref aModr, .ref aMgrp, .int its, .ref aMikd, .ref aMiat, .long hgh, .long loo, .int (b2i dfl)])), (aMlkd, .inl (cI, 60000, .inl (upd lkd lvs.toNatClampNeg p0))), (aMlat, .inl (cI, 60000, .inl (upd lat lvs.toNatClampNeg p1)))] := hD
    exact W.vret hx hb hr (fun t ht hW => ⟨⟨(lvs + 1, upd lkd lvs.toNatClampNeg p0, upd lat lvs.toNatClampNeg p1), rfl, (op_eq hs (by rw [tw_MO_leaf, if_neg c_1, if_pos c_2])), by rw [ht]; exact hP, hD⟩, hS.F ht⟩) hS.2.2 d_MO_leaf_45
  · exact W.vret hx hb hr (fun t ht hW => ⟨⟨(lvs, lkd, lat), rfl, (op_eq hs (by rw [tw_MO_leaf, if_pos c_1])), by rw [ht]; exact hP, hD⟩, hS.F ht⟩) hS.2.2 d_MO_leaf_14
abbrev wd_MO_write (aM aMst aMdcs aMtot aMfrm aMsiz aMffr aMfsz aMlkd aMlat aMkkd aMkat aModr aMgrp aMikd aMiat : Nat) (cB cI : ClassId) (thr : Int32) (tpd : Int32) (frs : Int32) (frt : Int32) (bgn : Int32) (mst : Int32) (tgr : Bool) (lvs : Int32) (its : Int32) (hgh : Int64) (loo : Int64) (dfl : Bool) (top : Int32) (ovr : Bool) (st : Nat → Int32) : va_W := [(aM, .inr (11, [.int thr, .ref aMst, .int tpd, .ref aMdcs, .ref aMtot, .ref aMfrm, .ref aMsiz, .int frs, .int frt, .ref aMffr, .ref aMfsz, .int top, .int bgn, .int mst, .int (b2i ovr), .int (b2i tgr), .int lvs, .ref aMlkd, .ref aMlat, .ref aMkkd, .ref aMkat, .ref aModr, .ref aMgrp, .int its, .ref aMikd, .ref aMiat, .long hgh, .long loo, .int (b2i dfl)])), (aMst, .inl (cI, 136400, .inl st))]
set_option maxHeartbeats 4000000 in
set_option maxRecDepth 100000 in
theorem c_MO_write (l : Launch) (D : va_G) (cB cI : ClassId) (aM aMst aMdcs aMtot aMfrm aMsiz aMffr aMfsz aMlkd aMlat aMkkd aMkat aModr aMgrp aMikd aMiat : Nat) (fu : Nat) (thr : Int32) (tpd : Int32) (frs : Int32) (frt : Int32) (bgn : Int32) (mst : Int32) (tgr : Bool) (lvs : Int32) (its : Int32) (hgh : Int64) (loo : Int64) (dfl : Bool) (sz : Nat) (top : Int32) (ovr : Bool) (st : Nat → Int32) (p0 : Int32) (V0 : Int32 × Bool × (Nat → Int32)) (hs : tw_MO_write fu bgn mst top ovr st p0 = some V0) : Met l y_MO_write mw_MO_write { frames := 0, cells := 0, slots := 0, locals := 0 } (va_Pc [.ref aM, .int p0] (mt_P D cB cI (wd_MO_write aM aMst aMdcs aMtot aMfrm aMsiz aMffr aMfsz aMlkd aMlat aMkkd aMkat aModr aMgrp aMikd aMiat cB cI thr tpd frs frt bgn mst tgr lvs its hgh loo dfl top ovr st) sz)) (va_Qv (fun (u : Int32 × Bool × (Nat → Int32)) => u = V0) (mt_B D (va_A (wd_MO_write aM aMst aMdcs aMtot aMfrm aMsiz aMffr aMfsz aMlkd aMlat aMkkd aMkat aModr aMgrp aMikd aMiat cB cI thr tpd frs frt bgn mst tgr lvs its hgh loo dfl top ovr st) sz) (fun u => wd_MO_write aM aMst aMdcs aMtot aMfrm aMsiz aMffr aMfsz aMlkd aMlat aMkkd aMkat aModr aMgrp aMikd aMiat cB cI thr tpd frs frt bgn mst tgr lvs its hgh loo dfl u.1 u.2.1 u.2.2)) (va_A (wd_MO_write aM aMst aMdcs aMtot aMfrm aMsiz aMffr aMfsz aMlkd aMlat aMkkd aMkat aModr aMgrp aMikd aMiat cB cI thr tpd frs frt bgn mst tgr lvs its hgh loo dfl top ovr st) sz)) 0 0 (va_A (wd_MO_write aM aMst aMdcs aMtot aMfrm aMsiz aMffr aMfsz aMlkd aMlat aMkkd aMkat aModr aMgrp aMikd aMiat cB cI thr tpd frs frt bgn mst tgr lvs its hgh loo dfl top ovr st) sz) := by
  refine Met.ofW (cc := b_MO_write) (maxL := 2) (ret := none) (by decide) rfl ?_
  intro p e s m args below meth c s₁ B0 hml hv
  obtain ⟨rfl, hsz, hP, hk, hD0⟩ := hv
  have hK := hk.1
  have hN := hk.2.1
  have hx := B0.exec
  have hb := B0.bytes
  have hr := B0.returns
  have hT : ∀ w ∈ lw_g, w.before _ s = true := fun w h => atoms_spec (ws := mw_MO_write) B0.pre w (List.mem_cons_of_mem _ h)
  have hown : s.vm.findClass R_MO = some m.cls := findClass_of_methodNamed B0.named
  have hlocks := B0.notSynchronized
  subst hsz
  have hD := hD0.self (sz := s.heap.size)
  generalize hAe : va_A [(aM, .inr (11, [.int thr, .ref aMst, .int tpd, .ref aMdcs, .ref aMtot, .ref aMfrm, .ref aMsiz, .int frs, .int frt, .ref aMffr, .ref aMfsz, .int top, .int bgn, .int mst, .int (b2i ovr), .int (b2i tgr), .int lvs, .ref aMlkd, .ref aMlat, .ref aMkkd, .ref aMkat, .ref aModr, .ref aMgrp, .int its, .ref aMikd, .ref aMiat, .long hgh, .long loo, .int (b2i dfl)])), (aMst, .inl (cI, 136400, .inl st))] s.heap.size = A at hD ⊢
  have hA : ∀ q : Nat, s.heap.size ≤ q → A q := fun q h => by rw [← hAe]; exact Or.inr h
  have hS : va_S A s.heap s.heap [] := va_S.rf
  have hl := lv_entry ([.ref aM, .int p0]) (n := 2) (Nat.le_of_ble_eq_true rfl)
  rw [lg_entry_eq]
  generalize (lg_sl ([.ref aM, .int p0]) ++ List.replicate (2 - (lg_sl ([.ref aM, .int p0])).length) Slot.unset).toArray = ls at hl ⊢
  have hl : lv_has ls 2 [(0, .ref aM), (1, .int p0)] := hl
  refine lv_aload_n hx hb d_MO_write_0 rfl (lv_at hl 0 rfl) ?_
  refine lv_aload_n hx hb d_MO_write_1 rfl (lv_at hl 0 rfl) ?_
  refine va_get (D := D) (ci := 11) (v := .int (b2i ovr)) (C := R_MO) (T := T_MO) (N := 29) hx hb hT u_MO hown hK hP 0 rfl rfl 14 (by decide) (hT _ k_1057) (fun _ h9 => h9) rfl d_MO_write_2 ?_
  refine lv_if_ne (tgt := 24) hx hb d_MO_write_5 (by decide) (fun c_1 => ?_) (fun c_1 => ?_)
  · refine lv_iconst (v := 1) hx hb d_MO_write_24 (by decide) ?_
    refine lv_goto (tgt := 29) hx hb d_MO_write_25 (by decide) ?_
    refine va_put (D := D) (ci := 11) (v := .int 1) (ty := .boolean) (C := R_MO) (T := T_MO) (N := 29) hx hb hT u_MO ty_MO tyok_MO nm_MO hown hK hP hD hS 0 rfl rfl 14 (by decide) (hT _ k_1057) (fun _ h9 => h9) rfl (by decide +kernel) (rfl) (rfl) (Nat.le_of_ble_eq_true rfl) d_MO_write_29 (fun H locs hP hD hS => ?_)
    have hP : va_P D vwCl [(aM, .inr (11, [.int thr, .ref aMst, .int tpd, .ref aMdcs, .ref aMtot, .ref aMfrm, .ref aMsiz, .int frs, .int frt, .ref aMffr, .ref aMfsz, .int top, .int bgn, .int mst, .int 1, .int (b2i tgr), .int lvs, .ref aMlkd, .ref aMlat, .ref aMkkd, .ref aMkat, .ref aModr, .ref aMgrp, .int its, .ref aMikd, .ref aMiat, .long hgh, .long loo, .int (b2i dfl)])), (aMst, .inl (cI, 136400, .inl st))] H := hP
    have hD : va_D A [(aM, .inr (11, [.int thr, .ref aMst, .int tpd, .ref aMdcs, .ref aMtot, .ref aMfrm, .ref aMsiz, .int frs, .int frt, .ref aMffr, .ref aMfsz, .int top, .int bgn, .int mst, .int 1, .int (b2i tgr), .int lvs, .ref aMlkd, .ref aMlat, .ref aMkkd, .ref aMkat, .ref aModr, .ref aMgrp, .int its, .ref aMikd, .ref aMiat, .long hgh, .long loo, .int (b2i dfl)])), (aMst, .inl (cI, 136400, .inl st))] := hD
    refine lv_aload_n hx hb d_MO_write_32 rfl (lv_at hl 0 rfl) ?_
    refine va_get (D := D) (ci := 11) (v := .int 1) (C := R_MO) (T := T_MO) (N := 29) hx hb hT u_MO hown hK hP 0 rfl rfl 14 (by decide) (hT _ k_1057) (fun _ h9 => h9) rfl d_MO_write_33 ?_
    refine lv_if_eq (tgt := 40) hx hb d_MO_write_36 (by decide) (fun c_2 => ?_) (fun c_2 => ?_)
    · exact absurd c_2 (by decide)
    · exact W.vret hx hb hr (fun t ht hW => ⟨⟨(top, true, st), rfl, (op_eq hs (by rw [tw_MO_write, if_neg c_1])), by rw [ht]; exact hP, hD⟩, hS.F ht⟩) hS.2.2 d_MO_write_39
  · refine lv_aload_n hx hb d_MO_write_8 rfl (lv_at hl 0 rfl) ?_
    refine va_get (D := D) (ci := 11) (v := .int top) (C := R_MO) (T := T_MO) (N := 29) hx hb hT u_MO hown hK hP 0 rfl rfl 11 (by decide) (hT _ k_1054) (fun _ h9 => h9) rfl d_MO_write_9 ?_
    refine lv_aload_n hx hb d_MO_write_12 rfl (lv_at hl 0 rfl) ?_
    refine va_get (D := D) (ci := 11) (v := .int bgn) (C := R_MO) (T := T_MO) (N := 29) hx hb hT u_MO hown hK hP 0 rfl rfl 12 (by decide) (hT _ k_1055) (fun _ h9 => h9) rfl d_MO_write_13 ?_
    refine lv_isub hx hb d_MO_write_16 ?_
    refine lv_aload_n hx hb d_MO_write_17 rfl (lv_at hl 0 rfl) ?_
    refine va_get (D := D) (ci := 11) (v := .int mst) (C := R_MO) (T := T_MO) (N := 29) hx hb hT u_MO hown hK hP 0 rfl rfl 13 (by decide) (hT _ k_1056) (fun _ h9 => h9) rfl d_MO_write_18 ?_
    refine lv_icmp_lt (tgt := 28) hx hb d_MO_write_21 (by decide) (fun c_3 => ?_) (fun c_3 => ?_)
    · refine lv_iconst (v := 0) hx hb d_MO_write_28 (by decide) ?_
      refine va_put (D := D) (ci := 11) (v := .int 0) (ty := .boolean) (C := R_MO) (T := T_MO) (N := 29) hx hb hT u_MO ty_MO tyok_MO nm_MO hown hK hP hD hS 0 rfl rfl 14 (by decide) (hT _ k_1057) (fun _ h9 => h9) rfl (by decide +kernel) (rfl) (rfl) (Nat.le_of_ble_eq_true rfl) d_MO_write_29 (fun H locs hP hD hS => ?_)
      have hP : va_P D vwCl [(aM, .inr (11, [.int thr, .ref aMst, .int tpd, .ref aMdcs, .ref aMtot, .ref aMfrm, .ref aMsiz, .int frs, .int frt, .ref aMffr, .ref aMfsz, .int top, .int bgn, .int mst, .int 0, .int (b2i tgr), .int lvs, .ref aMlkd, .ref aMlat, .ref aMkkd, .ref aMkat, .ref aModr, .ref aMgrp, .int its, .ref aMikd, .ref aMiat, .long hgh, .long loo, .int (b2i dfl)])), (aMst, .inl (cI, 136400, .inl st))] H := hP
      have hD : va_D A [(aM, .inr (11, [.int thr, .ref aMst, .int tpd, .ref aMdcs, .ref aMtot, .ref aMfrm, .ref aMsiz, .int frs, .int frt, .ref aMffr, .ref aMfsz, .int top, .int bgn, .int mst, .int 0, .int (b2i tgr), .int lvs, .ref aMlkd, .ref aMlat, .ref aMkkd, .ref aMkat, .ref aModr, .ref aMgrp, .int its, .ref aMikd, .ref aMiat, .long hgh, .long loo, .int (b2i dfl)])), (aMst, .inl (cI, 136400, .inl st))] := hD
      refine lv_aload_n hx hb d_MO_write_32 rfl (lv_at hl 0 rfl) ?_
      refine va_get (D := D) (ci := 11) (v := .int 0) (C := R_MO) (T := T_MO) (N := 29) hx hb hT u_MO hown hK hP 0 rfl rfl 14 (by decide) (hT _ k_1057) (fun _ h9 => h9) rfl d_MO_write_33 ?_
      refine lv_if_eq (tgt := 40) hx hb d_MO_write_36 (by decide) (fun c_4 => ?_) (fun c_4 => ?_)
      · refine lv_aload_n hx hb d_MO_write_40 rfl (lv_at hl 0 rfl) ?_
        refine va_get (D := D) (ci := 11) (v := .ref aMst) (C := R_MO) (T := T_MO) (N := 29) hx hb hT u_MO hown hK hP 0 rfl rfl 1 (by decide) (hT _ k_1044) (fun _ h9 => h9) rfl d_MO_write_41 ?_
        refine lv_aload_n hx hb d_MO_write_44 rfl (lv_at hl 0 rfl) ?_
        refine va_get (D := D) (ci := 11) (v := .int top) (C := R_MO) (T := T_MO) (N := 29) hx hb hT u_MO hown hK hP 0 rfl rfl 11 (by decide) (hT _ k_1054) (fun _ h9 => h9) rfl d_MO_write_45 ?_
        refine lv_iload_n hx hb d_MO_write_48 rfl (lv_at hl 1 rfl) ?_
        by_cases c_5 : 0 ≤ top ∧ top < 136400
        rotate_left
        · exact op_no hs (by rw [tw_MO_write, if_pos c_1, if_pos c_3, if_neg c_5])
        refine va_iast hx hb hK hP hD hS 1 1 rfl rfl (in_pp c_5.1 c_5.2 rfl) d_MO_write_49 (fun H locs hP hD hS => ?_)
        have hP : va_P D vwCl [(aM, .inr (11, [.int thr, .ref aMst, .int tpd, .ref aMdcs, .ref aMtot, .ref aMfrm, .ref aMsiz, .int frs, .int frt, .ref aMffr, .ref aMfsz, .int top, .int bgn, .int mst, .int 0, .int (b2i tgr), .int lvs, .ref aMlkd, .ref aMlat, .ref aMkkd, .ref aMkat, .ref aModr, .ref aMgrp, .int its, .ref aMikd, .ref aMiat, .long hgh, .long loo, .int (b2i dfl)])), (aMst, .inl (cI, 136400, .inl (upd st top.toNatClampNeg p0)))] H := hP
        have hD : va_D A [(aM, .inr (11, [.int thr, .ref aMst, .int tpd, .ref aMdcs, .ref aMtot, .ref aMfrm, .ref aMsiz, .int frs, .int frt, .ref aMffr, .ref aMfsz, .int top, .int bgn, .int mst, .int 0, .int (b2i tgr), .int lvs, .ref aMlkd, .ref aMlat, .ref aMkkd, .ref aMkat, .ref aModr, .ref aMgrp, .int its, .ref aMikd, .ref aMiat, .long hgh, .long loo, .int (b2i dfl)])), (aMst, .inl (cI, 136400, .inl (upd st top.toNatClampNeg p0)))] := hD
        refine lv_aload_n hx hb d_MO_write_50 rfl (lv_at hl 0 rfl) ?_
        refine lv_dup hx hb d_MO_write_51 rfl ?_
        refine va_get (D := D) (ci := 11) (v := .int top) (C := R_MO) (T := T_MO) (N := 29) hx hb hT u_MO hown hK hP 0 rfl rfl 11 (by decide) (hT _ k_1054) (fun _ h9 => h9) rfl d_MO_write_52 ?_
        refine lv_iconst (v := 1) hx hb d_MO_write_55 (by decide) ?_
        refine lv_iadd hx hb d_MO_write_56 ?_
        refine va_put (D := D) (ci := 11) (v := .int (top + 1)) (ty := .int) (C := R_MO) (T := T_MO) (N := 29) hx hb hT u_MO ty_MO tyok_MO nm_MO hown hK hP hD hS 0 rfl rfl 11 (by decide) (hT _ k_1054) (fun _ h9 => h9) rfl (by decide +kernel) (rfl) (rfl) (Nat.le_of_ble_eq_true rfl) d_MO_write_57 (fun H locs hP hD hS => ?_)
        have hP : va_P D vwCl [(aM, .inr (11, [.int thr, .ref aMst, .int tpd, .ref aMdcs, .ref aMtot, .ref aMfrm, .ref aMsiz, .int frs, .int frt, .ref aMffr, .ref aMfsz, .int (top + 1), .int bgn, .int mst, .int 0, .int (b2i tgr), .int lvs, .ref aMlkd, .ref aMlat, .ref aMkkd, .ref aMkat, .ref aModr, .ref aMgrp, .int its, .ref aMikd, .ref aMiat, .long hgh, .long loo, .int (b2i dfl)])), (aMst, .inl (cI, 136400, .inl (upd st top.toNatClampNeg p0)))] H := hP
        have hD : va_D A [(aM, .inr (11, [.int thr, .ref aMst, .int tpd, .ref aMdcs, .ref aMtot, .ref aMfrm, .ref aMsiz, .int frs, .int frt, .ref aMffr, .ref aMfsz, .int (top + 1), .int bgn, .int mst, .int 0, .int (b2i tgr), .int lvs, .ref aMlkd, .ref aMlat, .ref aMkkd, .ref aMkat, .ref aModr, .ref aMgrp, .int its, .ref aMikd, .ref aMiat, .long hgh, .long loo, .int (b2i dfl)])), (aMst, .inl (cI, 136400, .inl (upd st top.toNatClampNeg p0)))] := hD
        exact W.vret hx hb hr (fun t ht hW => ⟨⟨(top + 1, false, upd st top.toNatClampNeg p0), rfl, (op_eq hs (by rw [tw_MO_write, if_pos c_1, if_pos c_3, if_pos c_5])), by rw [ht]; exact hP, hD⟩, hS.F ht⟩) hS.2.2 d_MO_write_60
      · exact absurd c_4 (by decide)
    · refine lv_iconst (v := 1) hx hb d_MO_write_24 (by decide) ?_
      refine lv_goto (tgt := 29) hx hb d_MO_write_25 (by decide) ?_
      refine va_put (D := D) (ci := 11) (v := .int 1) (ty := .boolean) (C := R_MO) (T := T_MO) (N := 29) hx hb hT u_MO ty_MO tyok_MO nm_MO hown hK hP hD hS 0 rfl rfl 14 (by decide) (hT _ k_1057) (fun _ h9 => h9) rfl (by decide +kernel) (rfl) (rfl) (Nat.le_of_ble_eq_true rfl) d_MO_write_29 (fun H locs hP hD hS => ?_)
      have hP : va_P D vwCl [(aM, .inr (11, [.int thr, .ref aMst, .int tpd, .ref aMdcs, .ref aMtot, .ref aMfrm, .ref aMsiz, .int frs, .int frt, .ref aMffr, .ref aMfsz, .int top, .int bgn, .int mst, .int 1, .int (b2i tgr), .int lvs, .ref aMlkd, .ref aMlat, .ref aMkkd, .ref aMkat, .ref aModr, .ref aMgrp, .int its, .ref aMikd, .ref aMiat, .long hgh, .long loo, .int (b2i dfl)])), (aMst, .inl (cI, 136400, .inl st))] H := hP
      have hD : va_D A [(aM, .inr (11, [.int thr, .ref aMst, .int tpd, .ref aMdcs, .ref aMtot, .ref aMfrm, .ref aMsiz, .int frs, .int frt, .ref aMffr, .ref aMfsz, .int top, .int bgn, .int mst, .int 1, .int (b2i tgr), .int lvs, .ref aMlkd, .ref aMlat, .ref aMkkd, .ref aMkat, .ref aModr, .ref aMgrp, .int its, .ref aMikd, .ref aMiat, .long hgh, .long loo, .int (b2i dfl)])), (aMst, .inl (cI, 136400, .inl st))] := hD
      refine lv_aload_n hx hb d_MO_write_32 rfl (lv_at hl 0 rfl) ?_
      refine va_get (D := D) (ci := 11) (v := .int 1) (C := R_MO) (T := T_MO) (N := 29) hx hb hT u_MO hown hK hP 0 rfl rfl 14 (by decide) (hT _ k_1057) (fun _ h9 => h9) rfl d_MO_write_33 ?_
      refine lv_if_eq (tgt := 40) hx hb d_MO_write_36 (by decide) (fun c_6 => ?_) (fun c_6 => ?_)
      · exact absurd c_6 (by decide)
      · exact W.vret hx hb hr (fun t ht hW => ⟨⟨(top, true, st), rfl, (op_eq hs (by rw [tw_MO_write, if_pos c_1, if_neg c_3])), by rw [ht]; exact hP, hD⟩, hS.F ht⟩) hS.2.2 d_MO_write_39
abbrev wd_MO_copy (aM aMst aMdcs aMtot aMfrm aMsiz aMffr aMfsz aMlkd aMlat aMkkd aMkat aModr aMgrp aMikd aMiat : Nat) (cB cI : ClassId) (thr : Int32) (tpd : Int32) (frs : Int32) (frt : Int32) (bgn : Int32) (mst : Int32) (tgr : Bool) (lvs : Int32) (its : Int32) (hgh : Int64) (loo : Int64) (dfl : Bool) (top : Int32) (ovr : Bool) (st : Nat → Int32) : va_W := [(aM, .inr (11, [.int thr, .ref aMst, .int tpd, .ref aMdcs, .ref aMtot, .ref aMfrm, .ref aMsiz, .int frs, .int frt, .ref aMffr, .ref aMfsz, .int top, .int bgn, .int mst, .int (b2i ovr), .int (b2i tgr), .int lvs, .ref aMlkd, .ref aMlat, .ref aMkkd, .ref aMkat, .ref aModr, .ref aMgrp, .int its, .ref aMikd, .ref aMiat, .long hgh, .long loo, .int (b2i dfl)])), (aMst, .inl (cI, 136400, .inl st))]
set_option maxHeartbeats 4000000 in
set_option maxRecDepth 100000 in
theorem l_MO_copy_h2 {p : Program} {e : Env} {s : State} {m : MethodId} {args : Array Value} {below : List Frame} {meth : Method} {c : Code} {V : Option (Int32 × Bool × (Nat → Int32))} {V0 : Int32 × Bool × (Nat → Int32)} (C0 : lc_C p s m meth c args b_MO_copy 4 none R_MO lw_g) (hs : V = some V0) (l : Launch) (D : va_G) (cB cI : ClassId) (aM aMst aMdcs aMtot aMfrm aMsiz aMffr aMfsz aMlkd aMlat aMkkd aMkat aModr aMgrp aMikd aMiat : Nat) (fu : Nat) (thr : Int32) (tpd : Int32) (frs : Int32) (frt : Int32) (bgn : Int32) (mst : Int32) (tgr : Bool) (lvs : Int32) (its : Int32) (hgh : Int64) (loo : Int64) (dfl : Bool) {A : Nat → Prop} (hk : hk_ D cB cI s) (hA : ∀ q : Nat, s.heap.size ≤ q → A q) (p0 : Int32) (p1 : Int32) {K : Int32 → Int32 → Bool → (Nat → Int32) → Option (Int32 × Bool × (Nat → Int32))} (hKx : ∀ (x3 : Int32) (top : Int32) (ovr : Bool) (st : Nat → Int32), V = K x3 top ovr st → ∀ (H : Heap) (locs : List Loc), va_P D vwCl [(aM, .inr (11, [.int thr, .ref aMst, .int tpd, .ref aMdcs, .ref aMtot, .ref aMfrm, .ref aMsiz, .int frs, .int frt, .ref aMffr, .ref aMfsz, .int top, .int bgn, .int mst, .int (b2i ovr), .int (b2i tgr), .int lvs, .ref aMlkd, .ref aMlat, .ref aMkkd, .ref aMkat, .ref aModr, .ref aMgrp, .int its, .ref aMikd, .ref aMiat, .long hgh, .long loo, .int (b2i dfl)])), (aMst, .inl (cI, 136400, .inl st))] H → va_D A [(aM, .inr (11, [.int thr, .ref aMst, .int tpd, .ref aMdcs, .ref aMtot, .ref aMfrm, .ref aMsiz, .int frs, .int frt, .ref aMffr, .ref aMfsz, .int top, .int bgn, .int mst, .int (b2i ovr), .int (b2i tgr), .int lvs, .ref aMlkd, .ref aMlat, .ref aMkkd, .ref aMkat, .ref aModr, .ref aMgrp, .int its, .ref aMikd, .ref aMiat, .long hgh, .long loo, .int (b2i dfl)])), (aMst, .inl (cI, 136400, .inl st))] → va_S A s.heap H locs → ∀ ls : Array Slot, lv_has ls 4 [] → W p l e ({ frames := 1, cells := 0, slots := 0, locals := 21 }) s m args below meth c H locs 0 0 (MQ below (va_Qv (fun (u : Int32 × Bool × (Nat → Int32)) => u = V0) (mt_B D A (fun u => wd_MO_copy aM aMst aMdcs aMtot aMfrm aMsiz aMffr aMfsz aMlkd aMlat aMkkd aMkat aModr aMgrp aMikd aMiat cB cI thr tpd frs frt bgn mst tgr lvs its hgh loo dfl u.1 u.2.1 u.2.2)) A) args s 0 0 A) (F0 m 25 ls [])) : ∀ (n : Nat) (x3 : Int32) (top : Int32) (ovr : Bool) (st : Nat → Int32), V = tw_MO_copy_h2 fu bgn mst K p0 p1 n x3 top ovr st → ∀ (H : Heap) (locs : List Loc), va_P D vwCl [(aM, .inr (11, [.int thr, .ref aMst, .int tpd, .ref aMdcs, .ref aMtot, .ref aMfrm, .ref aMsiz, .int frs, .int frt, .ref aMffr, .ref aMfsz, .int top, .int bgn, .int mst, .int (b2i ovr), .int (b2i tgr), .int lvs, .ref aMlkd, .ref aMlat, .ref aMkkd, .ref aMkat, .ref aModr, .ref aMgrp, .int its, .ref aMikd, .ref aMiat, .long hgh, .long loo, .int (b2i dfl)])), (aMst, .inl (cI, 136400, .inl st))] H → va_D A [(aM, .inr (11, [.int thr, .ref aMst, .int tpd, .ref aMdcs, .ref aMtot, .ref aMfrm, .ref aMsiz, .int frs, .int frt, .ref aMffr, .ref aMfsz, .int top, .int bgn, .int mst, .int (b2i ovr), .int (b2i tgr), .int lvs, .ref aMlkd, .ref aMlat, .ref aMkkd, .ref aMkat, .ref aModr, .ref aMgrp, .int its, .ref aMikd, .ref aMiat, .long hgh, .long loo, .int (b2i dfl)])), (aMst, .inl (cI, 136400, .inl st))] → va_S A s.heap H locs → ∀ ls : Array Slot, lv_has ls 4 [(0, .ref aM), (1, .int p0), (2, .int p1), (3, .int x3)] → W p l e ({ frames := 1, cells := 0, slots := 0, locals := 21 }) s m args below meth c H locs 0 0 (MQ below (va_Qv (fun (u : Int32 × Bool × (Nat → Int32)) => u = V0) (mt_B D A (fun u => wd_MO_copy aM aMst aMdcs aMtot aMfrm aMsiz aMffr aMfsz aMlkd aMlat aMkkd aMkat aModr aMgrp aMikd aMiat cB cI thr tpd frs frt bgn mst tgr lvs its hgh loo dfl u.1 u.2.1 u.2.2)) A) args s 0 0 A) (F0 m 2 ls []) := by
  obtain ⟨hx, hb, hml, hr, hown, hlocks, hT⟩ := id C0
  have hK := hk.1
  have hN := hk.2.1
  intro n
  induction n with
  | zero =>
    intro x3 top ovr st hV
    exact op_no hs (hV.trans rfl)
  | succ n ih =>
    intro x3 top ovr st hV H locs hP hD hS ls hl
    refine lv_iload_n hx hb d_MO_copy_2 rfl (lv_at hl 3 rfl) ?_
    refine lv_iload_n hx hb d_MO_copy_3 rfl (lv_at hl 2 rfl) ?_
    refine lv_icmp_ge (tgt := 25) hx hb d_MO_copy_4 (by decide) (fun c_1 => ?_) (fun c_1 => ?_)
    · exact hKx x3 top ovr st (by rw [hV, tw_MO_copy_h2, if_pos c_1]) _ _ hP hD hS ls (lv_sub hl [] rfl)
    · refine lv_aload_n hx hb d_MO_copy_7 rfl (lv_at hl 0 rfl) ?_
      refine lv_aload_n hx hb d_MO_copy_8 rfl (lv_at hl 0 rfl) ?_
      refine va_get (D := D) (ci := 11) (v := .ref aMst) (C := R_MO) (T := T_MO) (N := 29) hx hb hT u_MO hown hK hP 0 rfl rfl 1 (by decide) (hT _ k_1044) (fun _ h9 => h9) rfl d_MO_copy_9 ?_
      refine lv_iload_n hx hb d_MO_copy_12 rfl (lv_at hl 1 rfl) ?_
      refine lv_iload_n hx hb d_MO_copy_13 rfl (lv_at hl 3 rfl) ?_
      refine lv_iadd hx hb d_MO_copy_14 ?_
      by_cases c_2 : 0 ≤ (p0 + x3) ∧ (p0 + x3) < 136400
      rotate_left
      · exact op_no hs (by rw [hV, tw_MO_copy_h2, if_neg c_1, if_neg c_2])
      refine va_iald hx hb hK hP 1 1 rfl rfl (in_pp c_2.1 c_2.2 rfl) d_MO_copy_15 ?_
      rcases h_3 : tw_MO_write fu bgn mst top ovr st (st (p0 + x3).toNatClampNeg) with _ | w_3
      · exact op_no hs (by rw [hV, tw_MO_copy_h2, if_neg c_1, if_pos c_2, h_3, ob3_no])
      refine mt_Vv (As := [.int (st (p0 + x3).toNatClampNeg)]) (rest := []) (wr := []) ⟨hx, hb, hml, hown, hT⟩ (c_MO_write l D cB cI aM aMst aMdcs aMtot aMfrm aMsiz aMffr aMfsz aMlkd aMlat aMkkd aMkat aModr aMgrp aMikd aMiat fu thr tpd frs frt bgn mst tgr lvs its hgh loo dfl _ top ovr st (st (p0 + x3).toNatClampNeg) w_3 h_3) (cwV 1 hT (gV_of k_1326 k_1328 kp_MO_write k_12 kc_MO_write) rfl rfl rfl hd_MO_write ⟨Nat.le_of_ble_eq_true rfl, Nat.le_of_ble_eq_true rfl⟩) hk hP hD hS hA [0, 1] [] rfl rfl rfl (by decide) (by decide) (by decide) (q0 := 0) rfl rfl rfl rfl hl.1 rfl (Nat.le_of_ble_eq_true rfl) d_MO_copy_16 ⟨Nat.zero_le _, Nat.zero_le _⟩ (fun u_3 H locs hw_3 hP hD hS => ?_)
      subst hw_3
      obtain ⟨top_3, ovr_3, st_3⟩ := u_3
      have hP : va_P D vwCl [(aM, .inr (11, [.int thr, .ref aMst, .int tpd, .ref aMdcs, .ref aMtot, .ref aMfrm, .ref aMsiz, .int frs, .int frt, .ref aMffr, .ref aMfsz, .int top_3, .int bgn, .int mst, .int (b2i ovr_3), .int (b2i tgr), .int lvs, .ref aMlkd, .ref aMlat, .ref aMkkd, .ref aMkat, .ref aModr, .ref aMgrp, .int its, .ref aMikd, .ref aMiat, .long hgh, .long loo, .int (b2i dfl)])), (aMst, .inl (cI, 136400, .inl st_3))] H := hP.sub [0, 1] rfl
      have hD : va_D A [(aM, .inr (11, [.int thr, .ref aMst, .int tpd, .ref aMdcs, .ref aMtot, .ref aMfrm, .ref aMsiz, .int frs, .int frt, .ref aMffr, .ref aMfsz, .int top_3, .int bgn, .int mst, .int (b2i ovr_3), .int (b2i tgr), .int lvs, .ref aMlkd, .ref aMlat, .ref aMkkd, .ref aMkat, .ref aModr, .ref aMgrp, .int its, .ref aMikd, .ref aMiat, .long hgh, .long loo, .int (b2i dfl)])), (aMst, .inl (cI, 136400, .inl st_3))] := hD.sub [0, 1] (by decide) rfl
      refine lv_iinc (v := x3 + 1) (lv' := [(3, .int (x3 + 1)), (0, .ref aM), (1, .int p0), (2, .int p1)]) hx hb d_MO_copy_19 hl (k := 3) rfl rfl (by decide) rfl (fun ls hl => ?_)
      refine lv_goto (tgt := 2) hx hb d_MO_copy_22 (by decide) ?_
      exact ih (x3 + 1) top_3 ovr_3 st_3 (by rw [hV, tw_MO_copy_h2, if_neg c_1, if_pos c_2, h_3, ob3_mk]) _ _ hP hD hS ls (lv_sub hl [1, 2, 3, 0] rfl)
set_option maxHeartbeats 4000000 in
set_option maxRecDepth 100000 in
theorem c_MO_copy (l : Launch) (D : va_G) (cB cI : ClassId) (aM aMst aMdcs aMtot aMfrm aMsiz aMffr aMfsz aMlkd aMlat aMkkd aMkat aModr aMgrp aMikd aMiat : Nat) (fu : Nat) (thr : Int32) (tpd : Int32) (frs : Int32) (frt : Int32) (bgn : Int32) (mst : Int32) (tgr : Bool) (lvs : Int32) (its : Int32) (hgh : Int64) (loo : Int64) (dfl : Bool) (sz : Nat) (top : Int32) (ovr : Bool) (st : Nat → Int32) (p0 : Int32) (p1 : Int32) (V0 : Int32 × Bool × (Nat → Int32)) (hs : tw_MO_copy fu bgn mst top ovr st p0 p1 = some V0) : Met l y_MO_copy mw_MO_copy { frames := 1, cells := 0, slots := 0, locals := 21 } (va_Pc [.ref aM, .int p0, .int p1] (mt_P D cB cI (wd_MO_copy aM aMst aMdcs aMtot aMfrm aMsiz aMffr aMfsz aMlkd aMlat aMkkd aMkat aModr aMgrp aMikd aMiat cB cI thr tpd frs frt bgn mst tgr lvs its hgh loo dfl top ovr st) sz)) (va_Qv (fun (u : Int32 × Bool × (Nat → Int32)) => u = V0) (mt_B D (va_A (wd_MO_copy aM aMst aMdcs aMtot aMfrm aMsiz aMffr aMfsz aMlkd aMlat aMkkd aMkat aModr aMgrp aMikd aMiat cB cI thr tpd frs frt bgn mst tgr lvs its hgh loo dfl top ovr st) sz) (fun u => wd_MO_copy aM aMst aMdcs aMtot aMfrm aMsiz aMffr aMfsz aMlkd aMlat aMkkd aMkat aModr aMgrp aMikd aMiat cB cI thr tpd frs frt bgn mst tgr lvs its hgh loo dfl u.1 u.2.1 u.2.2)) (va_A (wd_MO_copy aM aMst aMdcs aMtot aMfrm aMsiz aMffr aMfsz aMlkd aMlat aMkkd aMkat aModr aMgrp aMikd aMiat cB cI thr tpd frs frt bgn mst tgr lvs its hgh loo dfl top ovr st) sz)) 0 0 (va_A (wd_MO_copy aM aMst aMdcs aMtot aMfrm aMsiz aMffr aMfsz aMlkd aMlat aMkkd aMkat aModr aMgrp aMikd aMiat cB cI thr tpd frs frt bgn mst tgr lvs its hgh loo dfl top ovr st) sz) := by
  refine Met.ofW (cc := b_MO_copy) (maxL := 4) (ret := none) (by decide) rfl ?_
  intro p e s m args below meth c s₁ B0 hml hv
  obtain ⟨rfl, hsz, hP, hk, hD0⟩ := hv
  have hK := hk.1
  have hN := hk.2.1
  have hx := B0.exec
  have hb := B0.bytes
  have hr := B0.returns
  have hT : ∀ w ∈ lw_g, w.before _ s = true := fun w h => atoms_spec (ws := mw_MO_copy) B0.pre w (List.mem_cons_of_mem _ h)
  have hown : s.vm.findClass R_MO = some m.cls := findClass_of_methodNamed B0.named
  have hlocks := B0.notSynchronized
  subst hsz
  have hD := hD0.self (sz := s.heap.size)
  generalize hAe : va_A [(aM, .inr (11, [.int thr, .ref aMst, .int tpd, .ref aMdcs, .ref aMtot, .ref aMfrm, .ref aMsiz, .int frs, .int frt, .ref aMffr, .ref aMfsz, .int top, .int bgn, .int mst, .int (b2i ovr), .int (b2i tgr), .int lvs, .ref aMlkd, .ref aMlat, .ref aMkkd, .ref aMkat, .ref aModr, .ref aMgrp, .int its, .ref aMikd, .ref aMiat, .long hgh, .long loo, .int (b2i dfl)])), (aMst, .inl (cI, 136400, .inl st))] s.heap.size = A at hD ⊢
  have hA : ∀ q : Nat, s.heap.size ≤ q → A q := fun q h => by rw [← hAe]; exact Or.inr h
  have hS : va_S A s.heap s.heap [] := va_S.rf
  have hl := lv_entry ([.ref aM, .int p0, .int p1]) (n := 4) (Nat.le_of_ble_eq_true rfl)
  rw [lg_entry_eq]
  generalize (lg_sl ([.ref aM, .int p0, .int p1]) ++ List.replicate (4 - (lg_sl ([.ref aM, .int p0, .int p1])).length) Slot.unset).toArray = ls at hl ⊢
  have hl : lv_has ls 4 [(0, .ref aM), (1, .int p0), (2, .int p1)] := hl
  have C0 : lc_C p s m meth c _ b_MO_copy 4 none R_MO lw_g := ⟨hx, hb, hml, hr, hown, hlocks, hT⟩
  refine lv_iconst (v := 0) hx hb d_MO_copy_0 (by decide) ?_
  refine lv_istore_n (lv' := [(3, .int 0), (0, .ref aM), (1, .int p0), (2, .int p1)]) hx hb d_MO_copy_1 rfl hl (by decide) rfl (fun ls hl => ?_)
  refine l_MO_copy_h2 C0 hs l D cB cI aM aMst aMdcs aMtot aMfrm aMsiz aMffr aMfsz aMlkd aMlat aMkkd aMkat aModr aMgrp aMikd aMiat fu thr tpd frs frt bgn mst tgr lvs its hgh loo dfl hk hA p0 p1  (K := (fun (x3_4 : Int32) (top_4 : Int32) (ovr_4 : Bool) (st_4 : Nat → Int32) =>
      some (top_4, ovr_4, st_4))) ?_ fu 0 top ovr st  (by rw [tw_MO_copy]) _ _ hP hD hS ls (lv_sub hl [1, 2, 3, 0] rfl)
  intro x3_4 top_4 ovr_4 st_4 hV_4 H locs hP hD hS ls hl
  exact W.vret hx hb hr (fun t ht hW => ⟨⟨(top_4, ovr_4, st_4), rfl, (op_eq hs (by rw [hV_4])), by rw [ht]; exact hP, hD⟩, hS.F ht⟩) hS.2.2 d_MO_copy_25
abbrev wd_MO_putLow (aM aMst aMdcs aMtot aMfrm aMsiz aMffr aMfsz aMlkd aMlat aMkkd aMkat aModr aMgrp aMikd aMiat : Nat) (cB cI : ClassId) (thr : Int32) (tpd : Int32) (frs : Int32) (frt : Int32) (bgn : Int32) (mst : Int32) (tgr : Bool) (lvs : Int32) (its : Int32) (hgh : Int64) (loo : Int64) (dfl : Bool) (top : Int32) (ovr : Bool) (st : Nat → Int32) : va_W := [(aM, .inr (11, [.int thr, .ref aMst, .int tpd, .ref aMdcs, .ref aMtot, .ref aMfrm, .ref aMsiz, .int frs, .int frt, .ref aMffr, .ref aMfsz, .int top, .int bgn, .int mst, .int (b2i ovr), .int (b2i tgr), .int lvs, .ref aMlkd, .ref aMlat, .ref aMkkd, .ref aMkat, .ref aModr, .ref aMgrp, .int its, .ref aMikd, .ref aMiat, .long hgh, .long loo, .int (b2i dfl)])), (aMst, .inl (cI, 136400, .inl st))]
set_option maxHeartbeats 4000000 in
set_option maxRecDepth 100000 in
theorem l_MO_putLow_h3 {p : Program} {e : Env} {s : State} {m : MethodId} {args : Array Value} {below : List Frame} {meth : Method} {c : Code} {V : Option (Int32 × Bool × (Nat → Int32))} {V0 : Int32 × Bool × (Nat → Int32)} (C0 : lc_C p s m meth c args b_MO_putLow 5 none R_MO lw_g) (hs : V = some V0) (l : Launch) (D : va_G) (cB cI : ClassId) (aM aMst aMdcs aMtot aMfrm aMsiz aMffr aMfsz aMlkd aMlat aMkkd aMkat aModr aMgrp aMikd aMiat : Nat) (fu : Nat) (thr : Int32) (tpd : Int32) (frs : Int32) (frt : Int32) (bgn : Int32) (mst : Int32) (tgr : Bool) (lvs : Int32) (its : Int32) (hgh : Int64) (loo : Int64) (dfl : Bool) {A : Nat → Prop} (hk : hk_ D cB cI s) (hA : ∀ q : Nat, s.heap.size ≤ q → A q) (p0 : Int64) (p1 : Int32) {K : Int32 → Int32 → Bool → (Nat → Int32) → Option (Int32 × Bool × (Nat → Int32))} (hKx : ∀ (x4 : Int32) (top : Int32) (ovr : Bool) (st : Nat → Int32), V = K x4 top ovr st → ∀ (H : Heap) (locs : List Loc), va_P D vwCl [(aM, .inr (11, [.int thr, .ref aMst, .int tpd, .ref aMdcs, .ref aMtot, .ref aMfrm, .ref aMsiz, .int frs, .int frt, .ref aMffr, .ref aMfsz, .int top, .int bgn, .int mst, .int (b2i ovr), .int (b2i tgr), .int lvs, .ref aMlkd, .ref aMlat, .ref aMkkd, .ref aMkat, .ref aModr, .ref aMgrp, .int its, .ref aMikd, .ref aMiat, .long hgh, .long loo, .int (b2i dfl)])), (aMst, .inl (cI, 136400, .inl st))] H → va_D A [(aM, .inr (11, [.int thr, .ref aMst, .int tpd, .ref aMdcs, .ref aMtot, .ref aMfrm, .ref aMsiz, .int frs, .int frt, .ref aMffr, .ref aMfsz, .int top, .int bgn, .int mst, .int (b2i ovr), .int (b2i tgr), .int lvs, .ref aMlkd, .ref aMlat, .ref aMkkd, .ref aMkat, .ref aModr, .ref aMgrp, .int its, .ref aMikd, .ref aMiat, .long hgh, .long loo, .int (b2i dfl)])), (aMst, .inl (cI, 136400, .inl st))] → va_S A s.heap H locs → ∀ ls : Array Slot, lv_has ls 5 [] → W p l e ({ frames := 1, cells := 0, slots := 0, locals := 21 }) s m args below meth c H locs 0 0 (MQ below (va_Qv (fun (u : Int32 × Bool × (Nat → Int32)) => u = V0) (mt_B D A (fun u => wd_MO_putLow aM aMst aMdcs aMtot aMfrm aMsiz aMffr aMfsz aMlkd aMlat aMkkd aMkat aModr aMgrp aMikd aMiat cB cI thr tpd frs frt bgn mst tgr lvs its hgh loo dfl u.1 u.2.1 u.2.2)) A) args s 0 0 A) (F0 m 31 ls [])) : ∀ (n : Nat) (x4 : Int32) (top : Int32) (ovr : Bool) (st : Nat → Int32), V = tw_MO_putLow_h3 fu bgn mst K p0 p1 n x4 top ovr st → ∀ (H : Heap) (locs : List Loc), va_P D vwCl [(aM, .inr (11, [.int thr, .ref aMst, .int tpd, .ref aMdcs, .ref aMtot, .ref aMfrm, .ref aMsiz, .int frs, .int frt, .ref aMffr, .ref aMfsz, .int top, .int bgn, .int mst, .int (b2i ovr), .int (b2i tgr), .int lvs, .ref aMlkd, .ref aMlat, .ref aMkkd, .ref aMkat, .ref aModr, .ref aMgrp, .int its, .ref aMikd, .ref aMiat, .long hgh, .long loo, .int (b2i dfl)])), (aMst, .inl (cI, 136400, .inl st))] H → va_D A [(aM, .inr (11, [.int thr, .ref aMst, .int tpd, .ref aMdcs, .ref aMtot, .ref aMfrm, .ref aMsiz, .int frs, .int frt, .ref aMffr, .ref aMfsz, .int top, .int bgn, .int mst, .int (b2i ovr), .int (b2i tgr), .int lvs, .ref aMlkd, .ref aMlat, .ref aMkkd, .ref aMkat, .ref aModr, .ref aMgrp, .int its, .ref aMikd, .ref aMiat, .long hgh, .long loo, .int (b2i dfl)])), (aMst, .inl (cI, 136400, .inl st))] → va_S A s.heap H locs → ∀ ls : Array Slot, lv_has ls 5 [(0, .ref aM), (1, .long p0), (3, .int p1), (4, .int x4)] → W p l e ({ frames := 1, cells := 0, slots := 0, locals := 21 }) s m args below meth c H locs 0 0 (MQ below (va_Qv (fun (u : Int32 × Bool × (Nat → Int32)) => u = V0) (mt_B D A (fun u => wd_MO_putLow aM aMst aMdcs aMtot aMfrm aMsiz aMffr aMfsz aMlkd aMlat aMkkd aMkat aModr aMgrp aMikd aMiat cB cI thr tpd frs frt bgn mst tgr lvs its hgh loo dfl u.1 u.2.1 u.2.2)) A) args s 0 0 A) (F0 m 3 ls []) := by
  obtain ⟨hx, hb, hml, hr, hown, hlocks, hT⟩ := id C0
  have hK := hk.1
  have hN := hk.2.1
  intro n
  induction n with
  | zero =>
    intro x4 top ovr st hV
    exact op_no hs (hV.trans rfl)
  | succ n ih =>
    intro x4 top ovr st hV H locs hP hD hS ls hl
    refine lv_iload hx hb d_MO_putLow_3 (lv_at hl 3 rfl) ?_
    refine lv_iload_n hx hb d_MO_putLow_5 rfl (lv_at hl 2 rfl) ?_
    refine lv_icmp_ge (tgt := 31) hx hb d_MO_putLow_6 (by decide) (fun c_1 => ?_) (fun c_1 => ?_)
    · exact hKx x4 top ovr st (by rw [hV, tw_MO_putLow_h3, if_pos c_1]) _ _ hP hD hS ls (lv_sub hl [] rfl)
    · refine lv_aload_n hx hb d_MO_putLow_9 rfl (lv_at hl 0 rfl) ?_
      refine lv_lload_n hx hb d_MO_putLow_10 rfl (lv_at hl 1 rfl) ?_
      refine lv_bipush (v := 8) hx hb d_MO_putLow_11 (by decide) ?_
      refine lv_iload hx hb d_MO_putLow_13 (lv_at hl 3 rfl) ?_
      refine lv_imul hx hb d_MO_putLow_15 ?_
      refine lv_lshr hx hb d_MO_putLow_16 rfl ?_
      refine lv_ldc2 (v := 255) hx hb hown (hT _ k_1221) d_MO_putLow_17 ?_
      refine lv_land hx hb d_MO_putLow_20 ?_
      refine lv_l2i (v := ((p0 >>> ((8 * x4).toInt64 &&& 63)) &&& 255).toInt32) hx hb d_MO_putLow_21 rfl ?_
      rcases h_2 : tw_MO_write fu bgn mst top ovr st (((p0 >>> ((8 * x4).toInt64 &&& 63)) &&& 255).toInt32) with _ | w_2
      · exact op_no hs (by rw [hV, tw_MO_putLow_h3, if_neg c_1, h_2, ob3_no])
      refine mt_Vv (As := [.int (((p0 >>> ((8 * x4).toInt64 &&& 63)) &&& 255).toInt32)]) (rest := []) (wr := []) ⟨hx, hb, hml, hown, hT⟩ (c_MO_write l D cB cI aM aMst aMdcs aMtot aMfrm aMsiz aMffr aMfsz aMlkd aMlat aMkkd aMkat aModr aMgrp aMikd aMiat fu thr tpd frs frt bgn mst tgr lvs its hgh loo dfl _ top ovr st (((p0 >>> ((8 * x4).toInt64 &&& 63)) &&& 255).toInt32) w_2 h_2) (cwV 1 hT (gV_of k_1326 k_1328 kp_MO_write k_12 kc_MO_write) rfl rfl rfl hd_MO_write ⟨Nat.le_of_ble_eq_true rfl, Nat.le_of_ble_eq_true rfl⟩) hk hP hD hS hA [0, 1] [] rfl rfl rfl (by decide) (by decide) (by decide) (q0 := 0) rfl rfl rfl rfl hl.1 rfl (Nat.le_of_ble_eq_true rfl) d_MO_putLow_22 ⟨Nat.zero_le _, Nat.zero_le _⟩ (fun u_2 H locs hw_2 hP hD hS => ?_)
      subst hw_2
      obtain ⟨top_2, ovr_2, st_2⟩ := u_2
      have hP : va_P D vwCl [(aM, .inr (11, [.int thr, .ref aMst, .int tpd, .ref aMdcs, .ref aMtot, .ref aMfrm, .ref aMsiz, .int frs, .int frt, .ref aMffr, .ref aMfsz, .int top_2, .int bgn, .int mst, .int (b2i ovr_2), .int (b2i tgr), .int lvs, .ref aMlkd, .ref aMlat, .ref aMkkd, .ref aMkat, .ref aModr, .ref aMgrp, .int its, .ref aMikd, .ref aMiat, .long hgh, .long loo, .int (b2i dfl)])), (aMst, .inl (cI, 136400, .inl st_2))] H := hP.sub [0, 1] rfl
      have hD : va_D A [(aM, .inr (11, [.int thr, .ref aMst, .int tpd, .ref aMdcs, .ref aMtot, .ref aMfrm, .ref aMsiz, .int frs, .int frt, .ref aMffr, .ref aMfsz, .int top_2, .int bgn, .int mst, .int (b2i ovr_2), .int (b2i tgr), .int lvs, .ref aMlkd, .ref aMlat, .ref aMkkd, .ref aMkat, .ref aModr, .ref aMgrp, .int its, .ref aMikd, .ref aMiat, .long hgh, .long loo, .int (b2i dfl)])), (aMst, .inl (cI, 136400, .inl st_2))] := hD.sub [0, 1] (by decide) rfl
      refine lv_iinc (v := x4 + 1) (lv' := [(4, .int (x4 + 1)), (0, .ref aM), (1, .long p0), (3, .int p1)]) hx hb d_MO_putLow_25 hl (k := 3) rfl rfl (by decide) rfl (fun ls hl => ?_)
      refine lv_goto (tgt := 3) hx hb d_MO_putLow_28 (by decide) ?_
      exact ih (x4 + 1) top_2 ovr_2 st_2 (by rw [hV, tw_MO_putLow_h3, if_neg c_1, h_2, ob3_mk]) _ _ hP hD hS ls (lv_sub hl [1, 2, 3, 0] rfl)
set_option maxHeartbeats 4000000 in
set_option maxRecDepth 100000 in
theorem c_MO_putLow (l : Launch) (D : va_G) (cB cI : ClassId) (aM aMst aMdcs aMtot aMfrm aMsiz aMffr aMfsz aMlkd aMlat aMkkd aMkat aModr aMgrp aMikd aMiat : Nat) (fu : Nat) (thr : Int32) (tpd : Int32) (frs : Int32) (frt : Int32) (bgn : Int32) (mst : Int32) (tgr : Bool) (lvs : Int32) (its : Int32) (hgh : Int64) (loo : Int64) (dfl : Bool) (sz : Nat) (top : Int32) (ovr : Bool) (st : Nat → Int32) (p0 : Int64) (p1 : Int32) (V0 : Int32 × Bool × (Nat → Int32)) (hs : tw_MO_putLow fu bgn mst top ovr st p0 p1 = some V0) : Met l y_MO_putLow mw_MO_putLow { frames := 1, cells := 0, slots := 0, locals := 21 } (va_Pc [.ref aM, .long p0, .int p1] (mt_P D cB cI (wd_MO_putLow aM aMst aMdcs aMtot aMfrm aMsiz aMffr aMfsz aMlkd aMlat aMkkd aMkat aModr aMgrp aMikd aMiat cB cI thr tpd frs frt bgn mst tgr lvs its hgh loo dfl top ovr st) sz)) (va_Qv (fun (u : Int32 × Bool × (Nat → Int32)) => u = V0) (mt_B D (va_A (wd_MO_putLow aM aMst aMdcs aMtot aMfrm aMsiz aMffr aMfsz aMlkd aMlat aMkkd aMkat aModr aMgrp aMikd aMiat cB cI thr tpd frs frt bgn mst tgr lvs its hgh loo dfl top ovr st) sz) (fun u => wd_MO_putLow aM aMst aMdcs aMtot aMfrm aMsiz aMffr aMfsz aMlkd aMlat aMkkd aMkat aModr aMgrp aMikd aMiat cB cI thr tpd frs frt bgn mst tgr lvs its hgh loo dfl u.1 u.2.1 u.2.2)) (va_A (wd_MO_putLow aM aMst aMdcs aMtot aMfrm aMsiz aMffr aMfsz aMlkd aMlat aMkkd aMkat aModr aMgrp aMikd aMiat cB cI thr tpd frs frt bgn mst tgr lvs its hgh loo dfl top ovr st) sz)) 0 0 (va_A (wd_MO_putLow aM aMst aMdcs aMtot aMfrm aMsiz aMffr aMfsz aMlkd aMlat aMkkd aMkat aModr aMgrp aMikd aMiat cB cI thr tpd frs frt bgn mst tgr lvs its hgh loo dfl top ovr st) sz) := by
  refine Met.ofW (cc := b_MO_putLow) (maxL := 5) (ret := none) (by decide) rfl ?_
  intro p e s m args below meth c s₁ B0 hml hv
  obtain ⟨rfl, hsz, hP, hk, hD0⟩ := hv
  have hK := hk.1
  have hN := hk.2.1
  have hx := B0.exec
  have hb := B0.bytes
  have hr := B0.returns
  have hT : ∀ w ∈ lw_g, w.before _ s = true := fun w h => atoms_spec (ws := mw_MO_putLow) B0.pre w (List.mem_cons_of_mem _ h)
  have hown : s.vm.findClass R_MO = some m.cls := findClass_of_methodNamed B0.named
  have hlocks := B0.notSynchronized
  subst hsz
  have hD := hD0.self (sz := s.heap.size)
  generalize hAe : va_A [(aM, .inr (11, [.int thr, .ref aMst, .int tpd, .ref aMdcs, .ref aMtot, .ref aMfrm, .ref aMsiz, .int frs, .int frt, .ref aMffr, .ref aMfsz, .int top, .int bgn, .int mst, .int (b2i ovr), .int (b2i tgr), .int lvs, .ref aMlkd, .ref aMlat, .ref aMkkd, .ref aMkat, .ref aModr, .ref aMgrp, .int its, .ref aMikd, .ref aMiat, .long hgh, .long loo, .int (b2i dfl)])), (aMst, .inl (cI, 136400, .inl st))] s.heap.size = A at hD ⊢
  have hA : ∀ q : Nat, s.heap.size ≤ q → A q := fun q h => by rw [← hAe]; exact Or.inr h
  have hS : va_S A s.heap s.heap [] := va_S.rf
  have hl := lv_entry ([.ref aM, .long p0, .int p1]) (n := 5) (Nat.le_of_ble_eq_true rfl)
  rw [lg_entry_eq]
  generalize (lg_sl ([.ref aM, .long p0, .int p1]) ++ List.replicate (5 - (lg_sl ([.ref aM, .long p0, .int p1])).length) Slot.unset).toArray = ls at hl ⊢
  have hl : lv_has ls 5 [(0, .ref aM), (1, .long p0), (3, .int p1)] := hl
  have C0 : lc_C p s m meth c _ b_MO_putLow 5 none R_MO lw_g := ⟨hx, hb, hml, hr, hown, hlocks, hT⟩
  refine lv_iconst (v := 0) hx hb d_MO_putLow_0 (by decide) ?_
  refine lv_istore (lv' := [(4, .int 0), (0, .ref aM), (1, .long p0), (3, .int p1)]) hx hb d_MO_putLow_1 hl (by decide) rfl (fun ls hl => ?_)
  refine l_MO_putLow_h3 C0 hs l D cB cI aM aMst aMdcs aMtot aMfrm aMsiz aMffr aMfsz aMlkd aMlat aMkkd aMkat aModr aMgrp aMikd aMiat fu thr tpd frs frt bgn mst tgr lvs its hgh loo dfl hk hA p0 p1  (K := (fun (x4_3 : Int32) (top_3 : Int32) (ovr_3 : Bool) (st_3 : Nat → Int32) =>
      some (top_3, ovr_3, st_3))) ?_ fu 0 top ovr st  (by rw [tw_MO_putLow]) _ _ hP hD hS ls (lv_sub hl [1, 2, 3, 0] rfl)
  intro x4_3 top_3 ovr_3 st_3 hV_3 H locs hP hD hS ls hl
  exact W.vret hx hb hr (fun t ht hW => ⟨⟨(top_3, ovr_3, st_3), rfl, (op_eq hs (by rw [hV_3])), by rw [ht]; exact hP, hD⟩, hS.F ht⟩) hS.2.2 d_MO_putLow_31
abbrev wd_MO_putDigits (aM aMst aMdcs aMtot aMfrm aMsiz aMffr aMfsz aMlkd aMlat aMkkd aMkat aModr aMgrp aMikd aMiat : Nat) (cB cI : ClassId) (thr : Int32) (tpd : Int32) (frs : Int32) (frt : Int32) (bgn : Int32) (mst : Int32) (tgr : Bool) (lvs : Int32) (its : Int32) (hgh : Int64) (loo : Int64) (dfl : Bool) (top : Int32) (ovr : Bool) (st : Nat → Int32) : va_W := [(aM, .inr (11, [.int thr, .ref aMst, .int tpd, .ref aMdcs, .ref aMtot, .ref aMfrm, .ref aMsiz, .int frs, .int frt, .ref aMffr, .ref aMfsz, .int top, .int bgn, .int mst, .int (b2i ovr), .int (b2i tgr), .int lvs, .ref aMlkd, .ref aMlat, .ref aMkkd, .ref aMkat, .ref aModr, .ref aMgrp, .int its, .ref aMikd, .ref aMiat, .long hgh, .long loo, .int (b2i dfl)])), (aMst, .inl (cI, 136400, .inl st))]
set_option maxHeartbeats 4000000 in
set_option maxRecDepth 100000 in
theorem l_MO_putDigits_r17 {p : Program} {e : Env} {s : State} {m : MethodId} {args : Array Value} {below : List Frame} {meth : Method} {c : Code} {V : Option (Int32 × Bool × (Nat → Int32))} {V0 : Int32 × Bool × (Nat → Int32)} (C0 : lc_C p s m meth c args b_MO_putDigits 2 none R_MO lw_g) (hs : V = some V0) (l : Launch) (D : va_G) (cB cI : ClassId) (aM aMst aMdcs aMtot aMfrm aMsiz aMffr aMfsz aMlkd aMlat aMkkd aMkat aModr aMgrp aMikd aMiat : Nat) (fu : Nat) (thr : Int32) (tpd : Int32) (frs : Int32) (frt : Int32) (bgn : Int32) (mst : Int32) (tgr : Bool) (lvs : Int32) (its : Int32) (hgh : Int64) (loo : Int64) (dfl : Bool)  {A : Nat → Prop} (hk : hk_ D cB cI s) (hA : ∀ q : Nat, s.heap.size ≤ q → A q) (x1 : Int32) (top : Int32) (ovr : Bool) (st : Nat → Int32) {K : Int32 → Bool → (Nat → Int32) → Option (Int32 × Bool × (Nat → Int32))} (hKx : ∀ (top' : Int32) (ovr' : Bool) (st' : Nat → Int32), V = K top' ovr' st' → ∀ (H : Heap) (locs : List Loc), va_P D vwCl [(aM, .inr (11, [.int thr, .ref aMst, .int tpd, .ref aMdcs, .ref aMtot, .ref aMfrm, .ref aMsiz, .int frs, .int frt, .ref aMffr, .ref aMfsz, .int top', .int bgn, .int mst, .int (b2i ovr'), .int (b2i tgr), .int lvs, .ref aMlkd, .ref aMlat, .ref aMkkd, .ref aMkat, .ref aModr, .ref aMgrp, .int its, .ref aMikd, .ref aMiat, .long hgh, .long loo, .int (b2i dfl)])), (aMst, .inl (cI, 136400, .inl st'))] H → va_D A [(aM, .inr (11, [.int thr, .ref aMst, .int tpd, .ref aMdcs, .ref aMtot, .ref aMfrm, .ref aMsiz, .int frs, .int frt, .ref aMffr, .ref aMfsz, .int top', .int bgn, .int mst, .int (b2i ovr'), .int (b2i tgr), .int lvs, .ref aMlkd, .ref aMlat, .ref aMkkd, .ref aMkat, .ref aModr, .ref aMgrp, .int its, .ref aMikd, .ref aMiat, .long hgh, .long loo, .int (b2i dfl)])), (aMst, .inl (cI, 136400, .inl st'))] → va_S A s.heap H locs → ∀ ls : Array Slot, lv_has ls 2 [(0, .ref aM), (1, .int x1)] → W p l e ({ frames := 1, cells := 0, slots := 0, locals := 21 }) s m args below meth c H locs 0 0 (MQ below (va_Qv (fun (u : Int32 × Bool × (Nat → Int32)) => u = V0) (mt_B D A (fun u => wd_MO_putDigits aM aMst aMdcs aMtot aMfrm aMsiz aMffr aMfsz aMlkd aMlat aMkkd aMkat aModr aMgrp aMikd aMiat cB cI thr tpd frs frt bgn mst tgr lvs its hgh loo dfl u.1 u.2.1 u.2.2)) A) args s 0 0 A) (F0 m 37 ls [])) (hV : V = tw_MO_putDigits_r17 fu bgn mst K x1 top ovr st) : ∀ (H : Heap) (locs : List Loc), va_P D vwCl [(aM, .inr (11, [.int thr, .ref aMst, .int tpd, .ref aMdcs, .ref aMtot, .ref aMfrm, .ref aMsiz, .int frs, .int frt, .ref aMffr, .ref aMfsz, .int top, .int bgn, .int mst, .int (b2i ovr), .int (b2i tgr), .int lvs, .ref aMlkd, .ref aMlat, .ref aMkkd, .ref aMkat, .ref aModr, .ref aMgrp, .int its, .ref aMikd, .ref aMiat, .long hgh, .long loo, .int (b2i dfl)])), (aMst, .inl (cI, 136400, .inl st))] H → va_D A [(aM, .inr (11, [.int thr, .ref aMst, .int tpd, .ref aMdcs, .ref aMtot, .ref aMfrm, .ref aMsiz, .int frs, .int frt, .ref aMffr, .ref aMfsz, .int top, .int bgn, .int mst, .int (b2i ovr), .int (b2i tgr), .int lvs, .ref aMlkd, .ref aMlat, .ref aMkkd, .ref aMkat, .ref aModr, .ref aMgrp, .int its, .ref aMikd, .ref aMiat, .long hgh, .long loo, .int (b2i dfl)])), (aMst, .inl (cI, 136400, .inl st))] → va_S A s.heap H locs → ∀ ls : Array Slot, lv_has ls 2 [(0, .ref aM), (1, .int x1)] → W p l e ({ frames := 1, cells := 0, slots := 0, locals := 21 }) s m args below meth c H locs 0 0 (MQ below (va_Qv (fun (u : Int32 × Bool × (Nat → Int32)) => u = V0) (mt_B D A (fun u => wd_MO_putDigits aM aMst aMdcs aMtot aMfrm aMsiz aMffr aMfsz aMlkd aMlat aMkkd aMkat aModr aMgrp aMikd aMiat cB cI thr tpd frs frt bgn mst tgr lvs its hgh loo dfl u.1 u.2.1 u.2.2)) A) args s 0 0 A) (F0 m 17 ls []) := by
  obtain ⟨hx, hb, hml, hr, hown, hlocks, hT⟩ := id C0
  have hK := hk.1
  have hN := hk.2.1
  intro H locs hP hD hS ls hl
  refine lv_iload_n hx hb d_MO_putDigits_17 rfl (lv_at hl 1 rfl) ?_
  refine lv_bipush (v := 9) hx hb d_MO_putDigits_18 (by decide) ?_
  refine lv_icmp_le (tgt := 37) hx hb d_MO_putDigits_20 (by decide) (fun c_2 => ?_) (fun c_2 => ?_)
  · exact hKx top ovr st (by rw [hV, tw_MO_putDigits_r17, if_pos c_2]) _ _ hP hD hS ls (lv_sub hl [0, 1] rfl)
  · refine lv_aload_n hx hb d_MO_putDigits_23 rfl (lv_at hl 0 rfl) ?_
    refine lv_bipush (v := 48) hx hb d_MO_putDigits_24 (by decide) ?_
    refine lv_iload_n hx hb d_MO_putDigits_26 rfl (lv_at hl 1 rfl) ?_
    refine lv_bipush (v := 10) hx hb d_MO_putDigits_27 (by decide) ?_
    refine lv_idiv hx hb d_MO_putDigits_29 (by decide) ?_
    refine lv_bipush (v := 10) hx hb d_MO_putDigits_30 (by decide) ?_
    refine lv_irem hx hb d_MO_putDigits_32 (by decide) ?_
    refine lv_iadd hx hb d_MO_putDigits_33 ?_
    rcases h_3 : tw_MO_write fu bgn mst top ovr st (48 + ((x1 / 10) - (x1 / 10) / 10 * 10)) with _ | w_3
    · exact op_no hs (by rw [hV, tw_MO_putDigits_r17, if_neg c_2, h_3, ob3_no])
    refine mt_Vv (As := [.int (48 + ((x1 / 10) - (x1 / 10) / 10 * 10))]) (rest := []) (wr := []) ⟨hx, hb, hml, hown, hT⟩ (c_MO_write l D cB cI aM aMst aMdcs aMtot aMfrm aMsiz aMffr aMfsz aMlkd aMlat aMkkd aMkat aModr aMgrp aMikd aMiat fu thr tpd frs frt bgn mst tgr lvs its hgh loo dfl _ top ovr st (48 + ((x1 / 10) - (x1 / 10) / 10 * 10)) w_3 h_3) (cwV 1 hT (gV_of k_1326 k_1328 kp_MO_write k_12 kc_MO_write) rfl rfl rfl hd_MO_write ⟨Nat.le_of_ble_eq_true rfl, Nat.le_of_ble_eq_true rfl⟩) hk hP hD hS hA [0, 1] [] rfl rfl rfl (by decide) (by decide) (by decide) (q0 := 0) rfl rfl rfl rfl hl.1 rfl (Nat.le_of_ble_eq_true rfl) d_MO_putDigits_34 ⟨Nat.zero_le _, Nat.zero_le _⟩ (fun u_3 H locs hw_3 hP hD hS => ?_)
    subst hw_3
    obtain ⟨top_3, ovr_3, st_3⟩ := u_3
    have hP : va_P D vwCl [(aM, .inr (11, [.int thr, .ref aMst, .int tpd, .ref aMdcs, .ref aMtot, .ref aMfrm, .ref aMsiz, .int frs, .int frt, .ref aMffr, .ref aMfsz, .int top_3, .int bgn, .int mst, .int (b2i ovr_3), .int (b2i tgr), .int lvs, .ref aMlkd, .ref aMlat, .ref aMkkd, .ref aMkat, .ref aModr, .ref aMgrp, .int its, .ref aMikd, .ref aMiat, .long hgh, .long loo, .int (b2i dfl)])), (aMst, .inl (cI, 136400, .inl st_3))] H := hP.sub [0, 1] rfl
    have hD : va_D A [(aM, .inr (11, [.int thr, .ref aMst, .int tpd, .ref aMdcs, .ref aMtot, .ref aMfrm, .ref aMsiz, .int frs, .int frt, .ref aMffr, .ref aMfsz, .int top_3, .int bgn, .int mst, .int (b2i ovr_3), .int (b2i tgr), .int lvs, .ref aMlkd, .ref aMlat, .ref aMkkd, .ref aMkat, .ref aModr, .ref aMgrp, .int its, .ref aMikd, .ref aMiat, .long hgh, .long loo, .int (b2i dfl)])), (aMst, .inl (cI, 136400, .inl st_3))] := hD.sub [0, 1] (by decide) rfl
    exact hKx top_3 ovr_3 st_3 (by rw [hV, tw_MO_putDigits_r17, if_neg c_2, h_3, ob3_mk]) _ _ hP hD hS ls (lv_sub hl [0, 1] rfl)
set_option maxHeartbeats 4000000 in
set_option maxRecDepth 100000 in
theorem c_MO_putDigits (l : Launch) (D : va_G) (cB cI : ClassId) (aM aMst aMdcs aMtot aMfrm aMsiz aMffr aMfsz aMlkd aMlat aMkkd aMkat aModr aMgrp aMikd aMiat : Nat) (fu : Nat) (thr : Int32) (tpd : Int32) (frs : Int32) (frt : Int32) (bgn : Int32) (mst : Int32) (tgr : Bool) (lvs : Int32) (its : Int32) (hgh : Int64) (loo : Int64) (dfl : Bool) (sz : Nat) (top : Int32) (ovr : Bool) (st : Nat → Int32) (p0 : Int32) (V0 : Int32 × Bool × (Nat → Int32)) (hs : tw_MO_putDigits fu bgn mst top ovr st p0 = some V0) : Met l y_MO_putDigits mw_MO_putDigits { frames := 1, cells := 0, slots := 0, locals := 21 } (va_Pc [.ref aM, .int p0] (mt_P D cB cI (wd_MO_putDigits aM aMst aMdcs aMtot aMfrm aMsiz aMffr aMfsz aMlkd aMlat aMkkd aMkat aModr aMgrp aMikd aMiat cB cI thr tpd frs frt bgn mst tgr lvs its hgh loo dfl top ovr st) sz)) (va_Qv (fun (u : Int32 × Bool × (Nat → Int32)) => u = V0) (mt_B D (va_A (wd_MO_putDigits aM aMst aMdcs aMtot aMfrm aMsiz aMffr aMfsz aMlkd aMlat aMkkd aMkat aModr aMgrp aMikd aMiat cB cI thr tpd frs frt bgn mst tgr lvs its hgh loo dfl top ovr st) sz) (fun u => wd_MO_putDigits aM aMst aMdcs aMtot aMfrm aMsiz aMffr aMfsz aMlkd aMlat aMkkd aMkat aModr aMgrp aMikd aMiat cB cI thr tpd frs frt bgn mst tgr lvs its hgh loo dfl u.1 u.2.1 u.2.2)) (va_A (wd_MO_putDigits aM aMst aMdcs aMtot aMfrm aMsiz aMffr aMfsz aMlkd aMlat aMkkd aMkat aModr aMgrp aMikd aMiat cB cI thr tpd frs frt bgn mst tgr lvs its hgh loo dfl top ovr st) sz)) 0 0 (va_A (wd_MO_putDigits aM aMst aMdcs aMtot aMfrm aMsiz aMffr aMfsz aMlkd aMlat aMkkd aMkat aModr aMgrp aMikd aMiat cB cI thr tpd frs frt bgn mst tgr lvs its hgh loo dfl top ovr st) sz) := by
  refine Met.ofW (cc := b_MO_putDigits) (maxL := 2) (ret := none) (by decide) rfl ?_
  intro p e s m args below meth c s₁ B0 hml hv
  obtain ⟨rfl, hsz, hP, hk, hD0⟩ := hv
  have hK := hk.1
  have hN := hk.2.1
  have hx := B0.exec
  have hb := B0.bytes
  have hr := B0.returns
  have hT : ∀ w ∈ lw_g, w.before _ s = true := fun w h => atoms_spec (ws := mw_MO_putDigits) B0.pre w (List.mem_cons_of_mem _ h)
  have hown : s.vm.findClass R_MO = some m.cls := findClass_of_methodNamed B0.named
  have hlocks := B0.notSynchronized
  subst hsz
  have hD := hD0.self (sz := s.heap.size)
  generalize hAe : va_A [(aM, .inr (11, [.int thr, .ref aMst, .int tpd, .ref aMdcs, .ref aMtot, .ref aMfrm, .ref aMsiz, .int frs, .int frt, .ref aMffr, .ref aMfsz, .int top, .int bgn, .int mst, .int (b2i ovr), .int (b2i tgr), .int lvs, .ref aMlkd, .ref aMlat, .ref aMkkd, .ref aMkat, .ref aModr, .ref aMgrp, .int its, .ref aMikd, .ref aMiat, .long hgh, .long loo, .int (b2i dfl)])), (aMst, .inl (cI, 136400, .inl st))] s.heap.size = A at hD ⊢
  have hA : ∀ q : Nat, s.heap.size ≤ q → A q := fun q h => by rw [← hAe]; exact Or.inr h
  have hS : va_S A s.heap s.heap [] := va_S.rf
  have hl := lv_entry ([.ref aM, .int p0]) (n := 2) (Nat.le_of_ble_eq_true rfl)
  rw [lg_entry_eq]
  generalize (lg_sl ([.ref aM, .int p0]) ++ List.replicate (2 - (lg_sl ([.ref aM, .int p0])).length) Slot.unset).toArray = ls at hl ⊢
  have hl : lv_has ls 2 [(0, .ref aM), (1, .int p0)] := hl
  have C0 : lc_C p s m meth c _ b_MO_putDigits 2 none R_MO lw_g := ⟨hx, hb, hml, hr, hown, hlocks, hT⟩
  refine lv_iload_n hx hb d_MO_putDigits_0 rfl (lv_at hl 1 rfl) ?_
  refine lv_bipush (v := 99) hx hb d_MO_putDigits_1 (by decide) ?_
  refine lv_icmp_le (tgt := 17) hx hb d_MO_putDigits_3 (by decide) (fun c_1 => ?_) (fun c_1 => ?_)
  · refine l_MO_putDigits_r17 C0 hs l D cB cI aM aMst aMdcs aMtot aMfrm aMsiz aMffr aMfsz aMlkd aMlat aMkkd aMkat aModr aMgrp aMikd aMiat fu thr tpd frs frt bgn mst tgr lvs its hgh loo dfl hk hA p0 top ovr st (K := (fun (top_4 : Int32) (ovr_4 : Bool) (st_4 : Nat → Int32) =>
        ob3 (tw_MO_write fu bgn mst top_4 ovr_4 st_4 (48 + (p0 - p0 / 10 * 10))) (fun top_5 ovr_5 st_5 =>
          ob3 (tw_MO_write fu bgn mst top_5 ovr_5 st_5 0) (fun top_6 ovr_6 st_6 =>
            some (top_6, ovr_6, st_6))))) ?_ (by rw [tw_MO_putDigits, if_pos c_1]) _ _ hP hD hS ls (lv_sub hl [0, 1] rfl)
    intro top_4 ovr_4 st_4 hV_4 H locs hP hD hS ls hl
    refine lv_aload_n hx hb d_MO_putDigits_37 rfl (lv_at hl 0 rfl) ?_
    refine lv_bipush (v := 48) hx hb d_MO_putDigits_38 (by decide) ?_
    refine lv_iload_n hx hb d_MO_putDigits_40 rfl (lv_at hl 1 rfl) ?_
    refine lv_bipush (v := 10) hx hb d_MO_putDigits_41 (by decide) ?_
    refine lv_irem hx hb d_MO_putDigits_43 (by decide) ?_
    refine lv_iadd hx hb d_MO_putDigits_44 ?_
    rcases h_5 : tw_MO_write fu bgn mst top_4 ovr_4 st_4 (48 + (p0 - p0 / 10 * 10)) with _ | w_5
    · exact op_no hs (by rw [hV_4, h_5, ob3_no])
    refine mt_Vv (As := [.int (48 + (p0 - p0 / 10 * 10))]) (rest := []) (wr := []) ⟨hx, hb, hml, hown, hT⟩ (c_MO_write l D cB cI aM aMst aMdcs aMtot aMfrm aMsiz aMffr aMfsz aMlkd aMlat aMkkd aMkat aModr aMgrp aMikd aMiat fu thr tpd frs frt bgn mst tgr lvs its hgh loo dfl _ top_4 ovr_4 st_4 (48 + (p0 - p0 / 10 * 10)) w_5 h_5) (cwV 1 hT (gV_of k_1326 k_1328 kp_MO_write k_12 kc_MO_write) rfl rfl rfl hd_MO_write ⟨Nat.le_of_ble_eq_true rfl, Nat.le_of_ble_eq_true rfl⟩) hk hP hD hS hA [0, 1] [] rfl rfl rfl (by decide) (by decide) (by decide) (q0 := 0) rfl rfl rfl rfl hl.1 rfl (Nat.le_of_ble_eq_true rfl) d_MO_putDigits_45 ⟨Nat.zero_le _, Nat.zero_le _⟩ (fun u_5 H locs hw_5 hP hD hS => ?_)
    subst hw_5
    obtain ⟨top_5, ovr_5, st_5⟩ := u_5
    have hP : va_P D vwCl [(aM, .inr (11, [.int thr, .ref aMst, .int tpd, .ref aMdcs, .ref aMtot, .ref aMfrm, .ref aMsiz, .int frs, .int frt, .ref aMffr, .ref aMfsz, .int top_5, .int bgn, .int mst, .int (b2i ovr_5), .int (b2i tgr), .int lvs, .ref aMlkd, .ref aMlat, .ref aMkkd, .ref aMkat, .ref aModr, .ref aMgrp, .int its, .ref aMikd, .ref aMiat, .long hgh, .long loo, .int (b2i dfl)])), (aMst, .inl (cI, 136400, .inl st_5))] H := hP.sub [0, 1] rfl
    have hD : va_D A [(aM, .inr (11, [.int thr, .ref aMst, .int tpd, .ref aMdcs, .ref aMtot, .ref aMfrm, .ref aMsiz, .int frs, .int frt, .ref aMffr, .ref aMfsz, .int top_5, .int bgn, .int mst, .int (b2i ovr_5), .int (b2i tgr), .int lvs, .ref aMlkd, .ref aMlat, .ref aMkkd, .ref aMkat, .ref aModr, .ref aMgrp, .int its, .ref aMikd, .ref aMiat, .long hgh, .long loo, .int (b2i dfl)])), (aMst, .inl (cI, 136400, .inl st_5))] := hD.sub [0, 1] (by decide) rfl
    refine lv_aload_n hx hb d_MO_putDigits_48 rfl (lv_at hl 0 rfl) ?_
    refine lv_iconst (v := 0) hx hb d_MO_putDigits_49 (by decide) ?_
    rcases h_6 : tw_MO_write fu bgn mst top_5 ovr_5 st_5 0 with _ | w_6
    · exact op_no hs (by rw [hV_4, h_5, ob3_mk, h_6, ob3_no])
    refine mt_Vv (As := [.int 0]) (rest := []) (wr := []) ⟨hx, hb, hml, hown, hT⟩ (c_MO_write l D cB cI aM aMst aMdcs aMtot aMfrm aMsiz aMffr aMfsz aMlkd aMlat aMkkd aMkat aModr aMgrp aMikd aMiat fu thr tpd frs frt bgn mst tgr lvs its hgh loo dfl _ top_5 ovr_5 st_5 0 w_6 h_6) (cwV 1 hT (gV_of k_1326 k_1328 kp_MO_write k_12 kc_MO_write) rfl rfl rfl hd_MO_write ⟨Nat.le_of_ble_eq_true rfl, Nat.le_of_ble_eq_true rfl⟩) hk hP hD hS hA [0, 1] [] rfl rfl rfl (by decide) (by decide) (by decide) (q0 := 0) rfl rfl rfl rfl hl.1 rfl (Nat.le_of_ble_eq_true rfl) d_MO_putDigits_50 ⟨Nat.zero_le _, Nat.zero_le _⟩ (fun u_6 H locs hw_6 hP hD hS => ?_)
    subst hw_6
    obtain ⟨top_6, ovr_6, st_6⟩ := u_6
    have hP : va_P D vwCl [(aM, .inr (11, [.int thr, .ref aMst, .int tpd, .ref aMdcs, .ref aMtot, .ref aMfrm, .ref aMsiz, .int frs, .int frt, .ref aMffr, .ref aMfsz, .int top_6, .int bgn, .int mst, .int (b2i ovr_6), .int (b2i tgr), .int lvs, .ref aMlkd, .ref aMlat, .ref aMkkd, .ref aMkat, .ref aModr, .ref aMgrp, .int its, .ref aMikd, .ref aMiat, .long hgh, .long loo, .int (b2i dfl)])), (aMst, .inl (cI, 136400, .inl st_6))] H := hP.sub [0, 1] rfl
    have hD : va_D A [(aM, .inr (11, [.int thr, .ref aMst, .int tpd, .ref aMdcs, .ref aMtot, .ref aMfrm, .ref aMsiz, .int frs, .int frt, .ref aMffr, .ref aMfsz, .int top_6, .int bgn, .int mst, .int (b2i ovr_6), .int (b2i tgr), .int lvs, .ref aMlkd, .ref aMlat, .ref aMkkd, .ref aMkat, .ref aModr, .ref aMgrp, .int its, .ref aMikd, .ref aMiat, .long hgh, .long loo, .int (b2i dfl)])), (aMst, .inl (cI, 136400, .inl st_6))] := hD.sub [0, 1] (by decide) rfl
    exact W.vret hx hb hr (fun t ht hW => ⟨⟨(top_6, ovr_6, st_6), rfl, (op_eq hs (by rw [hV_4, h_5, ob3_mk, h_6, ob3_mk])), by rw [ht]; exact hP, hD⟩, hS.F ht⟩) hS.2.2 d_MO_putDigits_53
  · refine lv_aload_n hx hb d_MO_putDigits_6 rfl (lv_at hl 0 rfl) ?_
    refine lv_bipush (v := 48) hx hb d_MO_putDigits_7 (by decide) ?_
    refine lv_iload_n hx hb d_MO_putDigits_9 rfl (lv_at hl 1 rfl) ?_
    refine lv_bipush (v := 100) hx hb d_MO_putDigits_10 (by decide) ?_
    refine lv_idiv hx hb d_MO_putDigits_12 (by decide) ?_
    refine lv_iadd hx hb d_MO_putDigits_13 ?_
    rcases h_7 : tw_MO_write fu bgn mst top ovr st (48 + (p0 / 100)) with _ | w_7
    · exact op_no hs (by rw [tw_MO_putDigits, if_neg c_1, h_7, ob3_no])
    refine mt_Vv (As := [.int (48 + (p0 / 100))]) (rest := []) (wr := []) ⟨hx, hb, hml, hown, hT⟩ (c_MO_write l D cB cI aM aMst aMdcs aMtot aMfrm aMsiz aMffr aMfsz aMlkd aMlat aMkkd aMkat aModr aMgrp aMikd aMiat fu thr tpd frs frt bgn mst tgr lvs its hgh loo dfl _ top ovr st (48 + (p0 / 100)) w_7 h_7) (cwV 1 hT (gV_of k_1326 k_1328 kp_MO_write k_12 kc_MO_write) rfl rfl rfl hd_MO_write ⟨Nat.le_of_ble_eq_true rfl, Nat.le_of_ble_eq_true rfl⟩) hk hP hD hS hA [0, 1] [] rfl rfl rfl (by decide) (by decide) (by decide) (q0 := 0) rfl rfl rfl rfl hl.1 rfl (Nat.le_of_ble_eq_true rfl) d_MO_putDigits_14 ⟨Nat.zero_le _, Nat.zero_le _⟩ (fun u_7 H locs hw_7 hP hD hS => ?_)
    subst hw_7
    obtain ⟨top_7, ovr_7, st_7⟩ := u_7
    have hP : va_P D vwCl [(aM, .inr (11, [.int thr, .ref aMst, .int tpd, .ref aMdcs, .ref aMtot, .ref aMfrm, .ref aMsiz, .int frs, .int frt, .ref aMffr, .ref aMfsz, .int top_7, .int bgn, .int mst, .int (b2i ovr_7), .int (b2i tgr), .int lvs, .ref aMlkd, .ref aMlat, .ref aMkkd, .ref aMkat, .ref aModr, .ref aMgrp, .int its, .ref aMikd, .ref aMiat, .long hgh, .long loo, .int (b2i dfl)])), (aMst, .inl (cI, 136400, .inl st_7))] H := hP.sub [0, 1] rfl
    have hD : va_D A [(aM, .inr (11, [.int thr, .ref aMst, .int tpd, .ref aMdcs, .ref aMtot, .ref aMfrm, .ref aMsiz, .int frs, .int frt, .ref aMffr, .ref aMfsz, .int top_7, .int bgn, .int mst, .int (b2i ovr_7), .int (b2i tgr), .int lvs, .ref aMlkd, .ref aMlat, .ref aMkkd, .ref aMkat, .ref aModr, .ref aMgrp, .int its, .ref aMikd, .ref aMiat, .long hgh, .long loo, .int (b2i dfl)])), (aMst, .inl (cI, 136400, .inl st_7))] := hD.sub [0, 1] (by decide) rfl
    refine l_MO_putDigits_r17 C0 hs l D cB cI aM aMst aMdcs aMtot aMfrm aMsiz aMffr aMfsz aMlkd aMlat aMkkd aMkat aModr aMgrp aMikd aMiat fu thr tpd frs frt bgn mst tgr lvs its hgh loo dfl hk hA p0 top_7 ovr_7 st_7 (K := (fun (top_8 : Int32) (ovr_8 : Bool) (st_8 : Nat → Int32) =>
        ob3 (tw_MO_write fu bgn mst top_8 ovr_8 st_8 (48 + (p0 - p0 / 10 * 10))) (fun top_9 ovr_9 st_9 =>
          ob3 (tw_MO_write fu bgn mst top_9 ovr_9 st_9 0) (fun top_10 ovr_10 st_10 =>
            some (top_10, ovr_10, st_10))))) ?_ (by rw [tw_MO_putDigits, if_neg c_1, h_7, ob3_mk]) _ _ hP hD hS ls (lv_sub hl [0, 1] rfl)
    intro top_8 ovr_8 st_8 hV_8 H locs hP hD hS ls hl
    refine lv_aload_n hx hb d_MO_putDigits_37 rfl (lv_at hl 0 rfl) ?_
    refine lv_bipush (v := 48) hx hb d_MO_putDigits_38 (by decide) ?_
    refine lv_iload_n hx hb d_MO_putDigits_40 rfl (lv_at hl 1 rfl) ?_
    refine lv_bipush (v := 10) hx hb d_MO_putDigits_41 (by decide) ?_
    refine lv_irem hx hb d_MO_putDigits_43 (by decide) ?_
    refine lv_iadd hx hb d_MO_putDigits_44 ?_
    rcases h_9 : tw_MO_write fu bgn mst top_8 ovr_8 st_8 (48 + (p0 - p0 / 10 * 10)) with _ | w_9
    · exact op_no hs (by rw [hV_8, h_9, ob3_no])
    refine mt_Vv (As := [.int (48 + (p0 - p0 / 10 * 10))]) (rest := []) (wr := []) ⟨hx, hb, hml, hown, hT⟩ (c_MO_write l D cB cI aM aMst aMdcs aMtot aMfrm aMsiz aMffr aMfsz aMlkd aMlat aMkkd aMkat aModr aMgrp aMikd aMiat fu thr tpd frs frt bgn mst tgr lvs its hgh loo dfl _ top_8 ovr_8 st_8 (48 + (p0 - p0 / 10 * 10)) w_9 h_9) (cwV 1 hT (gV_of k_1326 k_1328 kp_MO_write k_12 kc_MO_write) rfl rfl rfl hd_MO_write ⟨Nat.le_of_ble_eq_true rfl, Nat.le_of_ble_eq_true rfl⟩) hk hP hD hS hA [0, 1] [] rfl rfl rfl (by decide) (by decide) (by decide) (q0 := 0) rfl rfl rfl rfl hl.1 rfl (Nat.le_of_ble_eq_true rfl) d_MO_putDigits_45 ⟨Nat.zero_le _, Nat.zero_le _⟩ (fun u_9 H locs hw_9 hP hD hS => ?_)
    subst hw_9
    obtain ⟨top_9, ovr_9, st_9⟩ := u_9
    have hP : va_P D vwCl [(aM, .inr (11, [.int thr, .ref aMst, .int tpd, .ref aMdcs, .ref aMtot, .ref aMfrm, .ref aMsiz, .int frs, .int frt, .ref aMffr, .ref aMfsz, .int top_9, .int bgn, .int mst, .int (b2i ovr_9), .int (b2i tgr), .int lvs, .ref aMlkd, .ref aMlat, .ref aMkkd, .ref aMkat, .ref aModr, .ref aMgrp, .int its, .ref aMikd, .ref aMiat, .long hgh, .long loo, .int (b2i dfl)])), (aMst, .inl (cI, 136400, .inl st_9))] H := hP.sub [0, 1] rfl
    have hD : va_D A [(aM, .inr (11, [.int thr, .ref aMst, .int tpd, .ref aMdcs, .ref aMtot, .ref aMfrm, .ref aMsiz, .int frs, .int frt, .ref aMffr, .ref aMfsz, .int top_9, .int bgn, .int mst, .int (b2i ovr_9), .int (b2i tgr), .int lvs, .ref aMlkd, .ref aMlat, .ref aMkkd, .ref aMkat, .ref aModr, .ref aMgrp, .int its, .ref aMikd, .ref aMiat, .long hgh, .long loo, .int (b2i dfl)])), (aMst, .inl (cI, 136400, .inl st_9))] := hD.sub [0, 1] (by decide) rfl
    refine lv_aload_n hx hb d_MO_putDigits_48 rfl (lv_at hl 0 rfl) ?_
    refine lv_iconst (v := 0) hx hb d_MO_putDigits_49 (by decide) ?_
    rcases h_10 : tw_MO_write fu bgn mst top_9 ovr_9 st_9 0 with _ | w_10
    · exact op_no hs (by rw [hV_8, h_9, ob3_mk, h_10, ob3_no])
    refine mt_Vv (As := [.int 0]) (rest := []) (wr := []) ⟨hx, hb, hml, hown, hT⟩ (c_MO_write l D cB cI aM aMst aMdcs aMtot aMfrm aMsiz aMffr aMfsz aMlkd aMlat aMkkd aMkat aModr aMgrp aMikd aMiat fu thr tpd frs frt bgn mst tgr lvs its hgh loo dfl _ top_9 ovr_9 st_9 0 w_10 h_10) (cwV 1 hT (gV_of k_1326 k_1328 kp_MO_write k_12 kc_MO_write) rfl rfl rfl hd_MO_write ⟨Nat.le_of_ble_eq_true rfl, Nat.le_of_ble_eq_true rfl⟩) hk hP hD hS hA [0, 1] [] rfl rfl rfl (by decide) (by decide) (by decide) (q0 := 0) rfl rfl rfl rfl hl.1 rfl (Nat.le_of_ble_eq_true rfl) d_MO_putDigits_50 ⟨Nat.zero_le _, Nat.zero_le _⟩ (fun u_10 H locs hw_10 hP hD hS => ?_)
    subst hw_10
    obtain ⟨top_10, ovr_10, st_10⟩ := u_10
    have hP : va_P D vwCl [(aM, .inr (11, [.int thr, .ref aMst, .int tpd, .ref aMdcs, .ref aMtot, .ref aMfrm, .ref aMsiz, .int frs, .int frt, .ref aMffr, .ref aMfsz, .int top_10, .int bgn, .int mst, .int (b2i ovr_10), .int (b2i tgr), .int lvs, .ref aMlkd, .ref aMlat, .ref aMkkd, .ref aMkat, .ref aModr, .ref aMgrp, .int its, .ref aMikd, .ref aMiat, .long hgh, .long loo, .int (b2i dfl)])), (aMst, .inl (cI, 136400, .inl st_10))] H := hP.sub [0, 1] rfl
    have hD : va_D A [(aM, .inr (11, [.int thr, .ref aMst, .int tpd, .ref aMdcs, .ref aMtot, .ref aMfrm, .ref aMsiz, .int frs, .int frt, .ref aMffr, .ref aMfsz, .int top_10, .int bgn, .int mst, .int (b2i ovr_10), .int (b2i tgr), .int lvs, .ref aMlkd, .ref aMlat, .ref aMkkd, .ref aMkat, .ref aModr, .ref aMgrp, .int its, .ref aMikd, .ref aMiat, .long hgh, .long loo, .int (b2i dfl)])), (aMst, .inl (cI, 136400, .inl st_10))] := hD.sub [0, 1] (by decide) rfl
    exact W.vret hx hb hr (fun t ht hW => ⟨⟨(top_10, ovr_10, st_10), rfl, (op_eq hs (by rw [hV_8, h_9, ob3_mk, h_10, ob3_mk])), by rw [ht]; exact hP, hD⟩, hS.F ht⟩) hS.2.2 d_MO_putDigits_53
abbrev wd_MO_open (aM aMst aMdcs aMtot aMfrm aMsiz aMffr aMfsz aMlkd aMlat aMkkd aMkat aModr aMgrp aMikd aMiat : Nat) (cB cI : ClassId) (thr : Int32) (tpd : Int32) (frs : Int32) (frt : Int32) (bgn : Int32) (mst : Int32) (tgr : Bool) (lvs : Int32) (its : Int32) (hgh : Int64) (loo : Int64) (dfl : Bool) (top : Int32) (ovr : Bool) (st : Nat → Int32) : va_W := [(aM, .inr (11, [.int thr, .ref aMst, .int tpd, .ref aMdcs, .ref aMtot, .ref aMfrm, .ref aMsiz, .int frs, .int frt, .ref aMffr, .ref aMfsz, .int top, .int bgn, .int mst, .int (b2i ovr), .int (b2i tgr), .int lvs, .ref aMlkd, .ref aMlat, .ref aMkkd, .ref aMkat, .ref aModr, .ref aMgrp, .int its, .ref aMikd, .ref aMiat, .long hgh, .long loo, .int (b2i dfl)])), (aMst, .inl (cI, 136400, .inl st))]
set_option maxHeartbeats 4000000 in
set_option maxRecDepth 100000 in
theorem c_MO_open (l : Launch) (D : va_G) (cB cI : ClassId) (aM aMst aMdcs aMtot aMfrm aMsiz aMffr aMfsz aMlkd aMlat aMkkd aMkat aModr aMgrp aMikd aMiat : Nat) (fu : Nat) (thr : Int32) (tpd : Int32) (frs : Int32) (frt : Int32) (bgn : Int32) (mst : Int32) (tgr : Bool) (lvs : Int32) (its : Int32) (hgh : Int64) (loo : Int64) (dfl : Bool) (sz : Nat) (top : Int32) (ovr : Bool) (st : Nat → Int32) (V0 : Int32 × Int32 × Bool × (Nat → Int32)) (hs : tw_MO_open fu bgn mst top ovr st = some V0) : Met l y_MO_open mw_MO_open { frames := 2, cells := 0, slots := 0, locals := 45 } (va_Pc [.ref aM] (mt_P D cB cI (wd_MO_open aM aMst aMdcs aMtot aMfrm aMsiz aMffr aMfsz aMlkd aMlat aMkkd aMkat aModr aMgrp aMikd aMiat cB cI thr tpd frs frt bgn mst tgr lvs its hgh loo dfl top ovr st) sz)) (va_Qi (fun (r : Int32) (u : Int32 × Bool × (Nat → Int32)) => (r, u) = V0) (mt_B D (va_A (wd_MO_open aM aMst aMdcs aMtot aMfrm aMsiz aMffr aMfsz aMlkd aMlat aMkkd aMkat aModr aMgrp aMikd aMiat cB cI thr tpd frs frt bgn mst tgr lvs its hgh loo dfl top ovr st) sz) (fun u => wd_MO_open aM aMst aMdcs aMtot aMfrm aMsiz aMffr aMfsz aMlkd aMlat aMkkd aMkat aModr aMgrp aMikd aMiat cB cI thr tpd frs frt bgn mst tgr lvs its hgh loo dfl u.1 u.2.1 u.2.2)) (va_A (wd_MO_open aM aMst aMdcs aMtot aMfrm aMsiz aMffr aMfsz aMlkd aMlat aMkkd aMkat aModr aMgrp aMikd aMiat cB cI thr tpd frs frt bgn mst tgr lvs its hgh loo dfl top ovr st) sz)) 0 0 (va_A (wd_MO_open aM aMst aMdcs aMtot aMfrm aMsiz aMffr aMfsz aMlkd aMlat aMkkd aMkat aModr aMgrp aMikd aMiat cB cI thr tpd frs frt bgn mst tgr lvs its hgh loo dfl top ovr st) sz) := by
  refine Met.ofW (cc := b_MO_open) (maxL := 1) (ret := (some .int)) (by decide) rfl ?_
  intro p e s m args below meth c s₁ B0 hml hv
  obtain ⟨rfl, hsz, hP, hk, hD0⟩ := hv
  have hK := hk.1
  have hN := hk.2.1
  have hx := B0.exec
  have hb := B0.bytes
  have hr := B0.returns
  have hT : ∀ w ∈ lw_g, w.before _ s = true := fun w h => atoms_spec (ws := mw_MO_open) B0.pre w (List.mem_cons_of_mem _ h)
  have hown : s.vm.findClass R_MO = some m.cls := findClass_of_methodNamed B0.named
  have hlocks := B0.notSynchronized
  subst hsz
  have hD := hD0.self (sz := s.heap.size)
  generalize hAe : va_A [(aM, .inr (11, [.int thr, .ref aMst, .int tpd, .ref aMdcs, .ref aMtot, .ref aMfrm, .ref aMsiz, .int frs, .int frt, .ref aMffr, .ref aMfsz, .int top, .int bgn, .int mst, .int (b2i ovr), .int (b2i tgr), .int lvs, .ref aMlkd, .ref aMlat, .ref aMkkd, .ref aMkat, .ref aModr, .ref aMgrp, .int its, .ref aMikd, .ref aMiat, .long hgh, .long loo, .int (b2i dfl)])), (aMst, .inl (cI, 136400, .inl st))] s.heap.size = A at hD ⊢
  have hA : ∀ q : Nat, s.heap.size ≤ q → A q := fun q h => by rw [← hAe]; exact Or.inr h
  have hS : va_S A s.heap s.heap [] := va_S.rf
  have hl := lv_entry ([.ref aM]) (n := 1) (Nat.le_of_ble_eq_true rfl)
  rw [lg_entry_eq]
  generalize (lg_sl ([.ref aM]) ++ List.replicate (1 - (lg_sl ([.ref aM])).length) Slot.unset).toArray = ls at hl ⊢
  have hl : lv_has ls 1 [(0, .ref aM)] := hl
  refine lv_aload_n hx hb d_MO_open_0 rfl (lv_at hl 0 rfl) ?_
  refine lv_lconst (v := 0) hx hb d_MO_open_1 (by decide) ?_
  refine lv_iconst (v := 4) hx hb d_MO_open_2 (by decide) ?_
  rcases h_1 : tw_MO_putLow fu bgn mst top ovr st 0 4 with _ | w_1
  · exact op_no hs (by rw [tw_MO_open, h_1, ob3_no])
  refine mt_Vv (As := [.long 0, .int 4]) (rest := []) (wr := []) ⟨hx, hb, hml, hown, hT⟩ (c_MO_putLow l D cB cI aM aMst aMdcs aMtot aMfrm aMsiz aMffr aMfsz aMlkd aMlat aMkkd aMkat aModr aMgrp aMikd aMiat fu thr tpd frs frt bgn mst tgr lvs its hgh loo dfl _ top ovr st 0 4 w_1 h_1) (cwV 2 hT (gV_of k_1322 k_1324 kp_MO_putLow k_12 kc_MO_putLow) rfl rfl rfl hd_MO_putLow ⟨Nat.le_of_ble_eq_true rfl, Nat.le_of_ble_eq_true rfl⟩) hk hP hD hS hA [0, 1] [] rfl rfl rfl (by decide) (by decide) (by decide) (q0 := 0) rfl rfl rfl rfl hl.1 rfl (Nat.le_of_ble_eq_true rfl) d_MO_open_3 ⟨Nat.zero_le _, Nat.zero_le _⟩ (fun u_1 H locs hw_1 hP hD hS => ?_)
  subst hw_1
  obtain ⟨top_1, ovr_1, st_1⟩ := u_1
  have hP : va_P D vwCl [(aM, .inr (11, [.int thr, .ref aMst, .int tpd, .ref aMdcs, .ref aMtot, .ref aMfrm, .ref aMsiz, .int frs, .int frt, .ref aMffr, .ref aMfsz, .int top_1, .int bgn, .int mst, .int (b2i ovr_1), .int (b2i tgr), .int lvs, .ref aMlkd, .ref aMlat, .ref aMkkd, .ref aMkat, .ref aModr, .ref aMgrp, .int its, .ref aMikd, .ref aMiat, .long hgh, .long loo, .int (b2i dfl)])), (aMst, .inl (cI, 136400, .inl st_1))] H := hP.sub [0, 1] rfl
  have hD : va_D A [(aM, .inr (11, [.int thr, .ref aMst, .int tpd, .ref aMdcs, .ref aMtot, .ref aMfrm, .ref aMsiz, .int frs, .int frt, .ref aMffr, .ref aMfsz, .int top_1, .int bgn, .int mst, .int (b2i ovr_1), .int (b2i tgr), .int lvs, .ref aMlkd, .ref aMlat, .ref aMkkd, .ref aMkat, .ref aModr, .ref aMgrp, .int its, .ref aMikd, .ref aMiat, .long hgh, .long loo, .int (b2i dfl)])), (aMst, .inl (cI, 136400, .inl st_1))] := hD.sub [0, 1] (by decide) rfl
  refine lv_aload_n hx hb d_MO_open_6 rfl (lv_at hl 0 rfl) ?_
  refine va_get (D := D) (ci := 11) (v := .int top_1) (C := R_MO) (T := T_MO) (N := 29) hx hb hT u_MO hown hK hP 0 rfl rfl 11 (by decide) (hT _ k_1054) (fun _ h9 => h9) rfl d_MO_open_7 ?_
  refine lv_iconst (v := 4) hx hb d_MO_open_10 (by decide) ?_
  refine lv_isub hx hb d_MO_open_11 ?_
  exact W.iret (v := top_1 - 4) hx hb hr (fun t ht hW => ⟨⟨top_1 - 4, (top_1, ovr_1, st_1), rfl, (op_eq hs (by rw [tw_MO_open, h_1, ob3_mk])), by rw [ht]; exact hP, hD⟩, hS.F ht⟩) hS.2.2 d_MO_open_12
abbrev wd_MO_close (aM aMst aMdcs aMtot aMfrm aMsiz aMffr aMfsz aMlkd aMlat aMkkd aMkat aModr aMgrp aMikd aMiat : Nat) (cB cI : ClassId) (thr : Int32) (tpd : Int32) (frs : Int32) (frt : Int32) (bgn : Int32) (mst : Int32) (tgr : Bool) (lvs : Int32) (its : Int32) (hgh : Int64) (loo : Int64) (dfl : Bool) (top : Int32) (ovr : Bool) (st : Nat → Int32) : va_W := [(aM, .inr (11, [.int thr, .ref aMst, .int tpd, .ref aMdcs, .ref aMtot, .ref aMfrm, .ref aMsiz, .int frs, .int frt, .ref aMffr, .ref aMfsz, .int top, .int bgn, .int mst, .int (b2i ovr), .int (b2i tgr), .int lvs, .ref aMlkd, .ref aMlat, .ref aMkkd, .ref aMkat, .ref aModr, .ref aMgrp, .int its, .ref aMikd, .ref aMiat, .long hgh, .long loo, .int (b2i dfl)])), (aMst, .inl (cI, 136400, .inl st))]
set_option maxHeartbeats 4000000 in
set_option maxRecDepth 100000 in
theorem l_MO_close_h22 {p : Program} {e : Env} {s : State} {m : MethodId} {args : Array Value} {below : List Frame} {meth : Method} {c : Code} {V : Option (Int32 × Bool × (Nat → Int32))} {V0 : Int32 × Bool × (Nat → Int32)} (C0 : lc_C p s m meth c args b_MO_close 4 none R_MO lw_g) (hs : V = some V0) (l : Launch) (D : va_G) (cB cI : ClassId) (aM aMst aMdcs aMtot aMfrm aMsiz aMffr aMfsz aMlkd aMlat aMkkd aMkat aModr aMgrp aMikd aMiat : Nat) (fu : Nat) (thr : Int32) (tpd : Int32) (frs : Int32) (frt : Int32) (bgn : Int32) (mst : Int32) (tgr : Bool) (lvs : Int32) (its : Int32) (hgh : Int64) (loo : Int64) (dfl : Bool) {A : Nat → Prop} (hk : hk_ D cB cI s) (hA : ∀ q : Nat, s.heap.size ≤ q → A q) (p0 : Int32) (x2 : Int32) {K : Int32 → Int32 → Bool → (Nat → Int32) → Option (Int32 × Bool × (Nat → Int32))} (hKx : ∀ (x3 : Int32) (top : Int32) (ovr : Bool) (st : Nat → Int32), V = K x3 top ovr st → ∀ (H : Heap) (locs : List Loc), va_P D vwCl [(aM, .inr (11, [.int thr, .ref aMst, .int tpd, .ref aMdcs, .ref aMtot, .ref aMfrm, .ref aMsiz, .int frs, .int frt, .ref aMffr, .ref aMfsz, .int top, .int bgn, .int mst, .int (b2i ovr), .int (b2i tgr), .int lvs, .ref aMlkd, .ref aMlat, .ref aMkkd, .ref aMkat, .ref aModr, .ref aMgrp, .int its, .ref aMikd, .ref aMiat, .long hgh, .long loo, .int (b2i dfl)])), (aMst, .inl (cI, 136400, .inl st))] H → va_D A [(aM, .inr (11, [.int thr, .ref aMst, .int tpd, .ref aMdcs, .ref aMtot, .ref aMfrm, .ref aMsiz, .int frs, .int frt, .ref aMffr, .ref aMfsz, .int top, .int bgn, .int mst, .int (b2i ovr), .int (b2i tgr), .int lvs, .ref aMlkd, .ref aMlat, .ref aMkkd, .ref aMkat, .ref aModr, .ref aMgrp, .int its, .ref aMikd, .ref aMiat, .long hgh, .long loo, .int (b2i dfl)])), (aMst, .inl (cI, 136400, .inl st))] → va_S A s.heap H locs → ∀ ls : Array Slot, lv_has ls 4 [] → W p l e ({ frames := 1, cells := 0, slots := 0, locals := 21 }) s m args below meth c H locs 0 0 (MQ below (va_Qv (fun (u : Int32 × Bool × (Nat → Int32)) => u = V0) (mt_B D A (fun u => wd_MO_close aM aMst aMdcs aMtot aMfrm aMsiz aMffr aMfsz aMlkd aMlat aMkkd aMkat aModr aMgrp aMikd aMiat cB cI thr tpd frs frt bgn mst tgr lvs its hgh loo dfl u.1 u.2.1 u.2.2)) A) args s 0 0 A) (F0 m 51 ls [])) : ∀ (n : Nat) (x3 : Int32) (top : Int32) (ovr : Bool) (st : Nat → Int32), V = tw_MO_close_h22 fu bgn mst K p0 x2 n x3 top ovr st → ∀ (H : Heap) (locs : List Loc), va_P D vwCl [(aM, .inr (11, [.int thr, .ref aMst, .int tpd, .ref aMdcs, .ref aMtot, .ref aMfrm, .ref aMsiz, .int frs, .int frt, .ref aMffr, .ref aMfsz, .int top, .int bgn, .int mst, .int (b2i ovr), .int (b2i tgr), .int lvs, .ref aMlkd, .ref aMlat, .ref aMkkd, .ref aMkat, .ref aModr, .ref aMgrp, .int its, .ref aMikd, .ref aMiat, .long hgh, .long loo, .int (b2i dfl)])), (aMst, .inl (cI, 136400, .inl st))] H → va_D A [(aM, .inr (11, [.int thr, .ref aMst, .int tpd, .ref aMdcs, .ref aMtot, .ref aMfrm, .ref aMsiz, .int frs, .int frt, .ref aMffr, .ref aMfsz, .int top, .int bgn, .int mst, .int (b2i ovr), .int (b2i tgr), .int lvs, .ref aMlkd, .ref aMlat, .ref aMkkd, .ref aMkat, .ref aModr, .ref aMgrp, .int its, .ref aMikd, .ref aMiat, .long hgh, .long loo, .int (b2i dfl)])), (aMst, .inl (cI, 136400, .inl st))] → va_S A s.heap H locs → ∀ ls : Array Slot, lv_has ls 4 [(0, .ref aM), (1, .int p0), (2, .int x2), (3, .int x3)] → W p l e ({ frames := 1, cells := 0, slots := 0, locals := 21 }) s m args below meth c H locs 0 0 (MQ below (va_Qv (fun (u : Int32 × Bool × (Nat → Int32)) => u = V0) (mt_B D A (fun u => wd_MO_close aM aMst aMdcs aMtot aMfrm aMsiz aMffr aMfsz aMlkd aMlat aMkkd aMkat aModr aMgrp aMikd aMiat cB cI thr tpd frs frt bgn mst tgr lvs its hgh loo dfl u.1 u.2.1 u.2.2)) A) args s 0 0 A) (F0 m 22 ls []) := by
  obtain ⟨hx, hb, hml, hr, hown, hlocks, hT⟩ := id C0
  have hK := hk.1
  have hN := hk.2.1
  intro n
  induction n with
  | zero =>
    intro x3 top ovr st hV
    exact op_no hs (hV.trans rfl)
  | succ n ih =>
    intro x3 top ovr st hV H locs hP hD hS ls hl
    refine lv_iload_n hx hb d_MO_close_22 rfl (lv_at hl 3 rfl) ?_
    refine lv_iconst (v := 4) hx hb d_MO_close_23 (by decide) ?_
    refine lv_icmp_ge (tgt := 51) hx hb d_MO_close_24 (by decide) (fun c_3 => ?_) (fun c_3 => ?_)
    · exact hKx x3 top ovr st (by rw [hV, tw_MO_close_h22, if_pos c_3]) _ _ hP hD hS ls (lv_sub hl [] rfl)
    · refine lv_aload_n hx hb d_MO_close_27 rfl (lv_at hl 0 rfl) ?_
      refine va_get (D := D) (ci := 11) (v := .ref aMst) (C := R_MO) (T := T_MO) (N := 29) hx hb hT u_MO hown hK hP 0 rfl rfl 1 (by decide) (hT _ k_1044) (fun _ h9 => h9) rfl d_MO_close_28 ?_
      refine lv_iload_n hx hb d_MO_close_31 rfl (lv_at hl 1 rfl) ?_
      refine lv_iload_n hx hb d_MO_close_32 rfl (lv_at hl 3 rfl) ?_
      refine lv_iadd hx hb d_MO_close_33 ?_
      refine lv_iload_n hx hb d_MO_close_34 rfl (lv_at hl 2 rfl) ?_
      refine lv_bipush (v := 8) hx hb d_MO_close_35 (by decide) ?_
      refine lv_iload_n hx hb d_MO_close_37 rfl (lv_at hl 3 rfl) ?_
      refine lv_imul hx hb d_MO_close_38 ?_
      refine lv_ishr hx hb d_MO_close_39 ?_
      refine lv_sipush (v := 255) hx hb d_MO_close_40 (by decide) ?_
      refine lv_iand hx hb d_MO_close_43 ?_
      by_cases c_4 : 0 ≤ (p0 + x3) ∧ (p0 + x3) < 136400
      rotate_left
      · exact op_no hs (by rw [hV, tw_MO_close_h22, if_neg c_3, if_neg c_4])
      refine va_iast hx hb hK hP hD hS 1 1 rfl rfl (in_pp c_4.1 c_4.2 rfl) d_MO_close_44 (fun H locs hP hD hS => ?_)
      have hP : va_P D vwCl [(aM, .inr (11, [.int thr, .ref aMst, .int tpd, .ref aMdcs, .ref aMtot, .ref aMfrm, .ref aMsiz, .int frs, .int frt, .ref aMffr, .ref aMfsz, .int top, .int bgn, .int mst, .int (b2i ovr), .int (b2i tgr), .int lvs, .ref aMlkd, .ref aMlat, .ref aMkkd, .ref aMkat, .ref aModr, .ref aMgrp, .int its, .ref aMikd, .ref aMiat, .long hgh, .long loo, .int (b2i dfl)])), (aMst, .inl (cI, 136400, .inl (upd st (p0 + x3).toNatClampNeg ((x2 >>> ((8 * x3) &&& 31)) &&& 255))))] H := hP
      have hD : va_D A [(aM, .inr (11, [.int thr, .ref aMst, .int tpd, .ref aMdcs, .ref aMtot, .ref aMfrm, .ref aMsiz, .int frs, .int frt, .ref aMffr, .ref aMfsz, .int top, .int bgn, .int mst, .int (b2i ovr), .int (b2i tgr), .int lvs, .ref aMlkd, .ref aMlat, .ref aMkkd, .ref aMkat, .ref aModr, .ref aMgrp, .int its, .ref aMikd, .ref aMiat, .long hgh, .long loo, .int (b2i dfl)])), (aMst, .inl (cI, 136400, .inl (upd st (p0 + x3).toNatClampNeg ((x2 >>> ((8 * x3) &&& 31)) &&& 255))))] := hD
      refine lv_iinc (v := x3 + 1) (lv' := [(3, .int (x3 + 1)), (0, .ref aM), (1, .int p0), (2, .int x2)]) hx hb d_MO_close_45 hl (k := 3) rfl rfl (by decide) rfl (fun ls hl => ?_)
      refine lv_goto (tgt := 22) hx hb d_MO_close_48 (by decide) ?_
      exact ih (x3 + 1) top ovr (upd st (p0 + x3).toNatClampNeg ((x2 >>> ((8 * x3) &&& 31)) &&& 255)) (by rw [hV, tw_MO_close_h22, if_neg c_3, if_pos c_4]) _ _ hP hD hS ls (lv_sub hl [1, 2, 3, 0] rfl)
set_option maxHeartbeats 4000000 in
set_option maxRecDepth 100000 in
theorem c_MO_close (l : Launch) (D : va_G) (cB cI : ClassId) (aM aMst aMdcs aMtot aMfrm aMsiz aMffr aMfsz aMlkd aMlat aMkkd aMkat aModr aMgrp aMikd aMiat : Nat) (fu : Nat) (thr : Int32) (tpd : Int32) (frs : Int32) (frt : Int32) (bgn : Int32) (mst : Int32) (tgr : Bool) (lvs : Int32) (its : Int32) (hgh : Int64) (loo : Int64) (dfl : Bool) (sz : Nat) (top : Int32) (ovr : Bool) (st : Nat → Int32) (p0 : Int32) (V0 : Int32 × Bool × (Nat → Int32)) (hs : tw_MO_close fu bgn mst top ovr st p0 = some V0) : Met l y_MO_close mw_MO_close { frames := 1, cells := 0, slots := 0, locals := 21 } (va_Pc [.ref aM, .int p0] (mt_P D cB cI (wd_MO_close aM aMst aMdcs aMtot aMfrm aMsiz aMffr aMfsz aMlkd aMlat aMkkd aMkat aModr aMgrp aMikd aMiat cB cI thr tpd frs frt bgn mst tgr lvs its hgh loo dfl top ovr st) sz)) (va_Qv (fun (u : Int32 × Bool × (Nat → Int32)) => u = V0) (mt_B D (va_A (wd_MO_close aM aMst aMdcs aMtot aMfrm aMsiz aMffr aMfsz aMlkd aMlat aMkkd aMkat aModr aMgrp aMikd aMiat cB cI thr tpd frs frt bgn mst tgr lvs its hgh loo dfl top ovr st) sz) (fun u => wd_MO_close aM aMst aMdcs aMtot aMfrm aMsiz aMffr aMfsz aMlkd aMlat aMkkd aMkat aModr aMgrp aMikd aMiat cB cI thr tpd frs frt bgn mst tgr lvs its hgh loo dfl u.1 u.2.1 u.2.2)) (va_A (wd_MO_close aM aMst aMdcs aMtot aMfrm aMsiz aMffr aMfsz aMlkd aMlat aMkkd aMkat aModr aMgrp aMikd aMiat cB cI thr tpd frs frt bgn mst tgr lvs its hgh loo dfl top ovr st) sz)) 0 0 (va_A (wd_MO_close aM aMst aMdcs aMtot aMfrm aMsiz aMffr aMfsz aMlkd aMlat aMkkd aMkat aModr aMgrp aMikd aMiat cB cI thr tpd frs frt bgn mst tgr lvs its hgh loo dfl top ovr st) sz) := by
  refine Met.ofW (cc := b_MO_close) (maxL := 4) (ret := none) (by decide) rfl ?_
  intro p e s m args below meth c s₁ B0 hml hv
  obtain ⟨rfl, hsz, hP, hk, hD0⟩ := hv
  have hK := hk.1
  have hN := hk.2.1
  have hx := B0.exec
  have hb := B0.bytes
  have hr := B0.returns
  have hT : ∀ w ∈ lw_g, w.before _ s = true := fun w h => atoms_spec (ws := mw_MO_close) B0.pre w (List.mem_cons_of_mem _ h)
  have hown : s.vm.findClass R_MO = some m.cls := findClass_of_methodNamed B0.named
  have hlocks := B0.notSynchronized
  subst hsz
  have hD := hD0.self (sz := s.heap.size)
  generalize hAe : va_A [(aM, .inr (11, [.int thr, .ref aMst, .int tpd, .ref aMdcs, .ref aMtot, .ref aMfrm, .ref aMsiz, .int frs, .int frt, .ref aMffr, .ref aMfsz, .int top, .int bgn, .int mst, .int (b2i ovr), .int (b2i tgr), .int lvs, .ref aMlkd, .ref aMlat, .ref aMkkd, .ref aMkat, .ref aModr, .ref aMgrp, .int its, .ref aMikd, .ref aMiat, .long hgh, .long loo, .int (b2i dfl)])), (aMst, .inl (cI, 136400, .inl st))] s.heap.size = A at hD ⊢
  have hA : ∀ q : Nat, s.heap.size ≤ q → A q := fun q h => by rw [← hAe]; exact Or.inr h
  have hS : va_S A s.heap s.heap [] := va_S.rf
  have hl := lv_entry ([.ref aM, .int p0]) (n := 4) (Nat.le_of_ble_eq_true rfl)
  rw [lg_entry_eq]
  generalize (lg_sl ([.ref aM, .int p0]) ++ List.replicate (4 - (lg_sl ([.ref aM, .int p0])).length) Slot.unset).toArray = ls at hl ⊢
  have hl : lv_has ls 4 [(0, .ref aM), (1, .int p0)] := hl
  have C0 : lc_C p s m meth c _ b_MO_close 4 none R_MO lw_g := ⟨hx, hb, hml, hr, hown, hlocks, hT⟩
  refine lv_aload_n hx hb d_MO_close_0 rfl (lv_at hl 0 rfl) ?_
  refine lv_iconst (v := 0) hx hb d_MO_close_1 (by decide) ?_
  rcases h_1 : tw_MO_write fu bgn mst top ovr st 0 with _ | w_1
  · exact op_no hs (by rw [tw_MO_close, h_1, ob3_no])
  refine mt_Vv (As := [.int 0]) (rest := []) (wr := []) ⟨hx, hb, hml, hown, hT⟩ (c_MO_write l D cB cI aM aMst aMdcs aMtot aMfrm aMsiz aMffr aMfsz aMlkd aMlat aMkkd aMkat aModr aMgrp aMikd aMiat fu thr tpd frs frt bgn mst tgr lvs its hgh loo dfl _ top ovr st 0 w_1 h_1) (cwV 1 hT (gV_of k_1326 k_1328 kp_MO_write k_12 kc_MO_write) rfl rfl rfl hd_MO_write ⟨Nat.le_of_ble_eq_true rfl, Nat.le_of_ble_eq_true rfl⟩) hk hP hD hS hA [0, 1] [] rfl rfl rfl (by decide) (by decide) (by decide) (q0 := 0) rfl rfl rfl rfl hl.1 rfl (Nat.le_of_ble_eq_true rfl) d_MO_close_2 ⟨Nat.zero_le _, Nat.zero_le _⟩ (fun u_1 H locs hw_1 hP hD hS => ?_)
  subst hw_1
  obtain ⟨top_1, ovr_1, st_1⟩ := u_1
  have hP : va_P D vwCl [(aM, .inr (11, [.int thr, .ref aMst, .int tpd, .ref aMdcs, .ref aMtot, .ref aMfrm, .ref aMsiz, .int frs, .int frt, .ref aMffr, .ref aMfsz, .int top_1, .int bgn, .int mst, .int (b2i ovr_1), .int (b2i tgr), .int lvs, .ref aMlkd, .ref aMlat, .ref aMkkd, .ref aMkat, .ref aModr, .ref aMgrp, .int its, .ref aMikd, .ref aMiat, .long hgh, .long loo, .int (b2i dfl)])), (aMst, .inl (cI, 136400, .inl st_1))] H := hP.sub [0, 1] rfl
  have hD : va_D A [(aM, .inr (11, [.int thr, .ref aMst, .int tpd, .ref aMdcs, .ref aMtot, .ref aMfrm, .ref aMsiz, .int frs, .int frt, .ref aMffr, .ref aMfsz, .int top_1, .int bgn, .int mst, .int (b2i ovr_1), .int (b2i tgr), .int lvs, .ref aMlkd, .ref aMlat, .ref aMkkd, .ref aMkat, .ref aModr, .ref aMgrp, .int its, .ref aMikd, .ref aMiat, .long hgh, .long loo, .int (b2i dfl)])), (aMst, .inl (cI, 136400, .inl st_1))] := hD.sub [0, 1] (by decide) rfl
  refine lv_aload_n hx hb d_MO_close_5 rfl (lv_at hl 0 rfl) ?_
  refine va_get (D := D) (ci := 11) (v := .int (b2i ovr_1)) (C := R_MO) (T := T_MO) (N := 29) hx hb hT u_MO hown hK hP 0 rfl rfl 14 (by decide) (hT _ k_1057) (fun _ h9 => h9) rfl d_MO_close_6 ?_
  refine lv_if_eq (tgt := 13) hx hb d_MO_close_9 (by decide) (fun c_2 => ?_) (fun c_2 => ?_)
  · refine lv_aload_n hx hb d_MO_close_13 rfl (lv_at hl 0 rfl) ?_
    refine va_get (D := D) (ci := 11) (v := .int top_1) (C := R_MO) (T := T_MO) (N := 29) hx hb hT u_MO hown hK hP 0 rfl rfl 11 (by decide) (hT _ k_1054) (fun _ h9 => h9) rfl d_MO_close_14 ?_
    refine lv_iload_n hx hb d_MO_close_17 rfl (lv_at hl 1 rfl) ?_
    refine lv_isub hx hb d_MO_close_18 ?_
    refine lv_istore_n (lv' := [(2, .int (top_1 - p0)), (0, .ref aM), (1, .int p0)]) hx hb d_MO_close_19 rfl hl (by decide) rfl (fun ls hl => ?_)
    refine lv_iconst (v := 0) hx hb d_MO_close_20 (by decide) ?_
    refine lv_istore_n (lv' := [(3, .int 0), (2, .int (top_1 - p0)), (0, .ref aM), (1, .int p0)]) hx hb d_MO_close_21 rfl hl (by decide) rfl (fun ls hl => ?_)
    refine l_MO_close_h22 C0 hs l D cB cI aM aMst aMdcs aMtot aMfrm aMsiz aMffr aMfsz aMlkd aMlat aMkkd aMkat aModr aMgrp aMikd aMiat fu thr tpd frs frt bgn mst tgr lvs its hgh loo dfl hk hA p0 (top_1 - p0)  (K := (fun (x3_5 : Int32) (top_5 : Int32) (ovr_5 : Bool) (st_5 : Nat → Int32) =>
        some (top_5, ovr_5, st_5))) ?_ fu 0 top_1 ovr_1 st_1  (by rw [tw_MO_close, h_1, ob3_mk, if_pos c_2]) _ _ hP hD hS ls (lv_sub hl [2, 3, 1, 0] rfl)
    intro x3_5 top_5 ovr_5 st_5 hV_5 H locs hP hD hS ls hl
    exact W.vret hx hb hr (fun t ht hW => ⟨⟨(top_5, ovr_5, st_5), rfl, (op_eq hs (by rw [hV_5])), by rw [ht]; exact hP, hD⟩, hS.F ht⟩) hS.2.2 d_MO_close_51
  · exact W.vret hx hb hr (fun t ht hW => ⟨⟨(top_1, ovr_1, st_1), rfl, (op_eq hs (by rw [tw_MO_close, h_1, ob3_mk, if_neg c_2])), by rw [ht]; exact hP, hD⟩, hS.F ht⟩) hS.2.2 d_MO_close_12
abbrev wd_MO_head (aM aMst aMdcs aMtot aMfrm aMsiz aMffr aMfsz aMlkd aMlat aMkkd aMkat aModr aMgrp aMikd aMiat : Nat) (cB cI : ClassId) (thr : Int32) (tpd : Int32) (frs : Int32) (frt : Int32) (bgn : Int32) (mst : Int32) (tgr : Bool) (lvs : Int32) (its : Int32) (hgh : Int64) (loo : Int64) (dfl : Bool) (top : Int32) (ovr : Bool) (st : Nat → Int32) : va_W := [(aM, .inr (11, [.int thr, .ref aMst, .int tpd, .ref aMdcs, .ref aMtot, .ref aMfrm, .ref aMsiz, .int frs, .int frt, .ref aMffr, .ref aMfsz, .int top, .int bgn, .int mst, .int (b2i ovr), .int (b2i tgr), .int lvs, .ref aMlkd, .ref aMlat, .ref aMkkd, .ref aMkat, .ref aModr, .ref aMgrp, .int its, .ref aMikd, .ref aMiat, .long hgh, .long loo, .int (b2i dfl)])), (aMst, .inl (cI, 136400, .inl st))]
set_option maxHeartbeats 4000000 in
set_option maxRecDepth 100000 in
theorem c_MO_head (l : Launch) (D : va_G) (cB cI : ClassId) (aM aMst aMdcs aMtot aMfrm aMsiz aMffr aMfsz aMlkd aMlat aMkkd aMkat aModr aMgrp aMikd aMiat : Nat) (fu : Nat) (thr : Int32) (tpd : Int32) (frs : Int32) (frt : Int32) (bgn : Int32) (mst : Int32) (tgr : Bool) (lvs : Int32) (its : Int32) (hgh : Int64) (loo : Int64) (dfl : Bool) (sz : Nat) (top : Int32) (ovr : Bool) (st : Nat → Int32) (p0 : Int32) (p1 : Int32) (V0 : Int32 × Bool × (Nat → Int32)) (hs : tw_MO_head fu bgn mst top ovr st p0 p1 = some V0) : Met l y_MO_head mw_MO_head { frames := 2, cells := 0, slots := 0, locals := 44 } (va_Pc [.ref aM, .int p0, .int p1] (mt_P D cB cI (wd_MO_head aM aMst aMdcs aMtot aMfrm aMsiz aMffr aMfsz aMlkd aMlat aMkkd aMkat aModr aMgrp aMikd aMiat cB cI thr tpd frs frt bgn mst tgr lvs its hgh loo dfl top ovr st) sz)) (va_Qv (fun (u : Int32 × Bool × (Nat → Int32)) => u = V0) (mt_B D (va_A (wd_MO_head aM aMst aMdcs aMtot aMfrm aMsiz aMffr aMfsz aMlkd aMlat aMkkd aMkat aModr aMgrp aMikd aMiat cB cI thr tpd frs frt bgn mst tgr lvs its hgh loo dfl top ovr st) sz) (fun u => wd_MO_head aM aMst aMdcs aMtot aMfrm aMsiz aMffr aMfsz aMlkd aMlat aMkkd aMkat aModr aMgrp aMikd aMiat cB cI thr tpd frs frt bgn mst tgr lvs its hgh loo dfl u.1 u.2.1 u.2.2)) (va_A (wd_MO_head aM aMst aMdcs aMtot aMfrm aMsiz aMffr aMfsz aMlkd aMlat aMkkd aMkat aModr aMgrp aMikd aMiat cB cI thr tpd frs frt bgn mst tgr lvs its hgh loo dfl top ovr st) sz)) 0 0 (va_A (wd_MO_head aM aMst aMdcs aMtot aMfrm aMsiz aMffr aMfsz aMlkd aMlat aMkkd aMkat aModr aMgrp aMikd aMiat cB cI thr tpd frs frt bgn mst tgr lvs its hgh loo dfl top ovr st) sz) := by
  refine Met.ofW (cc := b_MO_head) (maxL := 3) (ret := none) (by decide) rfl ?_
  intro p e s m args below meth c s₁ B0 hml hv
  obtain ⟨rfl, hsz, hP, hk, hD0⟩ := hv
  have hK := hk.1
  have hN := hk.2.1
  have hx := B0.exec
  have hb := B0.bytes
  have hr := B0.returns
  have hT : ∀ w ∈ lw_g, w.before _ s = true := fun w h => atoms_spec (ws := mw_MO_head) B0.pre w (List.mem_cons_of_mem _ h)
  have hown : s.vm.findClass R_MO = some m.cls := findClass_of_methodNamed B0.named
  have hlocks := B0.notSynchronized
  subst hsz
  have hD := hD0.self (sz := s.heap.size)
  generalize hAe : va_A [(aM, .inr (11, [.int thr, .ref aMst, .int tpd, .ref aMdcs, .ref aMtot, .ref aMfrm, .ref aMsiz, .int frs, .int frt, .ref aMffr, .ref aMfsz, .int top, .int bgn, .int mst, .int (b2i ovr), .int (b2i tgr), .int lvs, .ref aMlkd, .ref aMlat, .ref aMkkd, .ref aMkat, .ref aModr, .ref aMgrp, .int its, .ref aMikd, .ref aMiat, .long hgh, .long loo, .int (b2i dfl)])), (aMst, .inl (cI, 136400, .inl st))] s.heap.size = A at hD ⊢
  have hA : ∀ q : Nat, s.heap.size ≤ q → A q := fun q h => by rw [← hAe]; exact Or.inr h
  have hS : va_S A s.heap s.heap [] := va_S.rf
  have hl := lv_entry ([.ref aM, .int p0, .int p1]) (n := 3) (Nat.le_of_ble_eq_true rfl)
  rw [lg_entry_eq]
  generalize (lg_sl ([.ref aM, .int p0, .int p1]) ++ List.replicate (3 - (lg_sl ([.ref aM, .int p0, .int p1])).length) Slot.unset).toArray = ls at hl ⊢
  have hl : lv_has ls 3 [(0, .ref aM), (1, .int p0), (2, .int p1)] := hl
  refine lv_aload_n hx hb d_MO_head_0 rfl (lv_at hl 0 rfl) ?_
  refine lv_iload_n hx hb d_MO_head_1 rfl (lv_at hl 1 rfl) ?_
  rcases h_1 : tw_MO_write fu bgn mst top ovr st p0 with _ | w_1
  · exact op_no hs (by rw [tw_MO_head, h_1, ob3_no])
  refine mt_Vv (As := [.int p0]) (rest := []) (wr := []) ⟨hx, hb, hml, hown, hT⟩ (c_MO_write l D cB cI aM aMst aMdcs aMtot aMfrm aMsiz aMffr aMfsz aMlkd aMlat aMkkd aMkat aModr aMgrp aMikd aMiat fu thr tpd frs frt bgn mst tgr lvs its hgh loo dfl _ top ovr st p0 w_1 h_1) (cwV 1 hT (gV_of k_1326 k_1328 kp_MO_write k_12 kc_MO_write) rfl rfl rfl hd_MO_write ⟨Nat.le_of_ble_eq_true rfl, Nat.le_of_ble_eq_true rfl⟩) hk hP hD hS hA [0, 1] [] rfl rfl rfl (by decide) (by decide) (by decide) (q0 := 0) rfl rfl rfl rfl hl.1 rfl (Nat.le_of_ble_eq_true rfl) d_MO_head_2 ⟨Nat.zero_le _, Nat.zero_le _⟩ (fun u_1 H locs hw_1 hP hD hS => ?_)
  subst hw_1
  obtain ⟨top_1, ovr_1, st_1⟩ := u_1
  have hP : va_P D vwCl [(aM, .inr (11, [.int thr, .ref aMst, .int tpd, .ref aMdcs, .ref aMtot, .ref aMfrm, .ref aMsiz, .int frs, .int frt, .ref aMffr, .ref aMfsz, .int top_1, .int bgn, .int mst, .int (b2i ovr_1), .int (b2i tgr), .int lvs, .ref aMlkd, .ref aMlat, .ref aMkkd, .ref aMkat, .ref aModr, .ref aMgrp, .int its, .ref aMikd, .ref aMiat, .long hgh, .long loo, .int (b2i dfl)])), (aMst, .inl (cI, 136400, .inl st_1))] H := hP.sub [0, 1] rfl
  have hD : va_D A [(aM, .inr (11, [.int thr, .ref aMst, .int tpd, .ref aMdcs, .ref aMtot, .ref aMfrm, .ref aMsiz, .int frs, .int frt, .ref aMffr, .ref aMfsz, .int top_1, .int bgn, .int mst, .int (b2i ovr_1), .int (b2i tgr), .int lvs, .ref aMlkd, .ref aMlat, .ref aMkkd, .ref aMkat, .ref aModr, .ref aMgrp, .int its, .ref aMikd, .ref aMiat, .long hgh, .long loo, .int (b2i dfl)])), (aMst, .inl (cI, 136400, .inl st_1))] := hD.sub [0, 1] (by decide) rfl
  refine lv_aload_n hx hb d_MO_head_5 rfl (lv_at hl 0 rfl) ?_
  refine lv_iload_n hx hb d_MO_head_6 rfl (lv_at hl 2 rfl) ?_
  refine lv_iconst (v := 1) hx hb d_MO_head_7 (by decide) ?_
  refine lv_iadd hx hb d_MO_head_8 ?_
  refine lv_aload_n hx hb d_MO_head_9 rfl (lv_at hl 0 rfl) ?_
  refine lv_iload_n hx hb d_MO_head_10 rfl (lv_at hl 2 rfl) ?_
  rcases h_2 : tw_MO_nameEndOf fu st_1 p1 with _ | r_2
  · exact op_no hs (by rw [tw_MO_head, h_1, ob3_mk, h_2, ob1_no])
  refine rd_V (val := r_2) (As := [.int p1]) (rest := [.int (p1 + 1), .ref aM]) ⟨hx, hb, hml, hown, hT⟩ (c_MO_nameEndOf l D cB cI aM aMst aMdcs aMtot aMfrm aMsiz aMffr aMfsz aMlkd aMlat aMkkd aMkat aModr aMgrp aMikd aMiat fu thr tpd frs frt top_1 bgn mst ovr_1 tgr lvs its hgh loo dfl st_1 p1 r_2 h_2) (cwV 1 hT (gV_of k_1174 k_1176 kp_MO_nameEndOf k_12 kc_MO_nameEndOf) rfl rfl rfl hd_MO_nameEndOf ⟨Nat.le_of_ble_eq_true rfl, Nat.le_of_ble_eq_true rfl⟩) hk hP (q0 := 0) rfl rfl rfl rfl hl.1 rfl (Nat.le_of_ble_eq_true rfl) d_MO_head_11 ⟨Nat.zero_le _, Nat.zero_le _⟩ ?_
  refine lv_iload_n hx hb d_MO_head_14 rfl (lv_at hl 2 rfl) ?_
  refine lv_isub hx hb d_MO_head_15 ?_
  rcases h_3 : tw_MO_copy fu bgn mst top_1 ovr_1 st_1 (p1 + 1) (r_2 - p1) with _ | w_3
  · exact op_no hs (by rw [tw_MO_head, h_1, ob3_mk, h_2, ob1_mk, h_3, ob3_no])
  refine mt_Vv (As := [.int (p1 + 1), .int (r_2 - p1)]) (rest := []) (wr := []) ⟨hx, hb, hml, hown, hT⟩ (c_MO_copy l D cB cI aM aMst aMdcs aMtot aMfrm aMsiz aMffr aMfsz aMlkd aMlat aMkkd aMkat aModr aMgrp aMikd aMiat fu thr tpd frs frt bgn mst tgr lvs its hgh loo dfl _ top_1 ovr_1 st_1 (p1 + 1) (r_2 - p1) w_3 h_3) (cwV 2 hT (gV_of k_1338 k_1340 kp_MO_copy k_12 kc_MO_copy) rfl rfl rfl hd_MO_copy ⟨Nat.le_of_ble_eq_true rfl, Nat.le_of_ble_eq_true rfl⟩) hk hP hD hS hA [0, 1] [] rfl rfl rfl (by decide) (by decide) (by decide) (q0 := 0) rfl rfl rfl rfl hl.1 rfl (Nat.le_of_ble_eq_true rfl) d_MO_head_16 ⟨Nat.zero_le _, Nat.zero_le _⟩ (fun u_3 H locs hw_3 hP hD hS => ?_)
  subst hw_3
  obtain ⟨top_3, ovr_3, st_3⟩ := u_3
  have hP : va_P D vwCl [(aM, .inr (11, [.int thr, .ref aMst, .int tpd, .ref aMdcs, .ref aMtot, .ref aMfrm, .ref aMsiz, .int frs, .int frt, .ref aMffr, .ref aMfsz, .int top_3, .int bgn, .int mst, .int (b2i ovr_3), .int (b2i tgr), .int lvs, .ref aMlkd, .ref aMlat, .ref aMkkd, .ref aMkat, .ref aModr, .ref aMgrp, .int its, .ref aMikd, .ref aMiat, .long hgh, .long loo, .int (b2i dfl)])), (aMst, .inl (cI, 136400, .inl st_3))] H := hP.sub [0, 1] rfl
  have hD : va_D A [(aM, .inr (11, [.int thr, .ref aMst, .int tpd, .ref aMdcs, .ref aMtot, .ref aMfrm, .ref aMsiz, .int frs, .int frt, .ref aMffr, .ref aMfsz, .int top_3, .int bgn, .int mst, .int (b2i ovr_3), .int (b2i tgr), .int lvs, .ref aMlkd, .ref aMlat, .ref aMkkd, .ref aMkat, .ref aModr, .ref aMgrp, .int its, .ref aMikd, .ref aMiat, .long hgh, .long loo, .int (b2i dfl)])), (aMst, .inl (cI, 136400, .inl st_3))] := hD.sub [0, 1] (by decide) rfl
  exact W.vret hx hb hr (fun t ht hW => ⟨⟨(top_3, ovr_3, st_3), rfl, (op_eq hs (by rw [tw_MO_head, h_1, ob3_mk, h_2, ob1_mk, h_3, ob3_mk])), by rw [ht]; exact hP, hD⟩, hS.F ht⟩) hS.2.2 d_MO_head_19
abbrev wd_MO_element (aM aMst aMdcs aMtot aMfrm aMsiz aMffr aMfsz aMlkd aMlat aMkkd aMkat aModr aMgrp aMikd aMiat : Nat) (cB cI : ClassId) (thr : Int32) (tpd : Int32) (frs : Int32) (frt : Int32) (bgn : Int32) (mst : Int32) (tgr : Bool) (lvs : Int32) (its : Int32) (hgh : Int64) (loo : Int64) (dfl : Bool) (top : Int32) (ovr : Bool) (st : Nat → Int32) : va_W := [(aM, .inr (11, [.int thr, .ref aMst, .int tpd, .ref aMdcs, .ref aMtot, .ref aMfrm, .ref aMsiz, .int frs, .int frt, .ref aMffr, .ref aMfsz, .int top, .int bgn, .int mst, .int (b2i ovr), .int (b2i tgr), .int lvs, .ref aMlkd, .ref aMlat, .ref aMkkd, .ref aMkat, .ref aModr, .ref aMgrp, .int its, .ref aMikd, .ref aMiat, .long hgh, .long loo, .int (b2i dfl)])), (aMst, .inl (cI, 136400, .inl st))]
set_option maxHeartbeats 4000000 in
set_option maxRecDepth 100000 in
theorem c_MO_element (l : Launch) (D : va_G) (cB cI : ClassId) (aM aMst aMdcs aMtot aMfrm aMsiz aMffr aMfsz aMlkd aMlat aMkkd aMkat aModr aMgrp aMikd aMiat : Nat) (fu : Nat) (thr : Int32) (tpd : Int32) (frs : Int32) (frt : Int32) (bgn : Int32) (mst : Int32) (tgr : Bool) (lvs : Int32) (its : Int32) (hgh : Int64) (loo : Int64) (dfl : Bool) (sz : Nat) (top : Int32) (ovr : Bool) (st : Nat → Int32) (p0 : Int32) (V0 : Int32 × Bool × (Nat → Int32)) (hs : tw_MO_element fu bgn mst top ovr st p0 = some V0) : Met l y_MO_element mw_MO_element { frames := 2, cells := 0, slots := 0, locals := 44 } (va_Pc [.ref aM, .int p0] (mt_P D cB cI (wd_MO_element aM aMst aMdcs aMtot aMfrm aMsiz aMffr aMfsz aMlkd aMlat aMkkd aMkat aModr aMgrp aMikd aMiat cB cI thr tpd frs frt bgn mst tgr lvs its hgh loo dfl top ovr st) sz)) (va_Qv (fun (u : Int32 × Bool × (Nat → Int32)) => u = V0) (mt_B D (va_A (wd_MO_element aM aMst aMdcs aMtot aMfrm aMsiz aMffr aMfsz aMlkd aMlat aMkkd aMkat aModr aMgrp aMikd aMiat cB cI thr tpd frs frt bgn mst tgr lvs its hgh loo dfl top ovr st) sz) (fun u => wd_MO_element aM aMst aMdcs aMtot aMfrm aMsiz aMffr aMfsz aMlkd aMlat aMkkd aMkat aModr aMgrp aMikd aMiat cB cI thr tpd frs frt bgn mst tgr lvs its hgh loo dfl u.1 u.2.1 u.2.2)) (va_A (wd_MO_element aM aMst aMdcs aMtot aMfrm aMsiz aMffr aMfsz aMlkd aMlat aMkkd aMkat aModr aMgrp aMikd aMiat cB cI thr tpd frs frt bgn mst tgr lvs its hgh loo dfl top ovr st) sz)) 0 0 (va_A (wd_MO_element aM aMst aMdcs aMtot aMfrm aMsiz aMffr aMfsz aMlkd aMlat aMkkd aMkat aModr aMgrp aMikd aMiat cB cI thr tpd frs frt bgn mst tgr lvs its hgh loo dfl top ovr st) sz) := by
  refine Met.ofW (cc := b_MO_element) (maxL := 2) (ret := none) (by decide) rfl ?_
  intro p e s m args below meth c s₁ B0 hml hv
  obtain ⟨rfl, hsz, hP, hk, hD0⟩ := hv
  have hK := hk.1
  have hN := hk.2.1
  have hx := B0.exec
  have hb := B0.bytes
  have hr := B0.returns
  have hT : ∀ w ∈ lw_g, w.before _ s = true := fun w h => atoms_spec (ws := mw_MO_element) B0.pre w (List.mem_cons_of_mem _ h)
  have hown : s.vm.findClass R_MO = some m.cls := findClass_of_methodNamed B0.named
  have hlocks := B0.notSynchronized
  subst hsz
  have hD := hD0.self (sz := s.heap.size)
  generalize hAe : va_A [(aM, .inr (11, [.int thr, .ref aMst, .int tpd, .ref aMdcs, .ref aMtot, .ref aMfrm, .ref aMsiz, .int frs, .int frt, .ref aMffr, .ref aMfsz, .int top, .int bgn, .int mst, .int (b2i ovr), .int (b2i tgr), .int lvs, .ref aMlkd, .ref aMlat, .ref aMkkd, .ref aMkat, .ref aModr, .ref aMgrp, .int its, .ref aMikd, .ref aMiat, .long hgh, .long loo, .int (b2i dfl)])), (aMst, .inl (cI, 136400, .inl st))] s.heap.size = A at hD ⊢
  have hA : ∀ q : Nat, s.heap.size ≤ q → A q := fun q h => by rw [← hAe]; exact Or.inr h
  have hS : va_S A s.heap s.heap [] := va_S.rf
  have hl := lv_entry ([.ref aM, .int p0]) (n := 2) (Nat.le_of_ble_eq_true rfl)
  rw [lg_entry_eq]
  generalize (lg_sl ([.ref aM, .int p0]) ++ List.replicate (2 - (lg_sl ([.ref aM, .int p0])).length) Slot.unset).toArray = ls at hl ⊢
  have hl : lv_has ls 2 [(0, .ref aM), (1, .int p0)] := hl
  refine lv_aload_n hx hb d_MO_element_0 rfl (lv_at hl 0 rfl) ?_
  refine lv_iload_n hx hb d_MO_element_1 rfl (lv_at hl 1 rfl) ?_
  refine lv_aload_n hx hb d_MO_element_2 rfl (lv_at hl 0 rfl) ?_
  refine lv_iload_n hx hb d_MO_element_3 rfl (lv_at hl 1 rfl) ?_
  rcases h_1 : tw_MO_valueOf fu st p0 with _ | r_1
  · exact op_no hs (by rw [tw_MO_element, h_1, ob1_no])
  refine rd_V (val := r_1) (As := [.int p0]) (rest := [.int p0, .ref aM]) ⟨hx, hb, hml, hown, hT⟩ (c_MO_valueOf l D cB cI aM aMst aMdcs aMtot aMfrm aMsiz aMffr aMfsz aMlkd aMlat aMkkd aMkat aModr aMgrp aMikd aMiat fu thr tpd frs frt top bgn mst ovr tgr lvs its hgh loo dfl st p0 r_1 h_1) (cwV 1 hT (gV_of k_1182 k_1184 kp_MO_valueOf k_12 kc_MO_valueOf) rfl rfl rfl hd_MO_valueOf ⟨Nat.le_of_ble_eq_true rfl, Nat.le_of_ble_eq_true rfl⟩) hk hP (q0 := 0) rfl rfl rfl rfl hl.1 rfl (Nat.le_of_ble_eq_true rfl) d_MO_element_4 ⟨Nat.zero_le _, Nat.zero_le _⟩ ?_
  refine lv_aload_n hx hb d_MO_element_7 rfl (lv_at hl 0 rfl) ?_
  refine lv_aload_n hx hb d_MO_element_8 rfl (lv_at hl 0 rfl) ?_
  refine va_get (D := D) (ci := 11) (v := .ref aMst) (C := R_MO) (T := T_MO) (N := 29) hx hb hT u_MO hown hK hP 0 rfl rfl 1 (by decide) (hT _ k_1044) (fun _ h9 => h9) rfl d_MO_element_9 ?_
  refine lv_iload_n hx hb d_MO_element_12 rfl (lv_at hl 1 rfl) ?_
  by_cases c_2 : 0 ≤ p0 ∧ p0 < 136400
  rotate_left
  · exact op_no hs (by rw [tw_MO_element, h_1, ob1_mk, if_neg c_2])
  refine va_iald hx hb hK hP 1 1 rfl rfl (in_pp c_2.1 c_2.2 rfl) d_MO_element_13 ?_
  refine lv_aload_n hx hb d_MO_element_14 rfl (lv_at hl 0 rfl) ?_
  refine lv_iload_n hx hb d_MO_element_15 rfl (lv_at hl 1 rfl) ?_
  refine rd_V (val := r_1) (As := [.int p0]) (rest := [.int (st p0.toNatClampNeg), .ref aM, .int r_1, .int p0, .ref aM]) ⟨hx, hb, hml, hown, hT⟩ (c_MO_valueOf l D cB cI aM aMst aMdcs aMtot aMfrm aMsiz aMffr aMfsz aMlkd aMlat aMkkd aMkat aModr aMgrp aMikd aMiat fu thr tpd frs frt top bgn mst ovr tgr lvs its hgh loo dfl st p0 r_1 h_1) (cwV 1 hT (gV_of k_1182 k_1184 kp_MO_valueOf k_12 kc_MO_valueOf) rfl rfl rfl hd_MO_valueOf ⟨Nat.le_of_ble_eq_true rfl, Nat.le_of_ble_eq_true rfl⟩) hk hP (q0 := 0) rfl rfl rfl rfl hl.1 rfl (Nat.le_of_ble_eq_true rfl) d_MO_element_16 ⟨Nat.zero_le _, Nat.zero_le _⟩ ?_
  rcases h_3 : tw_MO_lengthOf fu st (st p0.toNatClampNeg) r_1 with _ | r_3
  · exact op_no hs (by rw [tw_MO_element, h_1, ob1_mk, if_pos c_2, h_3, ob1_no])
  refine rd_V (val := r_3) (As := [.int (st p0.toNatClampNeg), .int r_1]) (rest := [.int r_1, .int p0, .ref aM]) ⟨hx, hb, hml, hown, hT⟩ (c_MO_lengthOf l D cB cI aM aMst aMdcs aMtot aMfrm aMsiz aMffr aMfsz aMlkd aMlat aMkkd aMkat aModr aMgrp aMikd aMiat fu thr tpd frs frt top bgn mst ovr tgr lvs its hgh loo dfl st (st p0.toNatClampNeg) r_1 r_3 h_3) (cwV 2 hT (gV_of k_1186 k_1188 kp_MO_lengthOf k_12 kc_MO_lengthOf) rfl rfl rfl hd_MO_lengthOf ⟨Nat.le_of_ble_eq_true rfl, Nat.le_of_ble_eq_true rfl⟩) hk hP (q0 := 0) rfl rfl rfl rfl hl.1 rfl (Nat.le_of_ble_eq_true rfl) d_MO_element_19 ⟨Nat.zero_le _, Nat.zero_le _⟩ ?_
  refine lv_iadd hx hb d_MO_element_22 ?_
  refine lv_iload_n hx hb d_MO_element_23 rfl (lv_at hl 1 rfl) ?_
  refine lv_isub hx hb d_MO_element_24 ?_
  rcases h_4 : tw_MO_copy fu bgn mst top ovr st p0 ((r_1 + r_3) - p0) with _ | w_4
  · exact op_no hs (by rw [tw_MO_element, h_1, ob1_mk, if_pos c_2, h_3, ob1_mk, h_4, ob3_no])
  refine mt_Vv (As := [.int p0, .int ((r_1 + r_3) - p0)]) (rest := []) (wr := []) ⟨hx, hb, hml, hown, hT⟩ (c_MO_copy l D cB cI aM aMst aMdcs aMtot aMfrm aMsiz aMffr aMfsz aMlkd aMlat aMkkd aMkat aModr aMgrp aMikd aMiat fu thr tpd frs frt bgn mst tgr lvs its hgh loo dfl _ top ovr st p0 ((r_1 + r_3) - p0) w_4 h_4) (cwV 2 hT (gV_of k_1338 k_1340 kp_MO_copy k_12 kc_MO_copy) rfl rfl rfl hd_MO_copy ⟨Nat.le_of_ble_eq_true rfl, Nat.le_of_ble_eq_true rfl⟩) hk hP hD hS hA [0, 1] [] rfl rfl rfl (by decide) (by decide) (by decide) (q0 := 0) rfl rfl rfl rfl hl.1 rfl (Nat.le_of_ble_eq_true rfl) d_MO_element_25 ⟨Nat.zero_le _, Nat.zero_le _⟩ (fun u_4 H locs hw_4 hP hD hS => ?_)
  subst hw_4
  obtain ⟨top_4, ovr_4, st_4⟩ := u_4
  have hP : va_P D vwCl [(aM, .inr (11, [.int thr, .ref aMst, .int tpd, .ref aMdcs, .ref aMtot, .ref aMfrm, .ref aMsiz, .int frs, .int frt, .ref aMffr, .ref aMfsz, .int top_4, .int bgn, .int mst, .int (b2i ovr_4), .int (b2i tgr), .int lvs, .ref aMlkd, .ref aMlat, .ref aMkkd, .ref aMkat, .ref aModr, .ref aMgrp, .int its, .ref aMikd, .ref aMiat, .long hgh, .long loo, .int (b2i dfl)])), (aMst, .inl (cI, 136400, .inl st_4))] H := hP.sub [0, 1] rfl
  have hD : va_D A [(aM, .inr (11, [.int thr, .ref aMst, .int tpd, .ref aMdcs, .ref aMtot, .ref aMfrm, .ref aMsiz, .int frs, .int frt, .ref aMffr, .ref aMfsz, .int top_4, .int bgn, .int mst, .int (b2i ovr_4), .int (b2i tgr), .int lvs, .ref aMlkd, .ref aMlat, .ref aMkkd, .ref aMkat, .ref aModr, .ref aMgrp, .int its, .ref aMikd, .ref aMiat, .long hgh, .long loo, .int (b2i dfl)])), (aMst, .inl (cI, 136400, .inl st_4))] := hD.sub [0, 1] (by decide) rfl
  exact W.vret hx hb hr (fun t ht hW => ⟨⟨(top_4, ovr_4, st_4), rfl, (op_eq hs (by rw [tw_MO_element, h_1, ob1_mk, if_pos c_2, h_3, ob1_mk, h_4, ob3_mk])), by rw [ht]; exact hP, hD⟩, hS.F ht⟩) hS.2.2 d_MO_element_28
abbrev wd_MO_beginValue (aM aMst aMdcs aMtot aMfrm aMsiz aMffr aMfsz aMlkd aMlat aMkkd aMkat aModr aMgrp aMikd aMiat : Nat) (cB cI : ClassId) (thr : Int32) (tpd : Int32) (frs : Int32) (frt : Int32) (tgr : Bool) (lvs : Int32) (its : Int32) (hgh : Int64) (loo : Int64) (dfl : Bool) (top : Int32) (bgn : Int32) (mst : Int32) (ovr : Bool) : va_W := [(aM, .inr (11, [.int thr, .ref aMst, .int tpd, .ref aMdcs, .ref aMtot, .ref aMfrm, .ref aMsiz, .int frs, .int frt, .ref aMffr, .ref aMfsz, .int top, .int bgn, .int mst, .int (b2i ovr), .int (b2i tgr), .int lvs, .ref aMlkd, .ref aMlat, .ref aMkkd, .ref aMkat, .ref aModr, .ref aMgrp, .int its, .ref aMikd, .ref aMiat, .long hgh, .long loo, .int (b2i dfl)]))]
set_option maxHeartbeats 4000000 in
set_option maxRecDepth 100000 in
theorem c_MO_beginValue (l : Launch) (D : va_G) (cB cI : ClassId) (aM aMst aMdcs aMtot aMfrm aMsiz aMffr aMfsz aMlkd aMlat aMkkd aMkat aModr aMgrp aMikd aMiat : Nat) (fu : Nat) (thr : Int32) (tpd : Int32) (frs : Int32) (frt : Int32) (tgr : Bool) (lvs : Int32) (its : Int32) (hgh : Int64) (loo : Int64) (dfl : Bool) (sz : Nat) (top : Int32) (bgn : Int32) (mst : Int32) (ovr : Bool) (p0 : Int32) (p1 : Int32) (V0 : Int32 × Int32 × Int32 × Bool) (hs : tw_MO_beginValue fu top bgn mst ovr p0 p1 = some V0) : Met l y_MO_beginValue mw_MO_beginValue { frames := 0, cells := 0, slots := 0, locals := 0 } (va_Pc [.ref aM, .int p0, .int p1] (mt_P D cB cI (wd_MO_beginValue aM aMst aMdcs aMtot aMfrm aMsiz aMffr aMfsz aMlkd aMlat aMkkd aMkat aModr aMgrp aMikd aMiat cB cI thr tpd frs frt tgr lvs its hgh loo dfl top bgn mst ovr) sz)) (va_Qv (fun (u : Int32 × Int32 × Int32 × Bool) => u = V0) (mt_B D (va_A (wd_MO_beginValue aM aMst aMdcs aMtot aMfrm aMsiz aMffr aMfsz aMlkd aMlat aMkkd aMkat aModr aMgrp aMikd aMiat cB cI thr tpd frs frt tgr lvs its hgh loo dfl top bgn mst ovr) sz) (fun u => wd_MO_beginValue aM aMst aMdcs aMtot aMfrm aMsiz aMffr aMfsz aMlkd aMlat aMkkd aMkat aModr aMgrp aMikd aMiat cB cI thr tpd frs frt tgr lvs its hgh loo dfl u.1 u.2.1 u.2.2.1 u.2.2.2)) (va_A (wd_MO_beginValue aM aMst aMdcs aMtot aMfrm aMsiz aMffr aMfsz aMlkd aMlat aMkkd aMkat aModr aMgrp aMikd aMiat cB cI thr tpd frs frt tgr lvs its hgh loo dfl top bgn mst ovr) sz)) 0 0 (va_A (wd_MO_beginValue aM aMst aMdcs aMtot aMfrm aMsiz aMffr aMfsz aMlkd aMlat aMkkd aMkat aModr aMgrp aMikd aMiat cB cI thr tpd frs frt tgr lvs its hgh loo dfl top bgn mst ovr) sz) := by
  refine Met.ofW (cc := b_MO_beginValue) (maxL := 3) (ret := none) (by decide) rfl ?_
  intro p e s m args below meth c s₁ B0 hml hv
  obtain ⟨rfl, hsz, hP, hk, hD0⟩ := hv
  have hK := hk.1
  have hN := hk.2.1
  have hx := B0.exec
  have hb := B0.bytes
  have hr := B0.returns
  have hT : ∀ w ∈ lw_g, w.before _ s = true := fun w h => atoms_spec (ws := mw_MO_beginValue) B0.pre w (List.mem_cons_of_mem _ h)
  have hown : s.vm.findClass R_MO = some m.cls := findClass_of_methodNamed B0.named
  have hlocks := B0.notSynchronized
  subst hsz
  have hD := hD0.self (sz := s.heap.size)
  generalize hAe : va_A [(aM, .inr (11, [.int thr, .ref aMst, .int tpd, .ref aMdcs, .ref aMtot, .ref aMfrm, .ref aMsiz, .int frs, .int frt, .ref aMffr, .ref aMfsz, .int top, .int bgn, .int mst, .int (b2i ovr), .int (b2i tgr), .int lvs, .ref aMlkd, .ref aMlat, .ref aMkkd, .ref aMkat, .ref aModr, .ref aMgrp, .int its, .ref aMikd, .ref aMiat, .long hgh, .long loo, .int (b2i dfl)]))] s.heap.size = A at hD ⊢
  have hA : ∀ q : Nat, s.heap.size ≤ q → A q := fun q h => by rw [← hAe]; exact Or.inr h
  have hS : va_S A s.heap s.heap [] := va_S.rf
  have hl := lv_entry ([.ref aM, .int p0, .int p1]) (n := 3) (Nat.le_of_ble_eq_true rfl)
  rw [lg_entry_eq]
  generalize (lg_sl ([.ref aM, .int p0, .int p1]) ++ List.replicate (3 - (lg_sl ([.ref aM, .int p0, .int p1])).length) Slot.unset).toArray = ls at hl ⊢
  have hl : lv_has ls 3 [(0, .ref aM), (1, .int p0), (2, .int p1)] := hl
  refine lv_aload_n hx hb d_MO_beginValue_0 rfl (lv_at hl 0 rfl) ?_
  refine lv_iload_n hx hb d_MO_beginValue_1 rfl (lv_at hl 1 rfl) ?_
  refine va_put (D := D) (ci := 11) (v := .int p0) (ty := .int) (C := R_MO) (T := T_MO) (N := 29) hx hb hT u_MO ty_MO tyok_MO nm_MO hown hK hP hD hS 0 rfl rfl 11 (by decide) (hT _ k_1054) (fun _ h9 => h9) rfl (by decide +kernel) (rfl) (rfl) (Nat.le_of_ble_eq_true rfl) d_MO_beginValue_2 (fun H locs hP hD hS => ?_)
  have hP : va_P D vwCl [(aM, .inr (11, [.int thr, .ref aMst, .int tpd, .ref aMdcs, .ref aMtot, .ref aMfrm, .ref aMsiz, .int frs, .int frt, .ref aMffr, .ref aMfsz, .int p0, .int bgn, .int mst, .int (b2i ovr), .int (b2i tgr), .int lvs, .ref aMlkd, .ref aMlat, .ref aMkkd, .ref aMkat, .ref aModr, .ref aMgrp, .int its, .ref aMikd, .ref aMiat, .long hgh, .long loo, .int (b2i dfl)]))] H := hP
  have hD : va_D A [(aM, .inr (11, [.int thr, .ref aMst, .int tpd, .ref aMdcs, .ref aMtot, .ref aMfrm, .ref aMsiz, .int frs, .int frt, .ref aMffr, .ref aMfsz, .int p0, .int bgn, .int mst, .int (b2i ovr), .int (b2i tgr), .int lvs, .ref aMlkd, .ref aMlat, .ref aMkkd, .ref aMkat, .ref aModr, .ref aMgrp, .int its, .ref aMikd, .ref aMiat, .long hgh, .long loo, .int (b2i dfl)]))] := hD
  refine lv_aload_n hx hb d_MO_beginValue_5 rfl (lv_at hl 0 rfl) ?_
  refine lv_iload_n hx hb d_MO_beginValue_6 rfl (lv_at hl 1 rfl) ?_
  refine va_put (D := D) (ci := 11) (v := .int p0) (ty := .int) (C := R_MO) (T := T_MO) (N := 29) hx hb hT u_MO ty_MO tyok_MO nm_MO hown hK hP hD hS 0 rfl rfl 12 (by decide) (hT _ k_1055) (fun _ h9 => h9) rfl (by decide +kernel) (rfl) (rfl) (Nat.le_of_ble_eq_true rfl) d_MO_beginValue_7 (fun H locs hP hD hS => ?_)
  have hP : va_P D vwCl [(aM, .inr (11, [.int thr, .ref aMst, .int tpd, .ref aMdcs, .ref aMtot, .ref aMfrm, .ref aMsiz, .int frs, .int frt, .ref aMffr, .ref aMfsz, .int p0, .int p0, .int mst, .int (b2i ovr), .int (b2i tgr), .int lvs, .ref aMlkd, .ref aMlat, .ref aMkkd, .ref aMkat, .ref aModr, .ref aMgrp, .int its, .ref aMikd, .ref aMiat, .long hgh, .long loo, .int (b2i dfl)]))] H := hP
  have hD : va_D A [(aM, .inr (11, [.int thr, .ref aMst, .int tpd, .ref aMdcs, .ref aMtot, .ref aMfrm, .ref aMsiz, .int frs, .int frt, .ref aMffr, .ref aMfsz, .int p0, .int p0, .int mst, .int (b2i ovr), .int (b2i tgr), .int lvs, .ref aMlkd, .ref aMlat, .ref aMkkd, .ref aMkat, .ref aModr, .ref aMgrp, .int its, .ref aMikd, .ref aMiat, .long hgh, .long loo, .int (b2i dfl)]))] := hD
  refine lv_aload_n hx hb d_MO_beginValue_10 rfl (lv_at hl 0 rfl) ?_
  refine lv_iload_n hx hb d_MO_beginValue_11 rfl (lv_at hl 2 rfl) ?_
  refine va_put (D := D) (ci := 11) (v := .int p1) (ty := .int) (C := R_MO) (T := T_MO) (N := 29) hx hb hT u_MO ty_MO tyok_MO nm_MO hown hK hP hD hS 0 rfl rfl 13 (by decide) (hT _ k_1056) (fun _ h9 => h9) rfl (by decide +kernel) (rfl) (rfl) (Nat.le_of_ble_eq_true rfl) d_MO_beginValue_12 (fun H locs hP hD hS => ?_)
  have hP : va_P D vwCl [(aM, .inr (11, [.int thr, .ref aMst, .int tpd, .ref aMdcs, .ref aMtot, .ref aMfrm, .ref aMsiz, .int frs, .int frt, .ref aMffr, .ref aMfsz, .int p0, .int p0, .int p1, .int (b2i ovr), .int (b2i tgr), .int lvs, .ref aMlkd, .ref aMlat, .ref aMkkd, .ref aMkat, .ref aModr, .ref aMgrp, .int its, .ref aMikd, .ref aMiat, .long hgh, .long loo, .int (b2i dfl)]))] H := hP
  have hD : va_D A [(aM, .inr (11, [.int thr, .ref aMst, .int tpd, .ref aMdcs, .ref aMtot, .ref aMfrm, .ref aMsiz, .int frs, .int frt, .ref aMffr, .ref aMfsz, .int p0, .int p0, .int p1, .int (b2i ovr), .int (b2i tgr), .int lvs, .ref aMlkd, .ref aMlat, .ref aMkkd, .ref aMkat, .ref aModr, .ref aMgrp, .int its, .ref aMikd, .ref aMiat, .long hgh, .long loo, .int (b2i dfl)]))] := hD
  refine lv_aload_n hx hb d_MO_beginValue_15 rfl (lv_at hl 0 rfl) ?_
  refine lv_iconst (v := 0) hx hb d_MO_beginValue_16 (by decide) ?_
  refine va_put (D := D) (ci := 11) (v := .int 0) (ty := .boolean) (C := R_MO) (T := T_MO) (N := 29) hx hb hT u_MO ty_MO tyok_MO nm_MO hown hK hP hD hS 0 rfl rfl 14 (by decide) (hT _ k_1057) (fun _ h9 => h9) rfl (by decide +kernel) (rfl) (rfl) (Nat.le_of_ble_eq_true rfl) d_MO_beginValue_17 (fun H locs hP hD hS => ?_)
  have hP : va_P D vwCl [(aM, .inr (11, [.int thr, .ref aMst, .int tpd, .ref aMdcs, .ref aMtot, .ref aMfrm, .ref aMsiz, .int frs, .int frt, .ref aMffr, .ref aMfsz, .int p0, .int p0, .int p1, .int 0, .int (b2i tgr), .int lvs, .ref aMlkd, .ref aMlat, .ref aMkkd, .ref aMkat, .ref aModr, .ref aMgrp, .int its, .ref aMikd, .ref aMiat, .long hgh, .long loo, .int (b2i dfl)]))] H := hP
  have hD : va_D A [(aM, .inr (11, [.int thr, .ref aMst, .int tpd, .ref aMdcs, .ref aMtot, .ref aMfrm, .ref aMsiz, .int frs, .int frt, .ref aMffr, .ref aMfsz, .int p0, .int p0, .int p1, .int 0, .int (b2i tgr), .int lvs, .ref aMlkd, .ref aMlat, .ref aMkkd, .ref aMkat, .ref aModr, .ref aMgrp, .int its, .ref aMikd, .ref aMiat, .long hgh, .long loo, .int (b2i dfl)]))] := hD
  exact W.vret hx hb hr (fun t ht hW => ⟨⟨(p0, p0, p1, false), rfl, (op_eq hs (by rw [tw_MO_beginValue])), by rw [ht]; exact hP, hD⟩, hS.F ht⟩) hS.2.2 d_MO_beginValue_20
abbrev wd_MO_beginAll (aM aMst aMdcs aMtot aMfrm aMsiz aMffr aMfsz aMlkd aMlat aMkkd aMkat aModr aMgrp aMikd aMiat : Nat) (cB cI : ClassId) (thr : Int32) (tpd : Int32) (bgn : Int32) (mst : Int32) (ovr : Bool) (lvs : Int32) (its : Int32) (hgh : Int64) (loo : Int64) (dfl : Bool) (frs : Int32) (frt : Int32) (top : Int32) (tgr : Bool) : va_W := [(aM, .inr (11, [.int thr, .ref aMst, .int tpd, .ref aMdcs, .ref aMtot, .ref aMfrm, .ref aMsiz, .int frs, .int frt, .ref aMffr, .ref aMfsz, .int top, .int bgn, .int mst, .int (b2i ovr), .int (b2i tgr), .int lvs, .ref aMlkd, .ref aMlat, .ref aMkkd, .ref aMkat, .ref aModr, .ref aMgrp, .int its, .ref aMikd, .ref aMiat, .long hgh, .long loo, .int (b2i dfl)]))]
set_option maxHeartbeats 4000000 in
set_option maxRecDepth 100000 in
theorem c_MO_beginAll (l : Launch) (D : va_G) (cB cI : ClassId) (aM aMst aMdcs aMtot aMfrm aMsiz aMffr aMfsz aMlkd aMlat aMkkd aMkat aModr aMgrp aMikd aMiat : Nat) (fu : Nat) (thr : Int32) (tpd : Int32) (bgn : Int32) (mst : Int32) (ovr : Bool) (lvs : Int32) (its : Int32) (hgh : Int64) (loo : Int64) (dfl : Bool) (sz : Nat) (frs : Int32) (frt : Int32) (top : Int32) (tgr : Bool) (V0 : Int32 × Int32 × Int32 × Bool) (hs : tw_MO_beginAll fu frs frt top tgr = some V0) : Met l y_MO_beginAll mw_MO_beginAll { frames := 0, cells := 0, slots := 0, locals := 0 } (va_Pc [.ref aM] (mt_P D cB cI (wd_MO_beginAll aM aMst aMdcs aMtot aMfrm aMsiz aMffr aMfsz aMlkd aMlat aMkkd aMkat aModr aMgrp aMikd aMiat cB cI thr tpd bgn mst ovr lvs its hgh loo dfl frs frt top tgr) sz)) (va_Qv (fun (u : Int32 × Int32 × Int32 × Bool) => u = V0) (mt_B D (va_A (wd_MO_beginAll aM aMst aMdcs aMtot aMfrm aMsiz aMffr aMfsz aMlkd aMlat aMkkd aMkat aModr aMgrp aMikd aMiat cB cI thr tpd bgn mst ovr lvs its hgh loo dfl frs frt top tgr) sz) (fun u => wd_MO_beginAll aM aMst aMdcs aMtot aMfrm aMsiz aMffr aMfsz aMlkd aMlat aMkkd aMkat aModr aMgrp aMikd aMiat cB cI thr tpd bgn mst ovr lvs its hgh loo dfl u.1 u.2.1 u.2.2.1 u.2.2.2)) (va_A (wd_MO_beginAll aM aMst aMdcs aMtot aMfrm aMsiz aMffr aMfsz aMlkd aMlat aMkkd aMkat aModr aMgrp aMikd aMiat cB cI thr tpd bgn mst ovr lvs its hgh loo dfl frs frt top tgr) sz)) 0 0 (va_A (wd_MO_beginAll aM aMst aMdcs aMtot aMfrm aMsiz aMffr aMfsz aMlkd aMlat aMkkd aMkat aModr aMgrp aMikd aMiat cB cI thr tpd bgn mst ovr lvs its hgh loo dfl frs frt top tgr) sz) := by
  refine Met.ofW (cc := b_MO_beginAll) (maxL := 1) (ret := none) (by decide) rfl ?_
  intro p e s m args below meth c s₁ B0 hml hv
  obtain ⟨rfl, hsz, hP, hk, hD0⟩ := hv
  have hK := hk.1
  have hN := hk.2.1
  have hx := B0.exec
  have hb := B0.bytes
  have hr := B0.returns
  have hT : ∀ w ∈ lw_g, w.before _ s = true := fun w h => atoms_spec (ws := mw_MO_beginAll) B0.pre w (List.mem_cons_of_mem _ h)
  have hown : s.vm.findClass R_MO = some m.cls := findClass_of_methodNamed B0.named
  have hlocks := B0.notSynchronized
  subst hsz
  have hD := hD0.self (sz := s.heap.size)
  generalize hAe : va_A [(aM, .inr (11, [.int thr, .ref aMst, .int tpd, .ref aMdcs, .ref aMtot, .ref aMfrm, .ref aMsiz, .int frs, .int frt, .ref aMffr, .ref aMfsz, .int top, .int bgn, .int mst, .int (b2i ovr), .int (b2i tgr), .int lvs, .ref aMlkd, .ref aMlat, .ref aMkkd, .ref aMkat, .ref aModr, .ref aMgrp, .int its, .ref aMikd, .ref aMiat, .long hgh, .long loo, .int (b2i dfl)]))] s.heap.size = A at hD ⊢
  have hA : ∀ q : Nat, s.heap.size ≤ q → A q := fun q h => by rw [← hAe]; exact Or.inr h
  have hS : va_S A s.heap s.heap [] := va_S.rf
  have hl := lv_entry ([.ref aM]) (n := 1) (Nat.le_of_ble_eq_true rfl)
  rw [lg_entry_eq]
  generalize (lg_sl ([.ref aM]) ++ List.replicate (1 - (lg_sl ([.ref aM])).length) Slot.unset).toArray = ls at hl ⊢
  have hl : lv_has ls 1 [(0, .ref aM)] := hl
  refine lv_aload_n hx hb d_MO_beginAll_0 rfl (lv_at hl 0 rfl) ?_
  refine lv_iconst (v := 0) hx hb d_MO_beginAll_1 (by decide) ?_
  refine va_put (D := D) (ci := 11) (v := .int 0) (ty := .int) (C := R_MO) (T := T_MO) (N := 29) hx hb hT u_MO ty_MO tyok_MO nm_MO hown hK hP hD hS 0 rfl rfl 7 (by decide) (hT _ k_1050) (fun _ h9 => h9) rfl (by decide +kernel) (rfl) (rfl) (Nat.le_of_ble_eq_true rfl) d_MO_beginAll_2 (fun H locs hP hD hS => ?_)
  have hP : va_P D vwCl [(aM, .inr (11, [.int thr, .ref aMst, .int tpd, .ref aMdcs, .ref aMtot, .ref aMfrm, .ref aMsiz, .int 0, .int frt, .ref aMffr, .ref aMfsz, .int top, .int bgn, .int mst, .int (b2i ovr), .int (b2i tgr), .int lvs, .ref aMlkd, .ref aMlat, .ref aMkkd, .ref aMkat, .ref aModr, .ref aMgrp, .int its, .ref aMikd, .ref aMiat, .long hgh, .long loo, .int (b2i dfl)]))] H := hP
  have hD : va_D A [(aM, .inr (11, [.int thr, .ref aMst, .int tpd, .ref aMdcs, .ref aMtot, .ref aMfrm, .ref aMsiz, .int 0, .int frt, .ref aMffr, .ref aMfsz, .int top, .int bgn, .int mst, .int (b2i ovr), .int (b2i tgr), .int lvs, .ref aMlkd, .ref aMlat, .ref aMkkd, .ref aMkat, .ref aModr, .ref aMgrp, .int its, .ref aMikd, .ref aMiat, .long hgh, .long loo, .int (b2i dfl)]))] := hD
  refine lv_aload_n hx hb d_MO_beginAll_5 rfl (lv_at hl 0 rfl) ?_
  refine lv_iconst (v := 0) hx hb d_MO_beginAll_6 (by decide) ?_
  refine va_put (D := D) (ci := 11) (v := .int 0) (ty := .int) (C := R_MO) (T := T_MO) (N := 29) hx hb hT u_MO ty_MO tyok_MO nm_MO hown hK hP hD hS 0 rfl rfl 8 (by decide) (hT _ k_1051) (fun _ h9 => h9) rfl (by decide +kernel) (rfl) (rfl) (Nat.le_of_ble_eq_true rfl) d_MO_beginAll_7 (fun H locs hP hD hS => ?_)
  have hP : va_P D vwCl [(aM, .inr (11, [.int thr, .ref aMst, .int tpd, .ref aMdcs, .ref aMtot, .ref aMfrm, .ref aMsiz, .int 0, .int 0, .ref aMffr, .ref aMfsz, .int top, .int bgn, .int mst, .int (b2i ovr), .int (b2i tgr), .int lvs, .ref aMlkd, .ref aMlat, .ref aMkkd, .ref aMkat, .ref aModr, .ref aMgrp, .int its, .ref aMikd, .ref aMiat, .long hgh, .long loo, .int (b2i dfl)]))] H := hP
  have hD : va_D A [(aM, .inr (11, [.int thr, .ref aMst, .int tpd, .ref aMdcs, .ref aMtot, .ref aMfrm, .ref aMsiz, .int 0, .int 0, .ref aMffr, .ref aMfsz, .int top, .int bgn, .int mst, .int (b2i ovr), .int (b2i tgr), .int lvs, .ref aMlkd, .ref aMlat, .ref aMkkd, .ref aMkat, .ref aModr, .ref aMgrp, .int its, .ref aMikd, .ref aMiat, .long hgh, .long loo, .int (b2i dfl)]))] := hD
  refine lv_aload_n hx hb d_MO_beginAll_10 rfl (lv_at hl 0 rfl) ?_
  refine lv_iconst (v := 0) hx hb d_MO_beginAll_11 (by decide) ?_
  refine va_put (D := D) (ci := 11) (v := .int 0) (ty := .boolean) (C := R_MO) (T := T_MO) (N := 29) hx hb hT u_MO ty_MO tyok_MO nm_MO hown hK hP hD hS 0 rfl rfl 15 (by decide) (hT _ k_1058) (fun _ h9 => h9) rfl (by decide +kernel) (rfl) (rfl) (Nat.le_of_ble_eq_true rfl) d_MO_beginAll_12 (fun H locs hP hD hS => ?_)
  have hP : va_P D vwCl [(aM, .inr (11, [.int thr, .ref aMst, .int tpd, .ref aMdcs, .ref aMtot, .ref aMfrm, .ref aMsiz, .int 0, .int 0, .ref aMffr, .ref aMfsz, .int top, .int bgn, .int mst, .int (b2i ovr), .int 0, .int lvs, .ref aMlkd, .ref aMlat, .ref aMkkd, .ref aMkat, .ref aModr, .ref aMgrp, .int its, .ref aMikd, .ref aMiat, .long hgh, .long loo, .int (b2i dfl)]))] H := hP
  have hD : va_D A [(aM, .inr (11, [.int thr, .ref aMst, .int tpd, .ref aMdcs, .ref aMtot, .ref aMfrm, .ref aMsiz, .int 0, .int 0, .ref aMffr, .ref aMfsz, .int top, .int bgn, .int mst, .int (b2i ovr), .int 0, .int lvs, .ref aMlkd, .ref aMlat, .ref aMkkd, .ref aMkat, .ref aModr, .ref aMgrp, .int its, .ref aMikd, .ref aMiat, .long hgh, .long loo, .int (b2i dfl)]))] := hD
  refine lv_aload_n hx hb d_MO_beginAll_15 rfl (lv_at hl 0 rfl) ?_
  refine lv_ldc (v := 80000) hx hb hown (hT _ k_1305) d_MO_beginAll_16 ?_
  refine va_put (D := D) (ci := 11) (v := .int 80000) (ty := .int) (C := R_MO) (T := T_MO) (N := 29) hx hb hT u_MO ty_MO tyok_MO nm_MO hown hK hP hD hS 0 rfl rfl 11 (by decide) (hT _ k_1054) (fun _ h9 => h9) rfl (by decide +kernel) (rfl) (rfl) (Nat.le_of_ble_eq_true rfl) d_MO_beginAll_18 (fun H locs hP hD hS => ?_)
  have hP : va_P D vwCl [(aM, .inr (11, [.int thr, .ref aMst, .int tpd, .ref aMdcs, .ref aMtot, .ref aMfrm, .ref aMsiz, .int 0, .int 0, .ref aMffr, .ref aMfsz, .int 80000, .int bgn, .int mst, .int (b2i ovr), .int 0, .int lvs, .ref aMlkd, .ref aMlat, .ref aMkkd, .ref aMkat, .ref aModr, .ref aMgrp, .int its, .ref aMikd, .ref aMiat, .long hgh, .long loo, .int (b2i dfl)]))] H := hP
  have hD : va_D A [(aM, .inr (11, [.int thr, .ref aMst, .int tpd, .ref aMdcs, .ref aMtot, .ref aMfrm, .ref aMsiz, .int 0, .int 0, .ref aMffr, .ref aMfsz, .int 80000, .int bgn, .int mst, .int (b2i ovr), .int 0, .int lvs, .ref aMlkd, .ref aMlat, .ref aMkkd, .ref aMkat, .ref aModr, .ref aMgrp, .int its, .ref aMikd, .ref aMiat, .long hgh, .long loo, .int (b2i dfl)]))] := hD
  exact W.vret hx hb hr (fun t ht hW => ⟨⟨(0, 0, 80000, false), rfl, (op_eq hs (by rw [tw_MO_beginAll])), by rw [ht]; exact hP, hD⟩, hS.F ht⟩) hS.2.2 d_MO_beginAll_21
abbrev wd_MO_beginDocument (aM aMst aMdcs aMtot aMfrm aMsiz aMffr aMfsz aMlkd aMlat aMkkd aMkat aModr aMgrp aMikd aMiat : Nat) (cB cI : ClassId) (thr : Int32) (tpd : Int32) (frs : Int32) (frt : Int32) (tgr : Bool) (lvs : Int32) (its : Int32) (hgh : Int64) (loo : Int64) (dfl : Bool) (top : Int32) (bgn : Int32) (mst : Int32) (ovr : Bool) (st : Nat → Int32) : va_W := [(aM, .inr (11, [.int thr, .ref aMst, .int tpd, .ref aMdcs, .ref aMtot, .ref aMfrm, .ref aMsiz, .int frs, .int frt, .ref aMffr, .ref aMfsz, .int top, .int bgn, .int mst, .int (b2i ovr), .int (b2i tgr), .int lvs, .ref aMlkd, .ref aMlat, .ref aMkkd, .ref aMkat, .ref aModr, .ref aMgrp, .int its, .ref aMikd, .ref aMiat, .long hgh, .long loo, .int (b2i dfl)])), (aMst, .inl (cI, 136400, .inl st))]
set_option maxHeartbeats 4000000 in
set_option maxRecDepth 100000 in
theorem c_MO_beginDocument (l : Launch) (D : va_G) (cB cI : ClassId) (aM aMst aMdcs aMtot aMfrm aMsiz aMffr aMfsz aMlkd aMlat aMkkd aMkat aModr aMgrp aMikd aMiat : Nat) (fu : Nat) (thr : Int32) (tpd : Int32) (frs : Int32) (frt : Int32) (tgr : Bool) (lvs : Int32) (its : Int32) (hgh : Int64) (loo : Int64) (dfl : Bool) (sz : Nat) (top : Int32) (bgn : Int32) (mst : Int32) (ovr : Bool) (st : Nat → Int32) (V0 : Int32 × Int32 × Int32 × Int32 × Bool × (Nat → Int32)) (hs : tw_MO_beginDocument fu tgr top bgn mst ovr st = some V0) : Met l y_MO_beginDocument mw_MO_beginDocument { frames := 3, cells := 0, slots := 0, locals := 65 } (va_Pc [.ref aM] (mt_P D cB cI (wd_MO_beginDocument aM aMst aMdcs aMtot aMfrm aMsiz aMffr aMfsz aMlkd aMlat aMkkd aMkat aModr aMgrp aMikd aMiat cB cI thr tpd frs frt tgr lvs its hgh loo dfl top bgn mst ovr st) sz)) (va_Qi (fun (r : Int32) (u : Int32 × Int32 × Int32 × Bool × (Nat → Int32)) => (r, u) = V0) (mt_B D (va_A (wd_MO_beginDocument aM aMst aMdcs aMtot aMfrm aMsiz aMffr aMfsz aMlkd aMlat aMkkd aMkat aModr aMgrp aMikd aMiat cB cI thr tpd frs frt tgr lvs its hgh loo dfl top bgn mst ovr st) sz) (fun u => wd_MO_beginDocument aM aMst aMdcs aMtot aMfrm aMsiz aMffr aMfsz aMlkd aMlat aMkkd aMkat aModr aMgrp aMikd aMiat cB cI thr tpd frs frt tgr lvs its hgh loo dfl u.1 u.2.1 u.2.2.1 u.2.2.2.1 u.2.2.2.2)) (va_A (wd_MO_beginDocument aM aMst aMdcs aMtot aMfrm aMsiz aMffr aMfsz aMlkd aMlat aMkkd aMkat aModr aMgrp aMikd aMiat cB cI thr tpd frs frt tgr lvs its hgh loo dfl top bgn mst ovr st) sz)) 0 0 (va_A (wd_MO_beginDocument aM aMst aMdcs aMtot aMfrm aMsiz aMffr aMfsz aMlkd aMlat aMkkd aMkat aModr aMgrp aMikd aMiat cB cI thr tpd frs frt tgr lvs its hgh loo dfl top bgn mst ovr st) sz) := by
  refine Met.ofW (cc := b_MO_beginDocument) (maxL := 2) (ret := (some .int)) (by decide) rfl ?_
  intro p e s m args below meth c s₁ B0 hml hv
  obtain ⟨rfl, hsz, hP, hk, hD0⟩ := hv
  have hK := hk.1
  have hN := hk.2.1
  have hx := B0.exec
  have hb := B0.bytes
  have hr := B0.returns
  have hT : ∀ w ∈ lw_g, w.before _ s = true := fun w h => atoms_spec (ws := mw_MO_beginDocument) B0.pre w (List.mem_cons_of_mem _ h)
  have hown : s.vm.findClass R_MO = some m.cls := findClass_of_methodNamed B0.named
  have hlocks := B0.notSynchronized
  subst hsz
  have hD := hD0.self (sz := s.heap.size)
  generalize hAe : va_A [(aM, .inr (11, [.int thr, .ref aMst, .int tpd, .ref aMdcs, .ref aMtot, .ref aMfrm, .ref aMsiz, .int frs, .int frt, .ref aMffr, .ref aMfsz, .int top, .int bgn, .int mst, .int (b2i ovr), .int (b2i tgr), .int lvs, .ref aMlkd, .ref aMlat, .ref aMkkd, .ref aMkat, .ref aModr, .ref aMgrp, .int its, .ref aMikd, .ref aMiat, .long hgh, .long loo, .int (b2i dfl)])), (aMst, .inl (cI, 136400, .inl st))] s.heap.size = A at hD ⊢
  have hA : ∀ q : Nat, s.heap.size ≤ q → A q := fun q h => by rw [← hAe]; exact Or.inr h
  have hS : va_S A s.heap s.heap [] := va_S.rf
  have hl := lv_entry ([.ref aM]) (n := 2) (Nat.le_of_ble_eq_true rfl)
  rw [lg_entry_eq]
  generalize (lg_sl ([.ref aM]) ++ List.replicate (2 - (lg_sl ([.ref aM])).length) Slot.unset).toArray = ls at hl ⊢
  have hl : lv_has ls 2 [(0, .ref aM)] := hl
  refine lv_aload_n hx hb d_MO_beginDocument_0 rfl (lv_at hl 0 rfl) ?_
  refine va_get (D := D) (ci := 11) (v := .int (b2i tgr)) (C := R_MO) (T := T_MO) (N := 29) hx hb hT u_MO hown hK hP 0 rfl rfl 15 (by decide) (hT _ k_1058) (fun _ h9 => h9) rfl d_MO_beginDocument_1 ?_
  refine lv_if_eq (tgt := 13) hx hb d_MO_beginDocument_4 (by decide) (fun c_1 => ?_) (fun c_1 => ?_)
  · refine lv_aload_n hx hb d_MO_beginDocument_13 rfl (lv_at hl 0 rfl) ?_
    refine va_get (D := D) (ci := 11) (v := .int top) (C := R_MO) (T := T_MO) (N := 29) hx hb hT u_MO hown hK hP 0 rfl rfl 11 (by decide) (hT _ k_1054) (fun _ h9 => h9) rfl d_MO_beginDocument_14 ?_
    refine lv_istore_n (lv' := [(1, .int top), (0, .ref aM)]) hx hb d_MO_beginDocument_17 rfl hl (by decide) rfl (fun ls hl => ?_)
    refine lv_aload_n hx hb d_MO_beginDocument_18 rfl (lv_at hl 1 rfl) ?_
    refine lv_iload_n hx hb d_MO_beginDocument_19 rfl (lv_at hl 0 rfl) ?_
    refine lv_sipush (v := 2001) hx hb d_MO_beginDocument_20 (by decide) ?_
    rcases h_2 : tw_MO_beginValue fu top bgn mst ovr top 2001 with _ | w_2
    · exact op_no hs (by rw [tw_MO_beginDocument, if_pos c_1, h_2, ob4_no])
    refine mt_Vv (As := [.int top, .int 2001]) (rest := []) (wr := [(aMst, .inl (cI, 136400, .inl st))]) ⟨hx, hb, hml, hown, hT⟩ (c_MO_beginValue l D cB cI aM aMst aMdcs aMtot aMfrm aMsiz aMffr aMfsz aMlkd aMlat aMkkd aMkat aModr aMgrp aMikd aMiat fu thr tpd frs frt tgr lvs its hgh loo dfl _ top bgn mst ovr top 2001 w_2 h_2) (cwV 2 hT (gV_of k_1314 k_1316 kp_MO_beginValue k_12 kc_MO_beginValue) rfl rfl rfl hd_MO_beginValue ⟨Nat.le_of_ble_eq_true rfl, Nat.le_of_ble_eq_true rfl⟩) hk hP hD hS hA [0] [1] rfl rfl rfl (by decide) (by decide) (by decide) (q0 := 0) rfl rfl rfl rfl hl.1 rfl (Nat.le_of_ble_eq_true rfl) d_MO_beginDocument_23 ⟨Nat.zero_le _, Nat.zero_le _⟩ (fun u_2 H locs hw_2 hP hD hS => ?_)
    subst hw_2
    obtain ⟨top_2, bgn_2, mst_2, ovr_2⟩ := u_2
    have hP : va_P D vwCl [(aM, .inr (11, [.int thr, .ref aMst, .int tpd, .ref aMdcs, .ref aMtot, .ref aMfrm, .ref aMsiz, .int frs, .int frt, .ref aMffr, .ref aMfsz, .int top_2, .int bgn_2, .int mst_2, .int (b2i ovr_2), .int (b2i tgr), .int lvs, .ref aMlkd, .ref aMlat, .ref aMkkd, .ref aMkat, .ref aModr, .ref aMgrp, .int its, .ref aMikd, .ref aMiat, .long hgh, .long loo, .int (b2i dfl)])), (aMst, .inl (cI, 136400, .inl st))] H := hP.sub [1, 0] rfl
    have hD : va_D A [(aM, .inr (11, [.int thr, .ref aMst, .int tpd, .ref aMdcs, .ref aMtot, .ref aMfrm, .ref aMsiz, .int frs, .int frt, .ref aMffr, .ref aMfsz, .int top_2, .int bgn_2, .int mst_2, .int (b2i ovr_2), .int (b2i tgr), .int lvs, .ref aMlkd, .ref aMlat, .ref aMkkd, .ref aMkat, .ref aModr, .ref aMgrp, .int its, .ref aMikd, .ref aMiat, .long hgh, .long loo, .int (b2i dfl)])), (aMst, .inl (cI, 136400, .inl st))] := hD.sub [1, 0] (by decide) rfl
    refine lv_aload_n hx hb d_MO_beginDocument_26 rfl (lv_at hl 1 rfl) ?_
    rcases h_3 : tw_MO_open fu bgn_2 mst_2 top_2 ovr_2 st with _ | w_3
    · exact op_no hs (by rw [tw_MO_beginDocument, if_pos c_1, h_2, ob4_mk, h_3, ob4_no])
    refine mt_Vi (As := []) (rest := []) (wr := []) ⟨hx, hb, hml, hown, hT⟩ (c_MO_open l D cB cI aM aMst aMdcs aMtot aMfrm aMsiz aMffr aMfsz aMlkd aMlat aMkkd aMkat aModr aMgrp aMikd aMiat fu thr tpd frs frt bgn_2 mst_2 tgr lvs its hgh loo dfl _ top_2 ovr_2 st w_3 h_3) (cwV 0 hT (gV_of k_1318 k_1320 kp_MO_open k_12 kc_MO_open) rfl rfl rfl hd_MO_open ⟨Nat.le_of_ble_eq_true rfl, Nat.le_of_ble_eq_true rfl⟩) hk hP hD hS hA [0, 1] [] rfl rfl rfl (by decide) (by decide) (by decide) (q0 := 0) rfl rfl rfl rfl hl.1 rfl (Nat.le_of_ble_eq_true rfl) d_MO_beginDocument_27 ⟨Nat.zero_le _, Nat.zero_le _⟩ (fun r_3 u_3 H locs hw_3 hP hD hS => ?_)
    subst hw_3
    obtain ⟨top_3, ovr_3, st_3⟩ := u_3
    have hP : va_P D vwCl [(aM, .inr (11, [.int thr, .ref aMst, .int tpd, .ref aMdcs, .ref aMtot, .ref aMfrm, .ref aMsiz, .int frs, .int frt, .ref aMffr, .ref aMfsz, .int top_3, .int bgn_2, .int mst_2, .int (b2i ovr_3), .int (b2i tgr), .int lvs, .ref aMlkd, .ref aMlat, .ref aMkkd, .ref aMkat, .ref aModr, .ref aMgrp, .int its, .ref aMikd, .ref aMiat, .long hgh, .long loo, .int (b2i dfl)])), (aMst, .inl (cI, 136400, .inl st_3))] H := hP.sub [0, 1] rfl
    have hD : va_D A [(aM, .inr (11, [.int thr, .ref aMst, .int tpd, .ref aMdcs, .ref aMtot, .ref aMfrm, .ref aMsiz, .int frs, .int frt, .ref aMffr, .ref aMfsz, .int top_3, .int bgn_2, .int mst_2, .int (b2i ovr_3), .int (b2i tgr), .int lvs, .ref aMlkd, .ref aMlat, .ref aMkkd, .ref aMkat, .ref aModr, .ref aMgrp, .int its, .ref aMikd, .ref aMiat, .long hgh, .long loo, .int (b2i dfl)])), (aMst, .inl (cI, 136400, .inl st_3))] := hD.sub [0, 1] (by decide) rfl
    exact W.iret (v := r_3) hx hb hr (fun t ht hW => ⟨⟨r_3, (top_3, bgn_2, mst_2, ovr_3, st_3), rfl, (op_eq hs (by rw [tw_MO_beginDocument, if_pos c_1, h_2, ob4_mk, h_3, ob4_mk])), by rw [ht]; exact hP, hD⟩, hS.F ht⟩) hS.2.2 d_MO_beginDocument_30
  · refine lv_aload_n hx hb d_MO_beginDocument_7 rfl (lv_at hl 0 rfl) ?_
    refine lv_ldc (v := 80000) hx hb hown (hT _ k_1305) d_MO_beginDocument_8 ?_
    refine va_put (D := D) (ci := 11) (v := .int 80000) (ty := .int) (C := R_MO) (T := T_MO) (N := 29) hx hb hT u_MO ty_MO tyok_MO nm_MO hown hK hP hD hS 0 rfl rfl 11 (by decide) (hT _ k_1054) (fun _ h9 => h9) rfl (by decide +kernel) (rfl) (rfl) (Nat.le_of_ble_eq_true rfl) d_MO_beginDocument_10 (fun H locs hP hD hS => ?_)
    have hP : va_P D vwCl [(aM, .inr (11, [.int thr, .ref aMst, .int tpd, .ref aMdcs, .ref aMtot, .ref aMfrm, .ref aMsiz, .int frs, .int frt, .ref aMffr, .ref aMfsz, .int 80000, .int bgn, .int mst, .int (b2i ovr), .int (b2i tgr), .int lvs, .ref aMlkd, .ref aMlat, .ref aMkkd, .ref aMkat, .ref aModr, .ref aMgrp, .int its, .ref aMikd, .ref aMiat, .long hgh, .long loo, .int (b2i dfl)])), (aMst, .inl (cI, 136400, .inl st))] H := hP
    have hD : va_D A [(aM, .inr (11, [.int thr, .ref aMst, .int tpd, .ref aMdcs, .ref aMtot, .ref aMfrm, .ref aMsiz, .int frs, .int frt, .ref aMffr, .ref aMfsz, .int 80000, .int bgn, .int mst, .int (b2i ovr), .int (b2i tgr), .int lvs, .ref aMlkd, .ref aMlat, .ref aMkkd, .ref aMkat, .ref aModr, .ref aMgrp, .int its, .ref aMikd, .ref aMiat, .long hgh, .long loo, .int (b2i dfl)])), (aMst, .inl (cI, 136400, .inl st))] := hD
    refine lv_aload_n hx hb d_MO_beginDocument_13 rfl (lv_at hl 0 rfl) ?_
    refine va_get (D := D) (ci := 11) (v := .int 80000) (C := R_MO) (T := T_MO) (N := 29) hx hb hT u_MO hown hK hP 0 rfl rfl 11 (by decide) (hT _ k_1054) (fun _ h9 => h9) rfl d_MO_beginDocument_14 ?_
    refine lv_istore_n (lv' := [(1, .int 80000), (0, .ref aM)]) hx hb d_MO_beginDocument_17 rfl hl (by decide) rfl (fun ls hl => ?_)
    refine lv_aload_n hx hb d_MO_beginDocument_18 rfl (lv_at hl 1 rfl) ?_
    refine lv_iload_n hx hb d_MO_beginDocument_19 rfl (lv_at hl 0 rfl) ?_
    refine lv_sipush (v := 2001) hx hb d_MO_beginDocument_20 (by decide) ?_
    rcases h_4 : tw_MO_beginValue fu 80000 bgn mst ovr 80000 2001 with _ | w_4
    · exact op_no hs (by rw [tw_MO_beginDocument, if_neg c_1, h_4, ob4_no])
    refine mt_Vv (As := [.int 80000, .int 2001]) (rest := []) (wr := [(aMst, .inl (cI, 136400, .inl st))]) ⟨hx, hb, hml, hown, hT⟩ (c_MO_beginValue l D cB cI aM aMst aMdcs aMtot aMfrm aMsiz aMffr aMfsz aMlkd aMlat aMkkd aMkat aModr aMgrp aMikd aMiat fu thr tpd frs frt tgr lvs its hgh loo dfl _ 80000 bgn mst ovr 80000 2001 w_4 h_4) (cwV 2 hT (gV_of k_1314 k_1316 kp_MO_beginValue k_12 kc_MO_beginValue) rfl rfl rfl hd_MO_beginValue ⟨Nat.le_of_ble_eq_true rfl, Nat.le_of_ble_eq_true rfl⟩) hk hP hD hS hA [0] [1] rfl rfl rfl (by decide) (by decide) (by decide) (q0 := 0) rfl rfl rfl rfl hl.1 rfl (Nat.le_of_ble_eq_true rfl) d_MO_beginDocument_23 ⟨Nat.zero_le _, Nat.zero_le _⟩ (fun u_4 H locs hw_4 hP hD hS => ?_)
    subst hw_4
    obtain ⟨top_4, bgn_4, mst_4, ovr_4⟩ := u_4
    have hP : va_P D vwCl [(aM, .inr (11, [.int thr, .ref aMst, .int tpd, .ref aMdcs, .ref aMtot, .ref aMfrm, .ref aMsiz, .int frs, .int frt, .ref aMffr, .ref aMfsz, .int top_4, .int bgn_4, .int mst_4, .int (b2i ovr_4), .int (b2i tgr), .int lvs, .ref aMlkd, .ref aMlat, .ref aMkkd, .ref aMkat, .ref aModr, .ref aMgrp, .int its, .ref aMikd, .ref aMiat, .long hgh, .long loo, .int (b2i dfl)])), (aMst, .inl (cI, 136400, .inl st))] H := hP.sub [1, 0] rfl
    have hD : va_D A [(aM, .inr (11, [.int thr, .ref aMst, .int tpd, .ref aMdcs, .ref aMtot, .ref aMfrm, .ref aMsiz, .int frs, .int frt, .ref aMffr, .ref aMfsz, .int top_4, .int bgn_4, .int mst_4, .int (b2i ovr_4), .int (b2i tgr), .int lvs, .ref aMlkd, .ref aMlat, .ref aMkkd, .ref aMkat, .ref aModr, .ref aMgrp, .int its, .ref aMikd, .ref aMiat, .long hgh, .long loo, .int (b2i dfl)])), (aMst, .inl (cI, 136400, .inl st))] := hD.sub [1, 0] (by decide) rfl
    refine lv_aload_n hx hb d_MO_beginDocument_26 rfl (lv_at hl 1 rfl) ?_
    rcases h_5 : tw_MO_open fu bgn_4 mst_4 top_4 ovr_4 st with _ | w_5
    · exact op_no hs (by rw [tw_MO_beginDocument, if_neg c_1, h_4, ob4_mk, h_5, ob4_no])
    refine mt_Vi (As := []) (rest := []) (wr := []) ⟨hx, hb, hml, hown, hT⟩ (c_MO_open l D cB cI aM aMst aMdcs aMtot aMfrm aMsiz aMffr aMfsz aMlkd aMlat aMkkd aMkat aModr aMgrp aMikd aMiat fu thr tpd frs frt bgn_4 mst_4 tgr lvs its hgh loo dfl _ top_4 ovr_4 st w_5 h_5) (cwV 0 hT (gV_of k_1318 k_1320 kp_MO_open k_12 kc_MO_open) rfl rfl rfl hd_MO_open ⟨Nat.le_of_ble_eq_true rfl, Nat.le_of_ble_eq_true rfl⟩) hk hP hD hS hA [0, 1] [] rfl rfl rfl (by decide) (by decide) (by decide) (q0 := 0) rfl rfl rfl rfl hl.1 rfl (Nat.le_of_ble_eq_true rfl) d_MO_beginDocument_27 ⟨Nat.zero_le _, Nat.zero_le _⟩ (fun r_5 u_5 H locs hw_5 hP hD hS => ?_)
    subst hw_5
    obtain ⟨top_5, ovr_5, st_5⟩ := u_5
    have hP : va_P D vwCl [(aM, .inr (11, [.int thr, .ref aMst, .int tpd, .ref aMdcs, .ref aMtot, .ref aMfrm, .ref aMsiz, .int frs, .int frt, .ref aMffr, .ref aMfsz, .int top_5, .int bgn_4, .int mst_4, .int (b2i ovr_5), .int (b2i tgr), .int lvs, .ref aMlkd, .ref aMlat, .ref aMkkd, .ref aMkat, .ref aModr, .ref aMgrp, .int its, .ref aMikd, .ref aMiat, .long hgh, .long loo, .int (b2i dfl)])), (aMst, .inl (cI, 136400, .inl st_5))] H := hP.sub [0, 1] rfl
    have hD : va_D A [(aM, .inr (11, [.int thr, .ref aMst, .int tpd, .ref aMdcs, .ref aMtot, .ref aMfrm, .ref aMsiz, .int frs, .int frt, .ref aMffr, .ref aMfsz, .int top_5, .int bgn_4, .int mst_4, .int (b2i ovr_5), .int (b2i tgr), .int lvs, .ref aMlkd, .ref aMlat, .ref aMkkd, .ref aMkat, .ref aModr, .ref aMgrp, .int its, .ref aMikd, .ref aMiat, .long hgh, .long loo, .int (b2i dfl)])), (aMst, .inl (cI, 136400, .inl st_5))] := hD.sub [0, 1] (by decide) rfl
    exact W.iret (v := r_5) hx hb hr (fun t ht hW => ⟨⟨r_5, (top_5, bgn_4, mst_4, ovr_5, st_5), rfl, (op_eq hs (by rw [tw_MO_beginDocument, if_neg c_1, h_4, ob4_mk, h_5, ob4_mk])), by rw [ht]; exact hP, hD⟩, hS.F ht⟩) hS.2.2 d_MO_beginDocument_30
abbrev wd_MO_resume (aM aMst aMdcs aMtot aMfrm aMsiz aMffr aMfsz aMlkd aMlat aMkkd aMkat aModr aMgrp aMikd aMiat : Nat) (cB cI : ClassId) (thr : Int32) (tpd : Int32) (frs : Int32) (frt : Int32) (tgr : Bool) (lvs : Int32) (its : Int32) (hgh : Int64) (loo : Int64) (dfl : Bool) (top : Int32) (bgn : Int32) (mst : Int32) (ovr : Bool) : va_W := [(aM, .inr (11, [.int thr, .ref aMst, .int tpd, .ref aMdcs, .ref aMtot, .ref aMfrm, .ref aMsiz, .int frs, .int frt, .ref aMffr, .ref aMfsz, .int top, .int bgn, .int mst, .int (b2i ovr), .int (b2i tgr), .int lvs, .ref aMlkd, .ref aMlat, .ref aMkkd, .ref aMkat, .ref aModr, .ref aMgrp, .int its, .ref aMikd, .ref aMiat, .long hgh, .long loo, .int (b2i dfl)]))]
set_option maxHeartbeats 4000000 in
set_option maxRecDepth 100000 in
theorem c_MO_resume (l : Launch) (D : va_G) (cB cI : ClassId) (aM aMst aMdcs aMtot aMfrm aMsiz aMffr aMfsz aMlkd aMlat aMkkd aMkat aModr aMgrp aMikd aMiat : Nat) (fu : Nat) (thr : Int32) (tpd : Int32) (frs : Int32) (frt : Int32) (tgr : Bool) (lvs : Int32) (its : Int32) (hgh : Int64) (loo : Int64) (dfl : Bool) (sz : Nat) (top : Int32) (bgn : Int32) (mst : Int32) (ovr : Bool) (p0 : Int32) (p1 : Int32) (V0 : Int32 × Int32 × Int32 × Bool) (hs : tw_MO_resume fu dfl top bgn mst ovr p0 p1 = some V0) : Met l y_MO_resume mw_MO_resume { frames := 0, cells := 0, slots := 0, locals := 0 } (va_Pc [.ref aM, .int p0, .int p1] (mt_P D cB cI (wd_MO_resume aM aMst aMdcs aMtot aMfrm aMsiz aMffr aMfsz aMlkd aMlat aMkkd aMkat aModr aMgrp aMikd aMiat cB cI thr tpd frs frt tgr lvs its hgh loo dfl top bgn mst ovr) sz)) (va_Qv (fun (u : Int32 × Int32 × Int32 × Bool) => u = V0) (mt_B D (va_A (wd_MO_resume aM aMst aMdcs aMtot aMfrm aMsiz aMffr aMfsz aMlkd aMlat aMkkd aMkat aModr aMgrp aMikd aMiat cB cI thr tpd frs frt tgr lvs its hgh loo dfl top bgn mst ovr) sz) (fun u => wd_MO_resume aM aMst aMdcs aMtot aMfrm aMsiz aMffr aMfsz aMlkd aMlat aMkkd aMkat aModr aMgrp aMikd aMiat cB cI thr tpd frs frt tgr lvs its hgh loo dfl u.1 u.2.1 u.2.2.1 u.2.2.2)) (va_A (wd_MO_resume aM aMst aMdcs aMtot aMfrm aMsiz aMffr aMfsz aMlkd aMlat aMkkd aMkat aModr aMgrp aMikd aMiat cB cI thr tpd frs frt tgr lvs its hgh loo dfl top bgn mst ovr) sz)) 0 0 (va_A (wd_MO_resume aM aMst aMdcs aMtot aMfrm aMsiz aMffr aMfsz aMlkd aMlat aMkkd aMkat aModr aMgrp aMikd aMiat cB cI thr tpd frs frt tgr lvs its hgh loo dfl top bgn mst ovr) sz) := by
  refine Met.ofW (cc := b_MO_resume) (maxL := 4) (ret := none) (by decide) rfl ?_
  intro p e s m args below meth c s₁ B0 hml hv
  obtain ⟨rfl, hsz, hP, hk, hD0⟩ := hv
  have hK := hk.1
  have hN := hk.2.1
  have hx := B0.exec
  have hb := B0.bytes
  have hr := B0.returns
  have hT : ∀ w ∈ lw_g, w.before _ s = true := fun w h => atoms_spec (ws := mw_MO_resume) B0.pre w (List.mem_cons_of_mem _ h)
  have hown : s.vm.findClass R_MO = some m.cls := findClass_of_methodNamed B0.named
  have hlocks := B0.notSynchronized
  subst hsz
  have hD := hD0.self (sz := s.heap.size)
  generalize hAe : va_A [(aM, .inr (11, [.int thr, .ref aMst, .int tpd, .ref aMdcs, .ref aMtot, .ref aMfrm, .ref aMsiz, .int frs, .int frt, .ref aMffr, .ref aMfsz, .int top, .int bgn, .int mst, .int (b2i ovr), .int (b2i tgr), .int lvs, .ref aMlkd, .ref aMlat, .ref aMkkd, .ref aMkat, .ref aModr, .ref aMgrp, .int its, .ref aMikd, .ref aMiat, .long hgh, .long loo, .int (b2i dfl)]))] s.heap.size = A at hD ⊢
  have hA : ∀ q : Nat, s.heap.size ≤ q → A q := fun q h => by rw [← hAe]; exact Or.inr h
  have hS : va_S A s.heap s.heap [] := va_S.rf
  have hl := lv_entry ([.ref aM, .int p0, .int p1]) (n := 4) (Nat.le_of_ble_eq_true rfl)
  rw [lg_entry_eq]
  generalize (lg_sl ([.ref aM, .int p0, .int p1]) ++ List.replicate (4 - (lg_sl ([.ref aM, .int p0, .int p1])).length) Slot.unset).toArray = ls at hl ⊢
  have hl : lv_has ls 4 [(0, .ref aM), (1, .int p0), (2, .int p1)] := hl
  refine lv_aload_n hx hb d_MO_resume_0 rfl (lv_at hl 0 rfl) ?_
  refine va_get (D := D) (ci := 11) (v := .int (b2i dfl)) (C := R_MO) (T := T_MO) (N := 29) hx hb hT u_MO hown hK hP 0 rfl rfl 28 (by decide) (hT _ k_1071) (fun _ h9 => h9) rfl d_MO_resume_1 ?_
  refine lv_istore_n (lv' := [(3, .int (b2i dfl)), (0, .ref aM), (1, .int p0), (2, .int p1)]) hx hb d_MO_resume_4 rfl hl (by decide) rfl (fun ls hl => ?_)
  refine lv_aload_n hx hb d_MO_resume_5 rfl (lv_at hl 1 rfl) ?_
  refine lv_iload_n hx hb d_MO_resume_6 rfl (lv_at hl 3 rfl) ?_
  refine va_put (D := D) (ci := 11) (v := .int p1) (ty := .int) (C := R_MO) (T := T_MO) (N := 29) hx hb hT u_MO ty_MO tyok_MO nm_MO hown hK hP hD hS 0 rfl rfl 11 (by decide) (hT _ k_1054) (fun _ h9 => h9) rfl (by decide +kernel) (rfl) (rfl) (Nat.le_of_ble_eq_true rfl) d_MO_resume_7 (fun H locs hP hD hS => ?_)
  have hP : va_P D vwCl [(aM, .inr (11, [.int thr, .ref aMst, .int tpd, .ref aMdcs, .ref aMtot, .ref aMfrm, .ref aMsiz, .int frs, .int frt, .ref aMffr, .ref aMfsz, .int p1, .int bgn, .int mst, .int (b2i ovr), .int (b2i tgr), .int lvs, .ref aMlkd, .ref aMlat, .ref aMkkd, .ref aMkat, .ref aModr, .ref aMgrp, .int its, .ref aMikd, .ref aMiat, .long hgh, .long loo, .int (b2i dfl)]))] H := hP
  have hD : va_D A [(aM, .inr (11, [.int thr, .ref aMst, .int tpd, .ref aMdcs, .ref aMtot, .ref aMfrm, .ref aMsiz, .int frs, .int frt, .ref aMffr, .ref aMfsz, .int p1, .int bgn, .int mst, .int (b2i ovr), .int (b2i tgr), .int lvs, .ref aMlkd, .ref aMlat, .ref aMkkd, .ref aMkat, .ref aModr, .ref aMgrp, .int its, .ref aMikd, .ref aMiat, .long hgh, .long loo, .int (b2i dfl)]))] := hD
  refine lv_aload_n hx hb d_MO_resume_10 rfl (lv_at hl 1 rfl) ?_
  refine lv_iload_n hx hb d_MO_resume_11 rfl (lv_at hl 2 rfl) ?_
  refine va_put (D := D) (ci := 11) (v := .int p0) (ty := .int) (C := R_MO) (T := T_MO) (N := 29) hx hb hT u_MO ty_MO tyok_MO nm_MO hown hK hP hD hS 0 rfl rfl 12 (by decide) (hT _ k_1055) (fun _ h9 => h9) rfl (by decide +kernel) (rfl) (rfl) (Nat.le_of_ble_eq_true rfl) d_MO_resume_12 (fun H locs hP hD hS => ?_)
  have hP : va_P D vwCl [(aM, .inr (11, [.int thr, .ref aMst, .int tpd, .ref aMdcs, .ref aMtot, .ref aMfrm, .ref aMsiz, .int frs, .int frt, .ref aMffr, .ref aMfsz, .int p1, .int p0, .int mst, .int (b2i ovr), .int (b2i tgr), .int lvs, .ref aMlkd, .ref aMlat, .ref aMkkd, .ref aMkat, .ref aModr, .ref aMgrp, .int its, .ref aMikd, .ref aMiat, .long hgh, .long loo, .int (b2i dfl)]))] H := hP
  have hD : va_D A [(aM, .inr (11, [.int thr, .ref aMst, .int tpd, .ref aMdcs, .ref aMtot, .ref aMfrm, .ref aMsiz, .int frs, .int frt, .ref aMffr, .ref aMfsz, .int p1, .int p0, .int mst, .int (b2i ovr), .int (b2i tgr), .int lvs, .ref aMlkd, .ref aMlat, .ref aMkkd, .ref aMkat, .ref aModr, .ref aMgrp, .int its, .ref aMikd, .ref aMiat, .long hgh, .long loo, .int (b2i dfl)]))] := hD
  refine lv_aload_n hx hb d_MO_resume_15 rfl (lv_at hl 1 rfl) ?_
  refine lv_sipush (v := 2001) hx hb d_MO_resume_16 (by decide) ?_
  refine va_put (D := D) (ci := 11) (v := .int 2001) (ty := .int) (C := R_MO) (T := T_MO) (N := 29) hx hb hT u_MO ty_MO tyok_MO nm_MO hown hK hP hD hS 0 rfl rfl 13 (by decide) (hT _ k_1056) (fun _ h9 => h9) rfl (by decide +kernel) (rfl) (rfl) (Nat.le_of_ble_eq_true rfl) d_MO_resume_19 (fun H locs hP hD hS => ?_)
  have hP : va_P D vwCl [(aM, .inr (11, [.int thr, .ref aMst, .int tpd, .ref aMdcs, .ref aMtot, .ref aMfrm, .ref aMsiz, .int frs, .int frt, .ref aMffr, .ref aMfsz, .int p1, .int p0, .int 2001, .int (b2i ovr), .int (b2i tgr), .int lvs, .ref aMlkd, .ref aMlat, .ref aMkkd, .ref aMkat, .ref aModr, .ref aMgrp, .int its, .ref aMikd, .ref aMiat, .long hgh, .long loo, .int (b2i dfl)]))] H := hP
  have hD : va_D A [(aM, .inr (11, [.int thr, .ref aMst, .int tpd, .ref aMdcs, .ref aMtot, .ref aMfrm, .ref aMsiz, .int frs, .int frt, .ref aMffr, .ref aMfsz, .int p1, .int p0, .int 2001, .int (b2i ovr), .int (b2i tgr), .int lvs, .ref aMlkd, .ref aMlat, .ref aMkkd, .ref aMkat, .ref aModr, .ref aMgrp, .int its, .ref aMikd, .ref aMiat, .long hgh, .long loo, .int (b2i dfl)]))] := hD
  refine lv_aload_n hx hb d_MO_resume_22 rfl (lv_at hl 1 rfl) ?_
  refine lv_iload_n hx hb d_MO_resume_23 rfl (lv_at hl 0 rfl) ?_
  refine va_put (D := D) (ci := 11) (v := .int (b2i dfl)) (ty := .boolean) (C := R_MO) (T := T_MO) (N := 29) hx hb hT u_MO ty_MO tyok_MO nm_MO hown hK hP hD hS 0 rfl rfl 14 (by decide) (hT _ k_1057) (fun _ h9 => h9) rfl (by decide +kernel) (b2i_nar _) (b2i_fit _) (Nat.le_of_ble_eq_true rfl) d_MO_resume_24 (fun H locs hP hD hS => ?_)
  have hP : va_P D vwCl [(aM, .inr (11, [.int thr, .ref aMst, .int tpd, .ref aMdcs, .ref aMtot, .ref aMfrm, .ref aMsiz, .int frs, .int frt, .ref aMffr, .ref aMfsz, .int p1, .int p0, .int 2001, .int (b2i dfl), .int (b2i tgr), .int lvs, .ref aMlkd, .ref aMlat, .ref aMkkd, .ref aMkat, .ref aModr, .ref aMgrp, .int its, .ref aMikd, .ref aMiat, .long hgh, .long loo, .int (b2i dfl)]))] H := hP
  have hD : va_D A [(aM, .inr (11, [.int thr, .ref aMst, .int tpd, .ref aMdcs, .ref aMtot, .ref aMfrm, .ref aMsiz, .int frs, .int frt, .ref aMffr, .ref aMfsz, .int p1, .int p0, .int 2001, .int (b2i dfl), .int (b2i tgr), .int lvs, .ref aMlkd, .ref aMlat, .ref aMkkd, .ref aMkat, .ref aModr, .ref aMgrp, .int its, .ref aMikd, .ref aMiat, .long hgh, .long loo, .int (b2i dfl)]))] := hD
  exact W.vret hx hb hr (fun t ht hW => ⟨⟨(p1, p0, 2001, dfl), rfl, (op_eq hs (by rw [tw_MO_resume])), by rw [ht]; exact hP, hD⟩, hS.F ht⟩) hS.2.2 d_MO_resume_27
abbrev wd_MO_take (aM aMst aMdcs aMtot aMfrm aMsiz aMffr aMfsz aMlkd aMlat aMkkd aMkat aModr aMgrp aMikd aMiat : Nat) (cB cI : ClassId) (thr : Int32) (frs : Int32) (frt : Int32) (top : Int32) (bgn : Int32) (mst : Int32) (ovr : Bool) (tgr : Bool) (lvs : Int32) (its : Int32) (hgh : Int64) (loo : Int64) (dfl : Bool) (tpd : Int32) (st : Nat → Int32) : va_W := [(aM, .inr (11, [.int thr, .ref aMst, .int tpd, .ref aMdcs, .ref aMtot, .ref aMfrm, .ref aMsiz, .int frs, .int frt, .ref aMffr, .ref aMfsz, .int top, .int bgn, .int mst, .int (b2i ovr), .int (b2i tgr), .int lvs, .ref aMlkd, .ref aMlat, .ref aMkkd, .ref aMkat, .ref aModr, .ref aMgrp, .int its, .ref aMikd, .ref aMiat, .long hgh, .long loo, .int (b2i dfl)])), (aMst, .inl (cI, 136400, .inl st))]
set_option maxHeartbeats 4000000 in
set_option maxRecDepth 100000 in
theorem l_MO_take_h3 {p : Program} {e : Env} {s : State} {m : MethodId} {args : Array Value} {below : List Frame} {meth : Method} {c : Code} {V : Option (Int32 × (Nat → Int32))} {V0 : Int32 × (Nat → Int32)} (C0 : lc_C p s m meth c args b_MO_take 3 none R_MO lw_g) (hs : V = some V0) (l : Launch) (D : va_G) (cB cI : ClassId) (aM aMst aMdcs aMtot aMfrm aMsiz aMffr aMfsz aMlkd aMlat aMkkd aMkat aModr aMgrp aMikd aMiat : Nat) (fu : Nat) (thr : Int32) (frs : Int32) (frt : Int32) (top : Int32) (bgn : Int32) (mst : Int32) (ovr : Bool) (tgr : Bool) (lvs : Int32) (its : Int32) (hgh : Int64) (loo : Int64) (dfl : Bool) {A : Nat → Prop} (hk : hk_ D cB cI s) (hA : ∀ q : Nat, s.heap.size ≤ q → A q) (p0 : Int32) {K : Int32 → Int32 → (Nat → Int32) → Option (Int32 × (Nat → Int32))} (hKx : ∀ (x2 : Int32) (tpd : Int32) (st : Nat → Int32), V = K x2 tpd st → ∀ (H : Heap) (locs : List Loc), va_P D vwCl [(aM, .inr (11, [.int thr, .ref aMst, .int tpd, .ref aMdcs, .ref aMtot, .ref aMfrm, .ref aMsiz, .int frs, .int frt, .ref aMffr, .ref aMfsz, .int top, .int bgn, .int mst, .int (b2i ovr), .int (b2i tgr), .int lvs, .ref aMlkd, .ref aMlat, .ref aMkkd, .ref aMkat, .ref aModr, .ref aMgrp, .int its, .ref aMikd, .ref aMiat, .long hgh, .long loo, .int (b2i dfl)])), (aMst, .inl (cI, 136400, .inl st))] H → va_D A [(aM, .inr (11, [.int thr, .ref aMst, .int tpd, .ref aMdcs, .ref aMtot, .ref aMfrm, .ref aMsiz, .int frs, .int frt, .ref aMffr, .ref aMfsz, .int top, .int bgn, .int mst, .int (b2i ovr), .int (b2i tgr), .int lvs, .ref aMlkd, .ref aMlat, .ref aMkkd, .ref aMkat, .ref aModr, .ref aMgrp, .int its, .ref aMikd, .ref aMiat, .long hgh, .long loo, .int (b2i dfl)])), (aMst, .inl (cI, 136400, .inl st))] → va_S A s.heap H locs → ∀ ls : Array Slot, lv_has ls 3 [] → W p l e ({ frames := 0, cells := 0, slots := 0, locals := 0 }) s m args below meth c H locs 0 0 (MQ below (va_Qv (fun (u : Int32 × (Nat → Int32)) => u = V0) (mt_B D A (fun u => wd_MO_take aM aMst aMdcs aMtot aMfrm aMsiz aMffr aMfsz aMlkd aMlat aMkkd aMkat aModr aMgrp aMikd aMiat cB cI thr frs frt top bgn mst ovr tgr lvs its hgh loo dfl u.1 u.2)) A) args s 0 0 A) (F0 m 42 ls [])) : ∀ (n : Nat) (x2 : Int32) (tpd : Int32) (st : Nat → Int32), V = tw_MO_take_h3 fu K p0 n x2 tpd st → ∀ (H : Heap) (locs : List Loc), va_P D vwCl [(aM, .inr (11, [.int thr, .ref aMst, .int tpd, .ref aMdcs, .ref aMtot, .ref aMfrm, .ref aMsiz, .int frs, .int frt, .ref aMffr, .ref aMfsz, .int top, .int bgn, .int mst, .int (b2i ovr), .int (b2i tgr), .int lvs, .ref aMlkd, .ref aMlat, .ref aMkkd, .ref aMkat, .ref aModr, .ref aMgrp, .int its, .ref aMikd, .ref aMiat, .long hgh, .long loo, .int (b2i dfl)])), (aMst, .inl (cI, 136400, .inl st))] H → va_D A [(aM, .inr (11, [.int thr, .ref aMst, .int tpd, .ref aMdcs, .ref aMtot, .ref aMfrm, .ref aMsiz, .int frs, .int frt, .ref aMffr, .ref aMfsz, .int top, .int bgn, .int mst, .int (b2i ovr), .int (b2i tgr), .int lvs, .ref aMlkd, .ref aMlat, .ref aMkkd, .ref aMkat, .ref aModr, .ref aMgrp, .int its, .ref aMikd, .ref aMiat, .long hgh, .long loo, .int (b2i dfl)])), (aMst, .inl (cI, 136400, .inl st))] → va_S A s.heap H locs → ∀ ls : Array Slot, lv_has ls 3 [(0, .ref aM), (1, .int p0), (2, .int x2)] → W p l e ({ frames := 0, cells := 0, slots := 0, locals := 0 }) s m args below meth c H locs 0 0 (MQ below (va_Qv (fun (u : Int32 × (Nat → Int32)) => u = V0) (mt_B D A (fun u => wd_MO_take aM aMst aMdcs aMtot aMfrm aMsiz aMffr aMfsz aMlkd aMlat aMkkd aMkat aModr aMgrp aMikd aMiat cB cI thr frs frt top bgn mst ovr tgr lvs its hgh loo dfl u.1 u.2)) A) args s 0 0 A) (F0 m 3 ls []) := by
  obtain ⟨hx, hb, hml, hr, hown, hlocks, hT⟩ := id C0
  have hK := hk.1
  have hN := hk.2.1
  intro n
  induction n with
  | zero =>
    intro x2 tpd st hV
    exact op_no hs (hV.trans rfl)
  | succ n ih =>
    intro x2 tpd st hV H locs hP hD hS ls hl
    refine lv_iload_n hx hb d_MO_take_3 rfl (lv_at hl 2 rfl) ?_
    refine lv_if_lt (tgt := 42) hx hb d_MO_take_4 (by decide) (fun c_1 => ?_) (fun c_1 => ?_)
    · exact hKx x2 tpd st (by rw [hV, tw_MO_take_h3, if_pos c_1]) _ _ hP hD hS ls (lv_sub hl [] rfl)
    · refine lv_aload_n hx hb d_MO_take_7 rfl (lv_at hl 0 rfl) ?_
      refine va_get (D := D) (ci := 11) (v := .ref aMst) (C := R_MO) (T := T_MO) (N := 29) hx hb hT u_MO hown hK hP 0 rfl rfl 1 (by decide) (hT _ k_1044) (fun _ h9 => h9) rfl d_MO_take_8 ?_
      refine lv_ldc (v := 132400) hx hb hown (hT _ k_1139) d_MO_take_11 ?_
      refine lv_aload_n hx hb d_MO_take_13 rfl (lv_at hl 0 rfl) ?_
      refine va_get (D := D) (ci := 11) (v := .int tpd) (C := R_MO) (T := T_MO) (N := 29) hx hb hT u_MO hown hK hP 0 rfl rfl 2 (by decide) (hT _ k_1045) (fun _ h9 => h9) rfl d_MO_take_14 ?_
      refine lv_iadd hx hb d_MO_take_17 ?_
      refine lv_iload_n hx hb d_MO_take_18 rfl (lv_at hl 1 rfl) ?_
      refine lv_iload_n hx hb d_MO_take_19 rfl (lv_at hl 2 rfl) ?_
      refine lv_ishr hx hb d_MO_take_20 ?_
      refine lv_sipush (v := 255) hx hb d_MO_take_21 (by decide) ?_
      refine lv_iand hx hb d_MO_take_24 ?_
      by_cases c_2 : 0 ≤ (132400 + tpd) ∧ (132400 + tpd) < 136400
      rotate_left
      · exact op_no hs (by rw [hV, tw_MO_take_h3, if_neg c_1, if_neg c_2])
      refine va_iast hx hb hK hP hD hS 1 1 rfl rfl (in_pp c_2.1 c_2.2 rfl) d_MO_take_25 (fun H locs hP hD hS => ?_)
      have hP : va_P D vwCl [(aM, .inr (11, [.int thr, .ref aMst, .int tpd, .ref aMdcs, .ref aMtot, .ref aMfrm, .ref aMsiz, .int frs, .int frt, .ref aMffr, .ref aMfsz, .int top, .int bgn, .int mst, .int (b2i ovr), .int (b2i tgr), .int lvs, .ref aMlkd, .ref aMlat, .ref aMkkd, .ref aMkat, .ref aModr, .ref aMgrp, .int its, .ref aMikd, .ref aMiat, .long hgh, .long loo, .int (b2i dfl)])), (aMst, .inl (cI, 136400, .inl (upd st (132400 + tpd).toNatClampNeg ((p0 >>> (x2 &&& 31)) &&& 255))))] H := hP
      have hD : va_D A [(aM, .inr (11, [.int thr, .ref aMst, .int tpd, .ref aMdcs, .ref aMtot, .ref aMfrm, .ref aMsiz, .int frs, .int frt, .ref aMffr, .ref aMfsz, .int top, .int bgn, .int mst, .int (b2i ovr), .int (b2i tgr), .int lvs, .ref aMlkd, .ref aMlat, .ref aMkkd, .ref aMkat, .ref aModr, .ref aMgrp, .int its, .ref aMikd, .ref aMiat, .long hgh, .long loo, .int (b2i dfl)])), (aMst, .inl (cI, 136400, .inl (upd st (132400 + tpd).toNatClampNeg ((p0 >>> (x2 &&& 31)) &&& 255))))] := hD
      refine lv_aload_n hx hb d_MO_take_26 rfl (lv_at hl 0 rfl) ?_
      refine lv_dup hx hb d_MO_take_27 rfl ?_
      refine va_get (D := D) (ci := 11) (v := .int tpd) (C := R_MO) (T := T_MO) (N := 29) hx hb hT u_MO hown hK hP 0 rfl rfl 2 (by decide) (hT _ k_1045) (fun _ h9 => h9) rfl d_MO_take_28 ?_
      refine lv_iconst (v := 1) hx hb d_MO_take_31 (by decide) ?_
      refine lv_iadd hx hb d_MO_take_32 ?_
      refine va_put (D := D) (ci := 11) (v := .int (tpd + 1)) (ty := .int) (C := R_MO) (T := T_MO) (N := 29) hx hb hT u_MO ty_MO tyok_MO nm_MO hown hK hP hD hS 0 rfl rfl 2 (by decide) (hT _ k_1045) (fun _ h9 => h9) rfl (by decide +kernel) (rfl) (rfl) (Nat.le_of_ble_eq_true rfl) d_MO_take_33 (fun H locs hP hD hS => ?_)
      have hP : va_P D vwCl [(aM, .inr (11, [.int thr, .ref aMst, .int (tpd + 1), .ref aMdcs, .ref aMtot, .ref aMfrm, .ref aMsiz, .int frs, .int frt, .ref aMffr, .ref aMfsz, .int top, .int bgn, .int mst, .int (b2i ovr), .int (b2i tgr), .int lvs, .ref aMlkd, .ref aMlat, .ref aMkkd, .ref aMkat, .ref aModr, .ref aMgrp, .int its, .ref aMikd, .ref aMiat, .long hgh, .long loo, .int (b2i dfl)])), (aMst, .inl (cI, 136400, .inl (upd st (132400 + tpd).toNatClampNeg ((p0 >>> (x2 &&& 31)) &&& 255))))] H := hP
      have hD : va_D A [(aM, .inr (11, [.int thr, .ref aMst, .int (tpd + 1), .ref aMdcs, .ref aMtot, .ref aMfrm, .ref aMsiz, .int frs, .int frt, .ref aMffr, .ref aMfsz, .int top, .int bgn, .int mst, .int (b2i ovr), .int (b2i tgr), .int lvs, .ref aMlkd, .ref aMlat, .ref aMkkd, .ref aMkat, .ref aModr, .ref aMgrp, .int its, .ref aMikd, .ref aMiat, .long hgh, .long loo, .int (b2i dfl)])), (aMst, .inl (cI, 136400, .inl (upd st (132400 + tpd).toNatClampNeg ((p0 >>> (x2 &&& 31)) &&& 255))))] := hD
      refine lv_iinc (v := x2 + (-8)) (lv' := [(2, .int (x2 + (-8))), (0, .ref aM), (1, .int p0)]) hx hb d_MO_take_36 hl (k := 2) rfl rfl (by decide) rfl (fun ls hl => ?_)
      refine lv_goto (tgt := 3) hx hb d_MO_take_39 (by decide) ?_
      exact ih (x2 + (-8)) (tpd + 1) (upd st (132400 + tpd).toNatClampNeg ((p0 >>> (x2 &&& 31)) &&& 255)) (by rw [hV, tw_MO_take_h3, if_neg c_1, if_pos c_2]) _ _ hP hD hS ls (lv_sub hl [1, 2, 0] rfl)
set_option maxHeartbeats 4000000 in
set_option maxRecDepth 100000 in
theorem c_MO_take (l : Launch) (D : va_G) (cB cI : ClassId) (aM aMst aMdcs aMtot aMfrm aMsiz aMffr aMfsz aMlkd aMlat aMkkd aMkat aModr aMgrp aMikd aMiat : Nat) (fu : Nat) (thr : Int32) (frs : Int32) (frt : Int32) (top : Int32) (bgn : Int32) (mst : Int32) (ovr : Bool) (tgr : Bool) (lvs : Int32) (its : Int32) (hgh : Int64) (loo : Int64) (dfl : Bool) (sz : Nat) (tpd : Int32) (st : Nat → Int32) (p0 : Int32) (V0 : Int32 × (Nat → Int32)) (hs : tw_MO_take fu tpd st p0 = some V0) : Met l y_MO_take mw_MO_take { frames := 0, cells := 0, slots := 0, locals := 0 } (va_Pc [.ref aM, .int p0] (mt_P D cB cI (wd_MO_take aM aMst aMdcs aMtot aMfrm aMsiz aMffr aMfsz aMlkd aMlat aMkkd aMkat aModr aMgrp aMikd aMiat cB cI thr frs frt top bgn mst ovr tgr lvs its hgh loo dfl tpd st) sz)) (va_Qv (fun (u : Int32 × (Nat → Int32)) => u = V0) (mt_B D (va_A (wd_MO_take aM aMst aMdcs aMtot aMfrm aMsiz aMffr aMfsz aMlkd aMlat aMkkd aMkat aModr aMgrp aMikd aMiat cB cI thr frs frt top bgn mst ovr tgr lvs its hgh loo dfl tpd st) sz) (fun u => wd_MO_take aM aMst aMdcs aMtot aMfrm aMsiz aMffr aMfsz aMlkd aMlat aMkkd aMkat aModr aMgrp aMikd aMiat cB cI thr frs frt top bgn mst ovr tgr lvs its hgh loo dfl u.1 u.2)) (va_A (wd_MO_take aM aMst aMdcs aMtot aMfrm aMsiz aMffr aMfsz aMlkd aMlat aMkkd aMkat aModr aMgrp aMikd aMiat cB cI thr frs frt top bgn mst ovr tgr lvs its hgh loo dfl tpd st) sz)) 0 0 (va_A (wd_MO_take aM aMst aMdcs aMtot aMfrm aMsiz aMffr aMfsz aMlkd aMlat aMkkd aMkat aModr aMgrp aMikd aMiat cB cI thr frs frt top bgn mst ovr tgr lvs its hgh loo dfl tpd st) sz) := by
  refine Met.ofW (cc := b_MO_take) (maxL := 3) (ret := none) (by decide) rfl ?_
  intro p e s m args below meth c s₁ B0 hml hv
  obtain ⟨rfl, hsz, hP, hk, hD0⟩ := hv
  have hK := hk.1
  have hN := hk.2.1
  have hx := B0.exec
  have hb := B0.bytes
  have hr := B0.returns
  have hT : ∀ w ∈ lw_g, w.before _ s = true := fun w h => atoms_spec (ws := mw_MO_take) B0.pre w (List.mem_cons_of_mem _ h)
  have hown : s.vm.findClass R_MO = some m.cls := findClass_of_methodNamed B0.named
  have hlocks := B0.notSynchronized
  subst hsz
  have hD := hD0.self (sz := s.heap.size)
  generalize hAe : va_A [(aM, .inr (11, [.int thr, .ref aMst, .int tpd, .ref aMdcs, .ref aMtot, .ref aMfrm, .ref aMsiz, .int frs, .int frt, .ref aMffr, .ref aMfsz, .int top, .int bgn, .int mst, .int (b2i ovr), .int (b2i tgr), .int lvs, .ref aMlkd, .ref aMlat, .ref aMkkd, .ref aMkat, .ref aModr, .ref aMgrp, .int its, .ref aMikd, .ref aMiat, .long hgh, .long loo, .int (b2i dfl)])), (aMst, .inl (cI, 136400, .inl st))] s.heap.size = A at hD ⊢
  have hA : ∀ q : Nat, s.heap.size ≤ q → A q := fun q h => by rw [← hAe]; exact Or.inr h
  have hS : va_S A s.heap s.heap [] := va_S.rf
  have hl := lv_entry ([.ref aM, .int p0]) (n := 3) (Nat.le_of_ble_eq_true rfl)
  rw [lg_entry_eq]
  generalize (lg_sl ([.ref aM, .int p0]) ++ List.replicate (3 - (lg_sl ([.ref aM, .int p0])).length) Slot.unset).toArray = ls at hl ⊢
  have hl : lv_has ls 3 [(0, .ref aM), (1, .int p0)] := hl
  have C0 : lc_C p s m meth c _ b_MO_take 3 none R_MO lw_g := ⟨hx, hb, hml, hr, hown, hlocks, hT⟩
  refine lv_bipush (v := 24) hx hb d_MO_take_0 (by decide) ?_
  refine lv_istore_n (lv' := [(2, .int 24), (0, .ref aM), (1, .int p0)]) hx hb d_MO_take_2 rfl hl (by decide) rfl (fun ls hl => ?_)
  refine l_MO_take_h3 C0 hs l D cB cI aM aMst aMdcs aMtot aMfrm aMsiz aMffr aMfsz aMlkd aMlat aMkkd aMkat aModr aMgrp aMikd aMiat fu thr frs frt top bgn mst ovr tgr lvs its hgh loo dfl hk hA p0  (K := (fun (x2_3 : Int32) (tpd_3 : Int32) (st_3 : Nat → Int32) =>
      some (tpd_3, st_3))) ?_ fu 24 tpd st  (by rw [tw_MO_take]) _ _ hP hD hS ls (lv_sub hl [1, 2, 0] rfl)
  intro x2_3 tpd_3 st_3 hV_3 H locs hP hD hS ls hl
  exact W.vret hx hb hr (fun t ht hW => ⟨⟨(tpd_3, st_3), rfl, (op_eq hs (by rw [hV_3])), by rw [ht]; exact hP, hD⟩, hS.F ht⟩) hS.2.2 d_MO_take_42
abbrev wd_MO_feed (aM aMst aMdcs aMtot aMfrm aMsiz aMffr aMfsz aMlkd aMlat aMkkd aMkat aModr aMgrp aMikd aMiat : Nat) (cB cI : ClassId) (thr : Int32) (frs : Int32) (frt : Int32) (top : Int32) (bgn : Int32) (mst : Int32) (ovr : Bool) (tgr : Bool) (lvs : Int32) (its : Int32) (hgh : Int64) (loo : Int64) (dfl : Bool) (tpd : Int32) (st : Nat → Int32) : va_W := [(aM, .inr (11, [.int thr, .ref aMst, .int tpd, .ref aMdcs, .ref aMtot, .ref aMfrm, .ref aMsiz, .int frs, .int frt, .ref aMffr, .ref aMfsz, .int top, .int bgn, .int mst, .int (b2i ovr), .int (b2i tgr), .int lvs, .ref aMlkd, .ref aMlat, .ref aMkkd, .ref aMkat, .ref aModr, .ref aMgrp, .int its, .ref aMikd, .ref aMiat, .long hgh, .long loo, .int (b2i dfl)])), (aMst, .inl (cI, 136400, .inl st))]
set_option maxHeartbeats 4000000 in
set_option maxRecDepth 100000 in
theorem c_MO_feed (l : Launch) (D : va_G) (cB cI : ClassId) (aM aMst aMdcs aMtot aMfrm aMsiz aMffr aMfsz aMlkd aMlat aMkkd aMkat aModr aMgrp aMikd aMiat : Nat) (fu : Nat) (thr : Int32) (frs : Int32) (frt : Int32) (top : Int32) (bgn : Int32) (mst : Int32) (ovr : Bool) (tgr : Bool) (lvs : Int32) (its : Int32) (hgh : Int64) (loo : Int64) (dfl : Bool) (sz : Nat) (tpd : Int32) (st : Nat → Int32) (p0 : Int32) (p1 : Int32) (p2 : Int32) (p3 : Int32) (p4 : Int32) (V0 : Int32 × Int32 × (Nat → Int32)) (hs : tw_MO_feed fu tpd st p0 p1 p2 p3 p4 = some V0) : Met l y_MO_feed mw_MO_feed { frames := 1, cells := 0, slots := 0, locals := 22 } (va_Pc [.ref aM, .int p0, .int p1, .int p2, .int p3, .int p4] (mt_P D cB cI (wd_MO_feed aM aMst aMdcs aMtot aMfrm aMsiz aMffr aMfsz aMlkd aMlat aMkkd aMkat aModr aMgrp aMikd aMiat cB cI thr frs frt top bgn mst ovr tgr lvs its hgh loo dfl tpd st) sz)) (va_Qi (fun (r : Int32) (u : Int32 × (Nat → Int32)) => (r, u) = V0) (mt_B D (va_A (wd_MO_feed aM aMst aMdcs aMtot aMfrm aMsiz aMffr aMfsz aMlkd aMlat aMkkd aMkat aModr aMgrp aMikd aMiat cB cI thr frs frt top bgn mst ovr tgr lvs its hgh loo dfl tpd st) sz) (fun u => wd_MO_feed aM aMst aMdcs aMtot aMfrm aMsiz aMffr aMfsz aMlkd aMlat aMkkd aMkat aModr aMgrp aMikd aMiat cB cI thr frs frt top bgn mst ovr tgr lvs its hgh loo dfl u.1 u.2)) (va_A (wd_MO_feed aM aMst aMdcs aMtot aMfrm aMsiz aMffr aMfsz aMlkd aMlat aMkkd aMkat aModr aMgrp aMikd aMiat cB cI thr frs frt top bgn mst ovr tgr lvs its hgh loo dfl tpd st) sz)) 0 0 (va_A (wd_MO_feed aM aMst aMdcs aMtot aMfrm aMsiz aMffr aMfsz aMlkd aMlat aMkkd aMkat aModr aMgrp aMikd aMiat cB cI thr frs frt top bgn mst ovr tgr lvs its hgh loo dfl tpd st) sz) := by
  refine Met.ofW (cc := b_MO_feed) (maxL := 6) (ret := (some .int)) (by decide) rfl ?_
  intro p e s m args below meth c s₁ B0 hml hv
  obtain ⟨rfl, hsz, hP, hk, hD0⟩ := hv
  have hK := hk.1
  have hN := hk.2.1
  have hx := B0.exec
  have hb := B0.bytes
  have hr := B0.returns
  have hT : ∀ w ∈ lw_g, w.before _ s = true := fun w h => atoms_spec (ws := mw_MO_feed) B0.pre w (List.mem_cons_of_mem _ h)
  have hown : s.vm.findClass R_MO = some m.cls := findClass_of_methodNamed B0.named
  have hlocks := B0.notSynchronized
  subst hsz
  have hD := hD0.self (sz := s.heap.size)
  generalize hAe : va_A [(aM, .inr (11, [.int thr, .ref aMst, .int tpd, .ref aMdcs, .ref aMtot, .ref aMfrm, .ref aMsiz, .int frs, .int frt, .ref aMffr, .ref aMfsz, .int top, .int bgn, .int mst, .int (b2i ovr), .int (b2i tgr), .int lvs, .ref aMlkd, .ref aMlat, .ref aMkkd, .ref aMkat, .ref aModr, .ref aMgrp, .int its, .ref aMikd, .ref aMiat, .long hgh, .long loo, .int (b2i dfl)])), (aMst, .inl (cI, 136400, .inl st))] s.heap.size = A at hD ⊢
  have hA : ∀ q : Nat, s.heap.size ≤ q → A q := fun q h => by rw [← hAe]; exact Or.inr h
  have hS : va_S A s.heap s.heap [] := va_S.rf
  have hl := lv_entry ([.ref aM, .int p0, .int p1, .int p2, .int p3, .int p4]) (n := 6) (Nat.le_of_ble_eq_true rfl)
  rw [lg_entry_eq]
  generalize (lg_sl ([.ref aM, .int p0, .int p1, .int p2, .int p3, .int p4]) ++ List.replicate (6 - (lg_sl ([.ref aM, .int p0, .int p1, .int p2, .int p3, .int p4])).length) Slot.unset).toArray = ls at hl ⊢
  have hl : lv_has ls 6 [(0, .ref aM), (1, .int p0), (2, .int p1), (3, .int p2), (4, .int p3), (5, .int p4)] := hl
  refine lv_aload_n hx hb d_MO_feed_0 rfl (lv_at hl 0 rfl) ?_
  refine va_get (D := D) (ci := 11) (v := .int tpd) (C := R_MO) (T := T_MO) (N := 29) hx hb hT u_MO hown hK hP 0 rfl rfl 2 (by decide) (hT _ k_1045) (fun _ h9 => h9) rfl d_MO_feed_1 ?_
  refine lv_bipush (v := 20) hx hb d_MO_feed_4 (by decide) ?_
  refine lv_iadd hx hb d_MO_feed_6 ?_
  refine lv_sipush (v := 2000) hx hb d_MO_feed_7 (by decide) ?_
  refine lv_icmp_le (tgt := 15) hx hb d_MO_feed_10 (by decide) (fun c_1 => ?_) (fun c_1 => ?_)
  · refine lv_aload_n hx hb d_MO_feed_15 rfl (lv_at hl 0 rfl) ?_
    refine lv_iload_n hx hb d_MO_feed_16 rfl (lv_at hl 1 rfl) ?_
    rcases h_2 : tw_MO_take fu tpd st p0 with _ | w_2
    · exact op_no hs (by rw [tw_MO_feed, if_pos c_1, h_2, ob2_no])
    refine mt_Vv (As := [.int p0]) (rest := []) (wr := []) ⟨hx, hb, hml, hown, hT⟩ (c_MO_take l D cB cI aM aMst aMdcs aMtot aMfrm aMsiz aMffr aMfsz aMlkd aMlat aMkkd aMkat aModr aMgrp aMikd aMiat fu thr frs frt top bgn mst ovr tgr lvs its hgh loo dfl _ tpd st p0 w_2 h_2) (cwV 1 hT (gV_of k_1135 k_1137 kp_MO_take k_12 kc_MO_take) rfl rfl rfl hd_MO_take ⟨Nat.le_of_ble_eq_true rfl, Nat.le_of_ble_eq_true rfl⟩) hk hP hD hS hA [0, 1] [] rfl rfl rfl (by decide) (by decide) (by decide) (q0 := 0) rfl rfl rfl rfl hl.1 rfl (Nat.le_of_ble_eq_true rfl) d_MO_feed_17 ⟨Nat.zero_le _, Nat.zero_le _⟩ (fun u_2 H locs hw_2 hP hD hS => ?_)
    subst hw_2
    obtain ⟨tpd_2, st_2⟩ := u_2
    have hP : va_P D vwCl [(aM, .inr (11, [.int thr, .ref aMst, .int tpd_2, .ref aMdcs, .ref aMtot, .ref aMfrm, .ref aMsiz, .int frs, .int frt, .ref aMffr, .ref aMfsz, .int top, .int bgn, .int mst, .int (b2i ovr), .int (b2i tgr), .int lvs, .ref aMlkd, .ref aMlat, .ref aMkkd, .ref aMkat, .ref aModr, .ref aMgrp, .int its, .ref aMikd, .ref aMiat, .long hgh, .long loo, .int (b2i dfl)])), (aMst, .inl (cI, 136400, .inl st_2))] H := hP.sub [0, 1] rfl
    have hD : va_D A [(aM, .inr (11, [.int thr, .ref aMst, .int tpd_2, .ref aMdcs, .ref aMtot, .ref aMfrm, .ref aMsiz, .int frs, .int frt, .ref aMffr, .ref aMfsz, .int top, .int bgn, .int mst, .int (b2i ovr), .int (b2i tgr), .int lvs, .ref aMlkd, .ref aMlat, .ref aMkkd, .ref aMkat, .ref aModr, .ref aMgrp, .int its, .ref aMikd, .ref aMiat, .long hgh, .long loo, .int (b2i dfl)])), (aMst, .inl (cI, 136400, .inl st_2))] := hD.sub [0, 1] (by decide) rfl
    refine lv_aload_n hx hb d_MO_feed_20 rfl (lv_at hl 0 rfl) ?_
    refine lv_iload_n hx hb d_MO_feed_21 rfl (lv_at hl 2 rfl) ?_
    rcases h_3 : tw_MO_take fu tpd_2 st_2 p1 with _ | w_3
    · exact op_no hs (by rw [tw_MO_feed, if_pos c_1, h_2, ob2_mk, h_3, ob2_no])
    refine mt_Vv (As := [.int p1]) (rest := []) (wr := []) ⟨hx, hb, hml, hown, hT⟩ (c_MO_take l D cB cI aM aMst aMdcs aMtot aMfrm aMsiz aMffr aMfsz aMlkd aMlat aMkkd aMkat aModr aMgrp aMikd aMiat fu thr frs frt top bgn mst ovr tgr lvs its hgh loo dfl _ tpd_2 st_2 p1 w_3 h_3) (cwV 1 hT (gV_of k_1135 k_1137 kp_MO_take k_12 kc_MO_take) rfl rfl rfl hd_MO_take ⟨Nat.le_of_ble_eq_true rfl, Nat.le_of_ble_eq_true rfl⟩) hk hP hD hS hA [0, 1] [] rfl rfl rfl (by decide) (by decide) (by decide) (q0 := 0) rfl rfl rfl rfl hl.1 rfl (Nat.le_of_ble_eq_true rfl) d_MO_feed_22 ⟨Nat.zero_le _, Nat.zero_le _⟩ (fun u_3 H locs hw_3 hP hD hS => ?_)
    subst hw_3
    obtain ⟨tpd_3, st_3⟩ := u_3
    have hP : va_P D vwCl [(aM, .inr (11, [.int thr, .ref aMst, .int tpd_3, .ref aMdcs, .ref aMtot, .ref aMfrm, .ref aMsiz, .int frs, .int frt, .ref aMffr, .ref aMfsz, .int top, .int bgn, .int mst, .int (b2i ovr), .int (b2i tgr), .int lvs, .ref aMlkd, .ref aMlat, .ref aMkkd, .ref aMkat, .ref aModr, .ref aMgrp, .int its, .ref aMikd, .ref aMiat, .long hgh, .long loo, .int (b2i dfl)])), (aMst, .inl (cI, 136400, .inl st_3))] H := hP.sub [0, 1] rfl
    have hD : va_D A [(aM, .inr (11, [.int thr, .ref aMst, .int tpd_3, .ref aMdcs, .ref aMtot, .ref aMfrm, .ref aMsiz, .int frs, .int frt, .ref aMffr, .ref aMfsz, .int top, .int bgn, .int mst, .int (b2i ovr), .int (b2i tgr), .int lvs, .ref aMlkd, .ref aMlat, .ref aMkkd, .ref aMkat, .ref aModr, .ref aMgrp, .int its, .ref aMikd, .ref aMiat, .long hgh, .long loo, .int (b2i dfl)])), (aMst, .inl (cI, 136400, .inl st_3))] := hD.sub [0, 1] (by decide) rfl
    refine lv_aload_n hx hb d_MO_feed_25 rfl (lv_at hl 0 rfl) ?_
    refine lv_iload_n hx hb d_MO_feed_26 rfl (lv_at hl 3 rfl) ?_
    rcases h_4 : tw_MO_take fu tpd_3 st_3 p2 with _ | w_4
    · exact op_no hs (by rw [tw_MO_feed, if_pos c_1, h_2, ob2_mk, h_3, ob2_mk, h_4, ob2_no])
    refine mt_Vv (As := [.int p2]) (rest := []) (wr := []) ⟨hx, hb, hml, hown, hT⟩ (c_MO_take l D cB cI aM aMst aMdcs aMtot aMfrm aMsiz aMffr aMfsz aMlkd aMlat aMkkd aMkat aModr aMgrp aMikd aMiat fu thr frs frt top bgn mst ovr tgr lvs its hgh loo dfl _ tpd_3 st_3 p2 w_4 h_4) (cwV 1 hT (gV_of k_1135 k_1137 kp_MO_take k_12 kc_MO_take) rfl rfl rfl hd_MO_take ⟨Nat.le_of_ble_eq_true rfl, Nat.le_of_ble_eq_true rfl⟩) hk hP hD hS hA [0, 1] [] rfl rfl rfl (by decide) (by decide) (by decide) (q0 := 0) rfl rfl rfl rfl hl.1 rfl (Nat.le_of_ble_eq_true rfl) d_MO_feed_27 ⟨Nat.zero_le _, Nat.zero_le _⟩ (fun u_4 H locs hw_4 hP hD hS => ?_)
    subst hw_4
    obtain ⟨tpd_4, st_4⟩ := u_4
    have hP : va_P D vwCl [(aM, .inr (11, [.int thr, .ref aMst, .int tpd_4, .ref aMdcs, .ref aMtot, .ref aMfrm, .ref aMsiz, .int frs, .int frt, .ref aMffr, .ref aMfsz, .int top, .int bgn, .int mst, .int (b2i ovr), .int (b2i tgr), .int lvs, .ref aMlkd, .ref aMlat, .ref aMkkd, .ref aMkat, .ref aModr, .ref aMgrp, .int its, .ref aMikd, .ref aMiat, .long hgh, .long loo, .int (b2i dfl)])), (aMst, .inl (cI, 136400, .inl st_4))] H := hP.sub [0, 1] rfl
    have hD : va_D A [(aM, .inr (11, [.int thr, .ref aMst, .int tpd_4, .ref aMdcs, .ref aMtot, .ref aMfrm, .ref aMsiz, .int frs, .int frt, .ref aMffr, .ref aMfsz, .int top, .int bgn, .int mst, .int (b2i ovr), .int (b2i tgr), .int lvs, .ref aMlkd, .ref aMlat, .ref aMkkd, .ref aMkat, .ref aModr, .ref aMgrp, .int its, .ref aMikd, .ref aMiat, .long hgh, .long loo, .int (b2i dfl)])), (aMst, .inl (cI, 136400, .inl st_4))] := hD.sub [0, 1] (by decide) rfl
    refine lv_aload_n hx hb d_MO_feed_30 rfl (lv_at hl 0 rfl) ?_
    refine lv_iload hx hb d_MO_feed_31 (lv_at hl 4 rfl) ?_
    rcases h_5 : tw_MO_take fu tpd_4 st_4 p3 with _ | w_5
    · exact op_no hs (by rw [tw_MO_feed, if_pos c_1, h_2, ob2_mk, h_3, ob2_mk, h_4, ob2_mk, h_5, ob2_no])
    refine mt_Vv (As := [.int p3]) (rest := []) (wr := []) ⟨hx, hb, hml, hown, hT⟩ (c_MO_take l D cB cI aM aMst aMdcs aMtot aMfrm aMsiz aMffr aMfsz aMlkd aMlat aMkkd aMkat aModr aMgrp aMikd aMiat fu thr frs frt top bgn mst ovr tgr lvs its hgh loo dfl _ tpd_4 st_4 p3 w_5 h_5) (cwV 1 hT (gV_of k_1135 k_1137 kp_MO_take k_12 kc_MO_take) rfl rfl rfl hd_MO_take ⟨Nat.le_of_ble_eq_true rfl, Nat.le_of_ble_eq_true rfl⟩) hk hP hD hS hA [0, 1] [] rfl rfl rfl (by decide) (by decide) (by decide) (q0 := 0) rfl rfl rfl rfl hl.1 rfl (Nat.le_of_ble_eq_true rfl) d_MO_feed_33 ⟨Nat.zero_le _, Nat.zero_le _⟩ (fun u_5 H locs hw_5 hP hD hS => ?_)
    subst hw_5
    obtain ⟨tpd_5, st_5⟩ := u_5
    have hP : va_P D vwCl [(aM, .inr (11, [.int thr, .ref aMst, .int tpd_5, .ref aMdcs, .ref aMtot, .ref aMfrm, .ref aMsiz, .int frs, .int frt, .ref aMffr, .ref aMfsz, .int top, .int bgn, .int mst, .int (b2i ovr), .int (b2i tgr), .int lvs, .ref aMlkd, .ref aMlat, .ref aMkkd, .ref aMkat, .ref aModr, .ref aMgrp, .int its, .ref aMikd, .ref aMiat, .long hgh, .long loo, .int (b2i dfl)])), (aMst, .inl (cI, 136400, .inl st_5))] H := hP.sub [0, 1] rfl
    have hD : va_D A [(aM, .inr (11, [.int thr, .ref aMst, .int tpd_5, .ref aMdcs, .ref aMtot, .ref aMfrm, .ref aMsiz, .int frs, .int frt, .ref aMffr, .ref aMfsz, .int top, .int bgn, .int mst, .int (b2i ovr), .int (b2i tgr), .int lvs, .ref aMlkd, .ref aMlat, .ref aMkkd, .ref aMkat, .ref aModr, .ref aMgrp, .int its, .ref aMikd, .ref aMiat, .long hgh, .long loo, .int (b2i dfl)])), (aMst, .inl (cI, 136400, .inl st_5))] := hD.sub [0, 1] (by decide) rfl
    refine lv_aload_n hx hb d_MO_feed_36 rfl (lv_at hl 0 rfl) ?_
    refine lv_iload hx hb d_MO_feed_37 (lv_at hl 5 rfl) ?_
    rcases h_6 : tw_MO_take fu tpd_5 st_5 p4 with _ | w_6
    · exact op_no hs (by rw [tw_MO_feed, if_pos c_1, h_2, ob2_mk, h_3, ob2_mk, h_4, ob2_mk, h_5, ob2_mk, h_6, ob2_no])
    refine mt_Vv (As := [.int p4]) (rest := []) (wr := []) ⟨hx, hb, hml, hown, hT⟩ (c_MO_take l D cB cI aM aMst aMdcs aMtot aMfrm aMsiz aMffr aMfsz aMlkd aMlat aMkkd aMkat aModr aMgrp aMikd aMiat fu thr frs frt top bgn mst ovr tgr lvs its hgh loo dfl _ tpd_5 st_5 p4 w_6 h_6) (cwV 1 hT (gV_of k_1135 k_1137 kp_MO_take k_12 kc_MO_take) rfl rfl rfl hd_MO_take ⟨Nat.le_of_ble_eq_true rfl, Nat.le_of_ble_eq_true rfl⟩) hk hP hD hS hA [0, 1] [] rfl rfl rfl (by decide) (by decide) (by decide) (q0 := 0) rfl rfl rfl rfl hl.1 rfl (Nat.le_of_ble_eq_true rfl) d_MO_feed_39 ⟨Nat.zero_le _, Nat.zero_le _⟩ (fun u_6 H locs hw_6 hP hD hS => ?_)
    subst hw_6
    obtain ⟨tpd_6, st_6⟩ := u_6
    have hP : va_P D vwCl [(aM, .inr (11, [.int thr, .ref aMst, .int tpd_6, .ref aMdcs, .ref aMtot, .ref aMfrm, .ref aMsiz, .int frs, .int frt, .ref aMffr, .ref aMfsz, .int top, .int bgn, .int mst, .int (b2i ovr), .int (b2i tgr), .int lvs, .ref aMlkd, .ref aMlat, .ref aMkkd, .ref aMkat, .ref aModr, .ref aMgrp, .int its, .ref aMikd, .ref aMiat, .long hgh, .long loo, .int (b2i dfl)])), (aMst, .inl (cI, 136400, .inl st_6))] H := hP.sub [0, 1] rfl
    have hD : va_D A [(aM, .inr (11, [.int thr, .ref aMst, .int tpd_6, .ref aMdcs, .ref aMtot, .ref aMfrm, .ref aMsiz, .int frs, .int frt, .ref aMffr, .ref aMfsz, .int top, .int bgn, .int mst, .int (b2i ovr), .int (b2i tgr), .int lvs, .ref aMlkd, .ref aMlat, .ref aMkkd, .ref aMkat, .ref aModr, .ref aMgrp, .int its, .ref aMikd, .ref aMiat, .long hgh, .long loo, .int (b2i dfl)])), (aMst, .inl (cI, 136400, .inl st_6))] := hD.sub [0, 1] (by decide) rfl
    refine lv_aload_n hx hb d_MO_feed_42 rfl (lv_at hl 0 rfl) ?_
    refine va_get (D := D) (ci := 11) (v := .int tpd_6) (C := R_MO) (T := T_MO) (N := 29) hx hb hT u_MO hown hK hP 0 rfl rfl 2 (by decide) (hT _ k_1045) (fun _ h9 => h9) rfl d_MO_feed_43 ?_
    exact W.iret (v := tpd_6) hx hb hr (fun t ht hW => ⟨⟨tpd_6, (tpd_6, st_6), rfl, (op_eq hs (by rw [tw_MO_feed, if_pos c_1, h_2, ob2_mk, h_3, ob2_mk, h_4, ob2_mk, h_5, ob2_mk, h_6, ob2_mk])), by rw [ht]; exact hP, hD⟩, hS.F ht⟩) hS.2.2 d_MO_feed_46
  · refine lv_iconst (v := -1) hx hb d_MO_feed_13 (by decide) ?_
    exact W.iret (v := (-1)) hx hb hr (fun t ht hW => ⟨⟨(-1), (tpd, st), rfl, (op_eq hs (by rw [tw_MO_feed, if_neg c_1])), by rw [ht]; exact hP, hD⟩, hS.F ht⟩) hS.2.2 d_MO_feed_14
abbrev wd_MO_clear (aM aMst aMdcs aMtot aMfrm aMsiz aMffr aMfsz aMlkd aMlat aMkkd aMkat aModr aMgrp aMikd aMiat : Nat) (cB cI : ClassId) (thr : Int32) (tpd : Int32) (frs : Int32) (frt : Int32) (top : Int32) (bgn : Int32) (mst : Int32) (ovr : Bool) (tgr : Bool) (lvs : Int32) (its : Int32) (hgh : Int64) (loo : Int64) (dfl : Bool) (dcs : Nat → Int32) (tot : Nat → Int32) : va_W := [(aM, .inr (11, [.int thr, .ref aMst, .int tpd, .ref aMdcs, .ref aMtot, .ref aMfrm, .ref aMsiz, .int frs, .int frt, .ref aMffr, .ref aMfsz, .int top, .int bgn, .int mst, .int (b2i ovr), .int (b2i tgr), .int lvs, .ref aMlkd, .ref aMlat, .ref aMkkd, .ref aMkat, .ref aModr, .ref aMgrp, .int its, .ref aMikd, .ref aMiat, .long hgh, .long loo, .int (b2i dfl)])), (aMdcs, .inl (cI, 2, .inl dcs)), (aMtot, .inl (cI, 2, .inl tot))]
set_option maxHeartbeats 4000000 in
set_option maxRecDepth 100000 in
theorem c_MO_clear (l : Launch) (D : va_G) (cB cI : ClassId) (aM aMst aMdcs aMtot aMfrm aMsiz aMffr aMfsz aMlkd aMlat aMkkd aMkat aModr aMgrp aMikd aMiat : Nat) (fu : Nat) (thr : Int32) (tpd : Int32) (frs : Int32) (frt : Int32) (top : Int32) (bgn : Int32) (mst : Int32) (ovr : Bool) (tgr : Bool) (lvs : Int32) (its : Int32) (hgh : Int64) (loo : Int64) (dfl : Bool) (sz : Nat) (dcs : Nat → Int32) (tot : Nat → Int32) (p0 : Int32) (V0 : Int32 × (Nat → Int32) × (Nat → Int32)) (hs : tw_MO_clear fu dcs tot p0 = some V0) : Met l y_MO_clear mw_MO_clear { frames := 0, cells := 0, slots := 0, locals := 0 } (va_Pc [.ref aM, .int p0] (mt_P D cB cI (wd_MO_clear aM aMst aMdcs aMtot aMfrm aMsiz aMffr aMfsz aMlkd aMlat aMkkd aMkat aModr aMgrp aMikd aMiat cB cI thr tpd frs frt top bgn mst ovr tgr lvs its hgh loo dfl dcs tot) sz)) (va_Qi (fun (r : Int32) (u : (Nat → Int32) × (Nat → Int32)) => (r, u) = V0) (mt_B D (va_A (wd_MO_clear aM aMst aMdcs aMtot aMfrm aMsiz aMffr aMfsz aMlkd aMlat aMkkd aMkat aModr aMgrp aMikd aMiat cB cI thr tpd frs frt top bgn mst ovr tgr lvs its hgh loo dfl dcs tot) sz) (fun u => wd_MO_clear aM aMst aMdcs aMtot aMfrm aMsiz aMffr aMfsz aMlkd aMlat aMkkd aMkat aModr aMgrp aMikd aMiat cB cI thr tpd frs frt top bgn mst ovr tgr lvs its hgh loo dfl u.1 u.2)) (va_A (wd_MO_clear aM aMst aMdcs aMtot aMfrm aMsiz aMffr aMfsz aMlkd aMlat aMkkd aMkat aModr aMgrp aMikd aMiat cB cI thr tpd frs frt top bgn mst ovr tgr lvs its hgh loo dfl dcs tot) sz)) 0 0 (va_A (wd_MO_clear aM aMst aMdcs aMtot aMfrm aMsiz aMffr aMfsz aMlkd aMlat aMkkd aMkat aModr aMgrp aMikd aMiat cB cI thr tpd frs frt top bgn mst ovr tgr lvs its hgh loo dfl dcs tot) sz) := by
  refine Met.ofW (cc := b_MO_clear) (maxL := 3) (ret := (some .int)) (by decide) rfl ?_
  intro p e s m args below meth c s₁ B0 hml hv
  obtain ⟨rfl, hsz, hP, hk, hD0⟩ := hv
  have hK := hk.1
  have hN := hk.2.1
  have hx := B0.exec
  have hb := B0.bytes
  have hr := B0.returns
  have hT : ∀ w ∈ lw_g, w.before _ s = true := fun w h => atoms_spec (ws := mw_MO_clear) B0.pre w (List.mem_cons_of_mem _ h)
  have hown : s.vm.findClass R_MO = some m.cls := findClass_of_methodNamed B0.named
  have hlocks := B0.notSynchronized
  subst hsz
  have hD := hD0.self (sz := s.heap.size)
  generalize hAe : va_A [(aM, .inr (11, [.int thr, .ref aMst, .int tpd, .ref aMdcs, .ref aMtot, .ref aMfrm, .ref aMsiz, .int frs, .int frt, .ref aMffr, .ref aMfsz, .int top, .int bgn, .int mst, .int (b2i ovr), .int (b2i tgr), .int lvs, .ref aMlkd, .ref aMlat, .ref aMkkd, .ref aMkat, .ref aModr, .ref aMgrp, .int its, .ref aMikd, .ref aMiat, .long hgh, .long loo, .int (b2i dfl)])), (aMdcs, .inl (cI, 2, .inl dcs)), (aMtot, .inl (cI, 2, .inl tot))] s.heap.size = A at hD ⊢
  have hA : ∀ q : Nat, s.heap.size ≤ q → A q := fun q h => by rw [← hAe]; exact Or.inr h
  have hS : va_S A s.heap s.heap [] := va_S.rf
  have hl := lv_entry ([.ref aM, .int p0]) (n := 3) (Nat.le_of_ble_eq_true rfl)
  rw [lg_entry_eq]
  generalize (lg_sl ([.ref aM, .int p0]) ++ List.replicate (3 - (lg_sl ([.ref aM, .int p0])).length) Slot.unset).toArray = ls at hl ⊢
  have hl : lv_has ls 3 [(0, .ref aM), (1, .int p0)] := hl
  refine lv_iload_n hx hb d_MO_clear_0 rfl (lv_at hl 1 rfl) ?_
  refine lv_if_lt (tgt := 9) hx hb d_MO_clear_1 (by decide) (fun c_1 => ?_) (fun c_1 => ?_)
  · refine lv_iconst (v := -1) hx hb d_MO_clear_9 (by decide) ?_
    exact W.iret (v := (-1)) hx hb hr (fun t ht hW => ⟨⟨(-1), (dcs, tot), rfl, (op_eq hs (by rw [tw_MO_clear, if_pos c_1])), by rw [ht]; exact hP, hD⟩, hS.F ht⟩) hS.2.2 d_MO_clear_10
  · refine lv_iload_n hx hb d_MO_clear_4 rfl (lv_at hl 1 rfl) ?_
    refine lv_iconst (v := 1) hx hb d_MO_clear_5 (by decide) ?_
    refine lv_icmp_le (tgt := 11) hx hb d_MO_clear_6 (by decide) (fun c_2 => ?_) (fun c_2 => ?_)
    · refine lv_aload_n hx hb d_MO_clear_11 rfl (lv_at hl 0 rfl) ?_
      refine va_get (D := D) (ci := 11) (v := .ref aMdcs) (C := R_MO) (T := T_MO) (N := 29) hx hb hT u_MO hown hK hP 0 rfl rfl 3 (by decide) (hT _ k_1046) (fun _ h9 => h9) rfl d_MO_clear_12 ?_
      refine lv_iload_n hx hb d_MO_clear_15 rfl (lv_at hl 1 rfl) ?_
      by_cases c_3 : 0 ≤ p0 ∧ p0 < 2
      rotate_left
      · exact op_no hs (by rw [tw_MO_clear, if_neg c_1, if_pos c_2, if_neg c_3])
      refine va_iald hx hb hK hP 1 1 rfl rfl (in_pp c_3.1 c_3.2 rfl) d_MO_clear_16 ?_
      refine lv_istore_n (lv' := [(2, .int (dcs p0.toNatClampNeg)), (0, .ref aM), (1, .int p0)]) hx hb d_MO_clear_17 rfl hl (by decide) rfl (fun ls hl => ?_)
      refine lv_aload_n hx hb d_MO_clear_18 rfl (lv_at hl 1 rfl) ?_
      refine va_get (D := D) (ci := 11) (v := .ref aMdcs) (C := R_MO) (T := T_MO) (N := 29) hx hb hT u_MO hown hK hP 0 rfl rfl 3 (by decide) (hT _ k_1046) (fun _ h9 => h9) rfl d_MO_clear_19 ?_
      refine lv_iload_n hx hb d_MO_clear_22 rfl (lv_at hl 2 rfl) ?_
      refine lv_iconst (v := 0) hx hb d_MO_clear_23 (by decide) ?_
      refine va_iast hx hb hK hP hD hS 1 1 rfl rfl (in_pp c_3.1 c_3.2 rfl) d_MO_clear_24 (fun H locs hP hD hS => ?_)
      have hP : va_P D vwCl [(aM, .inr (11, [.int thr, .ref aMst, .int tpd, .ref aMdcs, .ref aMtot, .ref aMfrm, .ref aMsiz, .int frs, .int frt, .ref aMffr, .ref aMfsz, .int top, .int bgn, .int mst, .int (b2i ovr), .int (b2i tgr), .int lvs, .ref aMlkd, .ref aMlat, .ref aMkkd, .ref aMkat, .ref aModr, .ref aMgrp, .int its, .ref aMikd, .ref aMiat, .long hgh, .long loo, .int (b2i dfl)])), (aMdcs, .inl (cI, 2, .inl (upd dcs p0.toNatClampNeg 0))), (aMtot, .inl (cI, 2, .inl tot))] H := hP
      have hD : va_D A [(aM, .inr (11, [.int thr, .ref aMst, .int tpd, .ref aMdcs, .ref aMtot, .ref aMfrm, .ref aMsiz, .int frs, .int frt, .ref aMffr, .ref aMfsz, .int top, .int bgn, .int mst, .int (b2i ovr), .int (b2i tgr), .int lvs, .ref aMlkd, .ref aMlat, .ref aMkkd, .ref aMkat, .ref aModr, .ref aMgrp, .int its, .ref aMikd, .ref aMiat, .long hgh, .long loo, .int (b2i dfl)])), (aMdcs, .inl (cI, 2, .inl (upd dcs p0.toNatClampNeg 0))), (aMtot, .inl (cI, 2, .inl tot))] := hD
      refine lv_aload_n hx hb d_MO_clear_25 rfl (lv_at hl 1 rfl) ?_
      refine va_get (D := D) (ci := 11) (v := .ref aMtot) (C := R_MO) (T := T_MO) (N := 29) hx hb hT u_MO hown hK hP 0 rfl rfl 4 (by decide) (hT _ k_1047) (fun _ h9 => h9) rfl d_MO_clear_26 ?_
      refine lv_iload_n hx hb d_MO_clear_29 rfl (lv_at hl 2 rfl) ?_
      refine lv_iconst (v := 0) hx hb d_MO_clear_30 (by decide) ?_
      refine va_iast hx hb hK hP hD hS 2 1 rfl rfl (in_pp c_3.1 c_3.2 rfl) d_MO_clear_31 (fun H locs hP hD hS => ?_)
      have hP : va_P D vwCl [(aM, .inr (11, [.int thr, .ref aMst, .int tpd, .ref aMdcs, .ref aMtot, .ref aMfrm, .ref aMsiz, .int frs, .int frt, .ref aMffr, .ref aMfsz, .int top, .int bgn, .int mst, .int (b2i ovr), .int (b2i tgr), .int lvs, .ref aMlkd, .ref aMlat, .ref aMkkd, .ref aMkat, .ref aModr, .ref aMgrp, .int its, .ref aMikd, .ref aMiat, .long hgh, .long loo, .int (b2i dfl)])), (aMdcs, .inl (cI, 2, .inl (upd dcs p0.toNatClampNeg 0))), (aMtot, .inl (cI, 2, .inl (upd tot p0.toNatClampNeg 0)))] H := hP
      have hD : va_D A [(aM, .inr (11, [.int thr, .ref aMst, .int tpd, .ref aMdcs, .ref aMtot, .ref aMfrm, .ref aMsiz, .int frs, .int frt, .ref aMffr, .ref aMfsz, .int top, .int bgn, .int mst, .int (b2i ovr), .int (b2i tgr), .int lvs, .ref aMlkd, .ref aMlat, .ref aMkkd, .ref aMkat, .ref aModr, .ref aMgrp, .int its, .ref aMikd, .ref aMiat, .long hgh, .long loo, .int (b2i dfl)])), (aMdcs, .inl (cI, 2, .inl (upd dcs p0.toNatClampNeg 0))), (aMtot, .inl (cI, 2, .inl (upd tot p0.toNatClampNeg 0)))] := hD
      refine lv_iload_n hx hb d_MO_clear_32 rfl (lv_at hl 0 rfl) ?_
      exact W.iret (v := dcs p0.toNatClampNeg) hx hb hr (fun t ht hW => ⟨⟨dcs p0.toNatClampNeg, (upd dcs p0.toNatClampNeg 0, upd tot p0.toNatClampNeg 0), rfl, (op_eq hs (by rw [tw_MO_clear, if_neg c_1, if_pos c_2, if_pos c_3])), by rw [ht]; exact hP, hD⟩, hS.F ht⟩) hS.2.2 d_MO_clear_33
    · refine lv_iconst (v := -1) hx hb d_MO_clear_9 (by decide) ?_
      exact W.iret (v := (-1)) hx hb hr (fun t ht hW => ⟨⟨(-1), (dcs, tot), rfl, (op_eq hs (by rw [tw_MO_clear, if_neg c_1, if_neg c_2])), by rw [ht]; exact hP, hD⟩, hS.F ht⟩) hS.2.2 d_MO_clear_10
abbrev wd_MO_swap (aM aMst aMdcs aMtot aMfrm aMsiz aMffr aMfsz aMlkd aMlat aMkkd aMkat aModr aMgrp aMikd aMiat : Nat) (cB cI : ClassId) (thr : Int32) (tpd : Int32) (frs : Int32) (frt : Int32) (top : Int32) (bgn : Int32) (mst : Int32) (ovr : Bool) (tgr : Bool) (lvs : Int32) (its : Int32) (hgh : Int64) (loo : Int64) (dfl : Bool) (st : Nat → Int32) (dcs : Nat → Int32) (tot : Nat → Int32) (frm : Nat → Int32) (siz : Nat → Int32) : va_W := [(aM, .inr (11, [.int thr, .ref aMst, .int tpd, .ref aMdcs, .ref aMtot, .ref aMfrm, .ref aMsiz, .int frs, .int frt, .ref aMffr, .ref aMfsz, .int top, .int bgn, .int mst, .int (b2i ovr), .int (b2i tgr), .int lvs, .ref aMlkd, .ref aMlat, .ref aMkkd, .ref aMkat, .ref aModr, .ref aMgrp, .int its, .ref aMikd, .ref aMiat, .long hgh, .long loo, .int (b2i dfl)])), (aMst, .inl (cI, 136400, .inl st)), (aMdcs, .inl (cI, 2, .inl dcs)), (aMtot, .inl (cI, 2, .inl tot)), (aMfrm, .inl (cI, 400, .inl frm)), (aMsiz, .inl (cI, 400, .inl siz))]
set_option maxHeartbeats 4000000 in
set_option maxRecDepth 100000 in
theorem l_MO_swap_h2 {p : Program} {e : Env} {s : State} {m : MethodId} {args : Array Value} {below : List Frame} {meth : Method} {c : Code} {V : Option ((Nat → Int32) × (Nat → Int32) × (Nat → Int32) × (Nat → Int32) × (Nat → Int32))} {V0 : (Nat → Int32) × (Nat → Int32) × (Nat → Int32) × (Nat → Int32) × (Nat → Int32)} (C0 : lc_C p s m meth c args b_MO_swap 3 none R_MO lw_g) (hs : V = some V0) (l : Launch) (D : va_G) (cB cI : ClassId) (aM aMst aMdcs aMtot aMfrm aMsiz aMffr aMfsz aMlkd aMlat aMkkd aMkat aModr aMgrp aMikd aMiat : Nat) (fu : Nat) (thr : Int32) (tpd : Int32) (frs : Int32) (frt : Int32) (top : Int32) (bgn : Int32) (mst : Int32) (ovr : Bool) (tgr : Bool) (lvs : Int32) (its : Int32) (hgh : Int64) (loo : Int64) (dfl : Bool) {A : Nat → Prop} (hk : hk_ D cB cI s) (hA : ∀ q : Nat, s.heap.size ≤ q → A q)  {K : Int32 → (Nat → Int32) → (Nat → Int32) → (Nat → Int32) → (Nat → Int32) → (Nat → Int32) → Option ((Nat → Int32) × (Nat → Int32) × (Nat → Int32) × (Nat → Int32) × (Nat → Int32))} (hKx : ∀ (x1 : Int32) (st : Nat → Int32) (dcs : Nat → Int32) (tot : Nat → Int32) (frm : Nat → Int32) (siz : Nat → Int32), V = K x1 st dcs tot frm siz → ∀ (H : Heap) (locs : List Loc), va_P D vwCl [(aM, .inr (11, [.int thr, .ref aMst, .int tpd, .ref aMdcs, .ref aMtot, .ref aMfrm, .ref aMsiz, .int frs, .int frt, .ref aMffr, .ref aMfsz, .int top, .int bgn, .int mst, .int (b2i ovr), .int (b2i tgr), .int lvs, .ref aMlkd, .ref aMlat, .ref aMkkd, .ref aMkat, .ref aModr, .ref aMgrp, .int its, .ref aMikd, .ref aMiat, .long hgh, .long loo, .int (b2i dfl)])), (aMst, .inl (cI, 136400, .inl st)), (aMdcs, .inl (cI, 2, .inl dcs)), (aMtot, .inl (cI, 2, .inl tot)), (aMfrm, .inl (cI, 400, .inl frm)), (aMsiz, .inl (cI, 400, .inl siz))] H → va_D A [(aM, .inr (11, [.int thr, .ref aMst, .int tpd, .ref aMdcs, .ref aMtot, .ref aMfrm, .ref aMsiz, .int frs, .int frt, .ref aMffr, .ref aMfsz, .int top, .int bgn, .int mst, .int (b2i ovr), .int (b2i tgr), .int lvs, .ref aMlkd, .ref aMlat, .ref aMkkd, .ref aMkat, .ref aModr, .ref aMgrp, .int its, .ref aMikd, .ref aMiat, .long hgh, .long loo, .int (b2i dfl)])), (aMst, .inl (cI, 136400, .inl st)), (aMdcs, .inl (cI, 2, .inl dcs)), (aMtot, .inl (cI, 2, .inl tot)), (aMfrm, .inl (cI, 400, .inl frm)), (aMsiz, .inl (cI, 400, .inl siz))] → va_S A s.heap H locs → ∀ ls : Array Slot, lv_has ls 3 [(0, .ref aM)] → W p l e ({ frames := 0, cells := 0, slots := 0, locals := 0 }) s m args below meth c H locs 0 0 (MQ below (va_Qv (fun (u : (Nat → Int32) × (Nat → Int32) × (Nat → Int32) × (Nat → Int32) × (Nat → Int32)) => u = V0) (mt_B D A (fun u => wd_MO_swap aM aMst aMdcs aMtot aMfrm aMsiz aMffr aMfsz aMlkd aMlat aMkkd aMkat aModr aMgrp aMikd aMiat cB cI thr tpd frs frt top bgn mst ovr tgr lvs its hgh loo dfl u.1 u.2.1 u.2.2.1 u.2.2.2.1 u.2.2.2.2)) A) args s 0 0 A) (F0 m 46 ls [])) : ∀ (n : Nat) (x1 : Int32) (st : Nat → Int32) (dcs : Nat → Int32) (tot : Nat → Int32) (frm : Nat → Int32) (siz : Nat → Int32), V = tw_MO_swap_h2 fu K n x1 st dcs tot frm siz → ∀ (H : Heap) (locs : List Loc), va_P D vwCl [(aM, .inr (11, [.int thr, .ref aMst, .int tpd, .ref aMdcs, .ref aMtot, .ref aMfrm, .ref aMsiz, .int frs, .int frt, .ref aMffr, .ref aMfsz, .int top, .int bgn, .int mst, .int (b2i ovr), .int (b2i tgr), .int lvs, .ref aMlkd, .ref aMlat, .ref aMkkd, .ref aMkat, .ref aModr, .ref aMgrp, .int its, .ref aMikd, .ref aMiat, .long hgh, .long loo, .int (b2i dfl)])), (aMst, .inl (cI, 136400, .inl st)), (aMdcs, .inl (cI, 2, .inl dcs)), (aMtot, .inl (cI, 2, .inl tot)), (aMfrm, .inl (cI, 400, .inl frm)), (aMsiz, .inl (cI, 400, .inl siz))] H → va_D A [(aM, .inr (11, [.int thr, .ref aMst, .int tpd, .ref aMdcs, .ref aMtot, .ref aMfrm, .ref aMsiz, .int frs, .int frt, .ref aMffr, .ref aMfsz, .int top, .int bgn, .int mst, .int (b2i ovr), .int (b2i tgr), .int lvs, .ref aMlkd, .ref aMlat, .ref aMkkd, .ref aMkat, .ref aModr, .ref aMgrp, .int its, .ref aMikd, .ref aMiat, .long hgh, .long loo, .int (b2i dfl)])), (aMst, .inl (cI, 136400, .inl st)), (aMdcs, .inl (cI, 2, .inl dcs)), (aMtot, .inl (cI, 2, .inl tot)), (aMfrm, .inl (cI, 400, .inl frm)), (aMsiz, .inl (cI, 400, .inl siz))] → va_S A s.heap H locs → ∀ ls : Array Slot, lv_has ls 3 [(0, .ref aM), (1, .int x1)] → W p l e ({ frames := 0, cells := 0, slots := 0, locals := 0 }) s m args below meth c H locs 0 0 (MQ below (va_Qv (fun (u : (Nat → Int32) × (Nat → Int32) × (Nat → Int32) × (Nat → Int32) × (Nat → Int32)) => u = V0) (mt_B D A (fun u => wd_MO_swap aM aMst aMdcs aMtot aMfrm aMsiz aMffr aMfsz aMlkd aMlat aMkkd aMkat aModr aMgrp aMikd aMiat cB cI thr tpd frs frt top bgn mst ovr tgr lvs its hgh loo dfl u.1 u.2.1 u.2.2.1 u.2.2.2.1 u.2.2.2.2)) A) args s 0 0 A) (F0 m 2 ls []) := by
  obtain ⟨hx, hb, hml, hr, hown, hlocks, hT⟩ := id C0
  have hK := hk.1
  have hN := hk.2.1
  intro n
  induction n with
  | zero =>
    intro x1 st dcs tot frm siz hV
    exact op_no hs (hV.trans rfl)
  | succ n ih =>
    intro x1 st dcs tot frm siz hV H locs hP hD hS ls hl
    refine lv_iload_n hx hb d_MO_swap_2 rfl (lv_at hl 1 rfl) ?_
    refine lv_ldc (v := 40000) hx hb hown (hT _ k_1190) d_MO_swap_3 ?_
    refine lv_icmp_ge (tgt := 46) hx hb d_MO_swap_5 (by decide) (fun c_1 => ?_) (fun c_1 => ?_)
    · exact hKx x1 st dcs tot frm siz (by rw [hV, tw_MO_swap_h2, if_pos c_1]) _ _ hP hD hS ls (lv_sub hl [0] rfl)
    · refine lv_aload_n hx hb d_MO_swap_8 rfl (lv_at hl 0 rfl) ?_
      refine va_get (D := D) (ci := 11) (v := .ref aMst) (C := R_MO) (T := T_MO) (N := 29) hx hb hT u_MO hown hK hP 0 rfl rfl 1 (by decide) (hT _ k_1044) (fun _ h9 => h9) rfl d_MO_swap_9 ?_
      refine lv_iload_n hx hb d_MO_swap_12 rfl (lv_at hl 1 rfl) ?_
      by_cases c_2 : 0 ≤ x1 ∧ x1 < 136400
      rotate_left
      · exact op_no hs (by rw [hV, tw_MO_swap_h2, if_neg c_1, if_neg c_2])
      refine va_iald hx hb hK hP 1 1 rfl rfl (in_pp c_2.1 c_2.2 rfl) d_MO_swap_13 ?_
      refine lv_istore_n (lv' := [(2, .int (st x1.toNatClampNeg)), (0, .ref aM), (1, .int x1)]) hx hb d_MO_swap_14 rfl hl (by decide) rfl (fun ls hl => ?_)
      refine lv_aload_n hx hb d_MO_swap_15 rfl (lv_at hl 1 rfl) ?_
      refine va_get (D := D) (ci := 11) (v := .ref aMst) (C := R_MO) (T := T_MO) (N := 29) hx hb hT u_MO hown hK hP 0 rfl rfl 1 (by decide) (hT _ k_1044) (fun _ h9 => h9) rfl d_MO_swap_16 ?_
      refine lv_iload_n hx hb d_MO_swap_19 rfl (lv_at hl 2 rfl) ?_
      refine lv_aload_n hx hb d_MO_swap_20 rfl (lv_at hl 1 rfl) ?_
      refine va_get (D := D) (ci := 11) (v := .ref aMst) (C := R_MO) (T := T_MO) (N := 29) hx hb hT u_MO hown hK hP 0 rfl rfl 1 (by decide) (hT _ k_1044) (fun _ h9 => h9) rfl d_MO_swap_21 ?_
      refine lv_ldc (v := 40000) hx hb hown (hT _ k_1190) d_MO_swap_24 ?_
      refine lv_iload_n hx hb d_MO_swap_26 rfl (lv_at hl 2 rfl) ?_
      refine lv_iadd hx hb d_MO_swap_27 ?_
      by_cases c_3 : 0 ≤ (40000 + x1) ∧ (40000 + x1) < 136400
      rotate_left
      · exact op_no hs (by rw [hV, tw_MO_swap_h2, if_neg c_1, if_pos c_2, if_neg c_3])
      refine va_iald hx hb hK hP 1 1 rfl rfl (in_pp c_3.1 c_3.2 rfl) d_MO_swap_28 ?_
      refine va_iast hx hb hK hP hD hS 1 1 rfl rfl (in_pp c_2.1 c_2.2 rfl) d_MO_swap_29 (fun H locs hP hD hS => ?_)
      have hP : va_P D vwCl [(aM, .inr (11, [.int thr, .ref aMst, .int tpd, .ref aMdcs, .ref aMtot, .ref aMfrm, .ref aMsiz, .int frs, .int frt, .ref aMffr, .ref aMfsz, .int top, .int bgn, .int mst, .int (b2i ovr), .int (b2i tgr), .int lvs, .ref aMlkd, .ref aMlat, .ref aMkkd, .ref aMkat, .ref aModr, .ref aMgrp, .int its, .ref aMikd, .ref aMiat, .long hgh, .long loo, .int (b2i dfl)])), (aMst, .inl (cI, 136400, .inl (upd st x1.toNatClampNeg (st (40000 + x1).toNatClampNeg)))), (aMdcs, .inl (cI, 2, .inl dcs)), (aMtot, .inl (cI, 2, .inl tot)), (aMfrm, .inl (cI, 400, .inl frm)), (aMsiz, .inl (cI, 400, .inl siz))] H := hP
      have hD : va_D A [(aM, .inr (11, [.int thr, .ref aMst, .int tpd, .ref aMdcs, .ref aMtot, .ref aMfrm, .ref aMsiz, .int frs, .int frt, .ref aMffr, .ref aMfsz, .int top, .int bgn, .int mst, .int (b2i ovr), .int (b2i tgr), .int lvs, .ref aMlkd, .ref aMlat, .ref aMkkd, .ref aMkat, .ref aModr, .ref aMgrp, .int its, .ref aMikd, .ref aMiat, .long hgh, .long loo, .int (b2i dfl)])), (aMst, .inl (cI, 136400, .inl (upd st x1.toNatClampNeg (st (40000 + x1).toNatClampNeg)))), (aMdcs, .inl (cI, 2, .inl dcs)), (aMtot, .inl (cI, 2, .inl tot)), (aMfrm, .inl (cI, 400, .inl frm)), (aMsiz, .inl (cI, 400, .inl siz))] := hD
      refine lv_aload_n hx hb d_MO_swap_30 rfl (lv_at hl 1 rfl) ?_
      refine va_get (D := D) (ci := 11) (v := .ref aMst) (C := R_MO) (T := T_MO) (N := 29) hx hb hT u_MO hown hK hP 0 rfl rfl 1 (by decide) (hT _ k_1044) (fun _ h9 => h9) rfl d_MO_swap_31 ?_
      refine lv_ldc (v := 40000) hx hb hown (hT _ k_1190) d_MO_swap_34 ?_
      refine lv_iload_n hx hb d_MO_swap_36 rfl (lv_at hl 2 rfl) ?_
      refine lv_iadd hx hb d_MO_swap_37 ?_
      refine lv_iload_n hx hb d_MO_swap_38 rfl (lv_at hl 0 rfl) ?_
      refine va_iast hx hb hK hP hD hS 1 1 rfl rfl (in_pp c_3.1 c_3.2 rfl) d_MO_swap_39 (fun H locs hP hD hS => ?_)
      have hP : va_P D vwCl [(aM, .inr (11, [.int thr, .ref aMst, .int tpd, .ref aMdcs, .ref aMtot, .ref aMfrm, .ref aMsiz, .int frs, .int frt, .ref aMffr, .ref aMfsz, .int top, .int bgn, .int mst, .int (b2i ovr), .int (b2i tgr), .int lvs, .ref aMlkd, .ref aMlat, .ref aMkkd, .ref aMkat, .ref aModr, .ref aMgrp, .int its, .ref aMikd, .ref aMiat, .long hgh, .long loo, .int (b2i dfl)])), (aMst, .inl (cI, 136400, .inl (upd (upd st x1.toNatClampNeg (st (40000 + x1).toNatClampNeg)) (40000 + x1).toNatClampNeg (st x1.toNatClampNeg)))), (aMdcs, .inl (cI, 2, .inl dcs)), (aMtot, .inl (cI, 2, .inl tot)), (aMfrm, .inl (cI, 400, .inl frm)), (aMsiz, .inl (cI, 400, .inl siz))] H := hP
      have hD : va_D A [(aM, .inr (11, [.int thr, .ref aMst, .int tpd, .ref aMdcs, .ref aMtot, .ref aMfrm, .ref aMsiz, .int frs, .int frt, .ref aMffr, .ref aMfsz, .int top, .int bgn, .int mst, .int (b2i ovr), .int (b2i tgr), .int lvs, .ref aMlkd, .ref aMlat, .ref aMkkd, .ref aMkat, .ref aModr, .ref aMgrp, .int its, .ref aMikd, .ref aMiat, .long hgh, .long loo, .int (b2i dfl)])), (aMst, .inl (cI, 136400, .inl (upd (upd st x1.toNatClampNeg (st (40000 + x1).toNatClampNeg)) (40000 + x1).toNatClampNeg (st x1.toNatClampNeg)))), (aMdcs, .inl (cI, 2, .inl dcs)), (aMtot, .inl (cI, 2, .inl tot)), (aMfrm, .inl (cI, 400, .inl frm)), (aMsiz, .inl (cI, 400, .inl siz))] := hD
      refine lv_iinc (v := x1 + 1) (lv' := [(1, .int (x1 + 1)), (2, .int (st x1.toNatClampNeg)), (0, .ref aM)]) hx hb d_MO_swap_40 hl (k := 2) rfl rfl (by decide) rfl (fun ls hl => ?_)
      refine lv_goto (tgt := 2) hx hb d_MO_swap_43 (by decide) ?_
      exact ih (x1 + 1) (upd (upd st x1.toNatClampNeg (st (40000 + x1).toNatClampNeg)) (40000 + x1).toNatClampNeg (st x1.toNatClampNeg)) dcs tot frm siz (by rw [hV, tw_MO_swap_h2, if_neg c_1, if_pos c_2, if_pos c_3]) _ _ hP hD hS ls (lv_sub hl [2, 0] rfl)
set_option maxHeartbeats 4000000 in
set_option maxRecDepth 100000 in
theorem l_MO_swap_h48 {p : Program} {e : Env} {s : State} {m : MethodId} {args : Array Value} {below : List Frame} {meth : Method} {c : Code} {V : Option ((Nat → Int32) × (Nat → Int32) × (Nat → Int32) × (Nat → Int32) × (Nat → Int32))} {V0 : (Nat → Int32) × (Nat → Int32) × (Nat → Int32) × (Nat → Int32) × (Nat → Int32)} (C0 : lc_C p s m meth c args b_MO_swap 3 none R_MO lw_g) (hs : V = some V0) (l : Launch) (D : va_G) (cB cI : ClassId) (aM aMst aMdcs aMtot aMfrm aMsiz aMffr aMfsz aMlkd aMlat aMkkd aMkat aModr aMgrp aMikd aMiat : Nat) (fu : Nat) (thr : Int32) (tpd : Int32) (frs : Int32) (frt : Int32) (top : Int32) (bgn : Int32) (mst : Int32) (ovr : Bool) (tgr : Bool) (lvs : Int32) (its : Int32) (hgh : Int64) (loo : Int64) (dfl : Bool) {A : Nat → Prop} (hk : hk_ D cB cI s) (hA : ∀ q : Nat, s.heap.size ≤ q → A q)  {K : Int32 → (Nat → Int32) → (Nat → Int32) → (Nat → Int32) → (Nat → Int32) → (Nat → Int32) → Option ((Nat → Int32) × (Nat → Int32) × (Nat → Int32) × (Nat → Int32) × (Nat → Int32))} (hKx : ∀ (x1 : Int32) (st : Nat → Int32) (dcs : Nat → Int32) (tot : Nat → Int32) (frm : Nat → Int32) (siz : Nat → Int32), V = K x1 st dcs tot frm siz → ∀ (H : Heap) (locs : List Loc), va_P D vwCl [(aM, .inr (11, [.int thr, .ref aMst, .int tpd, .ref aMdcs, .ref aMtot, .ref aMfrm, .ref aMsiz, .int frs, .int frt, .ref aMffr, .ref aMfsz, .int top, .int bgn, .int mst, .int (b2i ovr), .int (b2i tgr), .int lvs, .ref aMlkd, .ref aMlat, .ref aMkkd, .ref aMkat, .ref aModr, .ref aMgrp, .int its, .ref aMikd, .ref aMiat, .long hgh, .long loo, .int (b2i dfl)])), (aMst, .inl (cI, 136400, .inl st)), (aMdcs, .inl (cI, 2, .inl dcs)), (aMtot, .inl (cI, 2, .inl tot)), (aMfrm, .inl (cI, 400, .inl frm)), (aMsiz, .inl (cI, 400, .inl siz))] H → va_D A [(aM, .inr (11, [.int thr, .ref aMst, .int tpd, .ref aMdcs, .ref aMtot, .ref aMfrm, .ref aMsiz, .int frs, .int frt, .ref aMffr, .ref aMfsz, .int top, .int bgn, .int mst, .int (b2i ovr), .int (b2i tgr), .int lvs, .ref aMlkd, .ref aMlat, .ref aMkkd, .ref aMkat, .ref aModr, .ref aMgrp, .int its, .ref aMikd, .ref aMiat, .long hgh, .long loo, .int (b2i dfl)])), (aMst, .inl (cI, 136400, .inl st)), (aMdcs, .inl (cI, 2, .inl dcs)), (aMtot, .inl (cI, 2, .inl tot)), (aMfrm, .inl (cI, 400, .inl frm)), (aMsiz, .inl (cI, 400, .inl siz))] → va_S A s.heap H locs → ∀ ls : Array Slot, lv_has ls 3 [(0, .ref aM)] → W p l e ({ frames := 0, cells := 0, slots := 0, locals := 0 }) s m args below meth c H locs 0 0 (MQ below (va_Qv (fun (u : (Nat → Int32) × (Nat → Int32) × (Nat → Int32) × (Nat → Int32) × (Nat → Int32)) => u = V0) (mt_B D A (fun u => wd_MO_swap aM aMst aMdcs aMtot aMfrm aMsiz aMffr aMfsz aMlkd aMlat aMkkd aMkat aModr aMgrp aMikd aMiat cB cI thr tpd frs frt top bgn mst ovr tgr lvs its hgh loo dfl u.1 u.2.1 u.2.2.1 u.2.2.2.1 u.2.2.2.2)) A) args s 0 0 A) (F0 m 135 ls [])) : ∀ (n : Nat) (x1 : Int32) (st : Nat → Int32) (dcs : Nat → Int32) (tot : Nat → Int32) (frm : Nat → Int32) (siz : Nat → Int32), V = tw_MO_swap_h48 fu K n x1 st dcs tot frm siz → ∀ (H : Heap) (locs : List Loc), va_P D vwCl [(aM, .inr (11, [.int thr, .ref aMst, .int tpd, .ref aMdcs, .ref aMtot, .ref aMfrm, .ref aMsiz, .int frs, .int frt, .ref aMffr, .ref aMfsz, .int top, .int bgn, .int mst, .int (b2i ovr), .int (b2i tgr), .int lvs, .ref aMlkd, .ref aMlat, .ref aMkkd, .ref aMkat, .ref aModr, .ref aMgrp, .int its, .ref aMikd, .ref aMiat, .long hgh, .long loo, .int (b2i dfl)])), (aMst, .inl (cI, 136400, .inl st)), (aMdcs, .inl (cI, 2, .inl dcs)), (aMtot, .inl (cI, 2, .inl tot)), (aMfrm, .inl (cI, 400, .inl frm)), (aMsiz, .inl (cI, 400, .inl siz))] H → va_D A [(aM, .inr (11, [.int thr, .ref aMst, .int tpd, .ref aMdcs, .ref aMtot, .ref aMfrm, .ref aMsiz, .int frs, .int frt, .ref aMffr, .ref aMfsz, .int top, .int bgn, .int mst, .int (b2i ovr), .int (b2i tgr), .int lvs, .ref aMlkd, .ref aMlat, .ref aMkkd, .ref aMkat, .ref aModr, .ref aMgrp, .int its, .ref aMikd, .ref aMiat, .long hgh, .long loo, .int (b2i dfl)])), (aMst, .inl (cI, 136400, .inl st)), (aMdcs, .inl (cI, 2, .inl dcs)), (aMtot, .inl (cI, 2, .inl tot)), (aMfrm, .inl (cI, 400, .inl frm)), (aMsiz, .inl (cI, 400, .inl siz))] → va_S A s.heap H locs → ∀ ls : Array Slot, lv_has ls 3 [(0, .ref aM), (1, .int x1)] → W p l e ({ frames := 0, cells := 0, slots := 0, locals := 0 }) s m args below meth c H locs 0 0 (MQ below (va_Qv (fun (u : (Nat → Int32) × (Nat → Int32) × (Nat → Int32) × (Nat → Int32) × (Nat → Int32)) => u = V0) (mt_B D A (fun u => wd_MO_swap aM aMst aMdcs aMtot aMfrm aMsiz aMffr aMfsz aMlkd aMlat aMkkd aMkat aModr aMgrp aMikd aMiat cB cI thr tpd frs frt top bgn mst ovr tgr lvs its hgh loo dfl u.1 u.2.1 u.2.2.1 u.2.2.2.1 u.2.2.2.2)) A) args s 0 0 A) (F0 m 48 ls []) := by
  obtain ⟨hx, hb, hml, hr, hown, hlocks, hT⟩ := id C0
  have hK := hk.1
  have hN := hk.2.1
  intro n
  induction n with
  | zero =>
    intro x1 st dcs tot frm siz hV
    exact op_no hs (hV.trans rfl)
  | succ n ih =>
    intro x1 st dcs tot frm siz hV H locs hP hD hS ls hl
    refine lv_iload_n hx hb d_MO_swap_48 rfl (lv_at hl 1 rfl) ?_
    refine lv_sipush (v := 200) hx hb d_MO_swap_49 (by decide) ?_
    refine lv_icmp_ge (tgt := 135) hx hb d_MO_swap_52 (by decide) (fun c_5 => ?_) (fun c_5 => ?_)
    · exact hKx x1 st dcs tot frm siz (by rw [hV, tw_MO_swap_h48, if_pos c_5]) _ _ hP hD hS ls (lv_sub hl [0] rfl)
    · refine lv_aload_n hx hb d_MO_swap_55 rfl (lv_at hl 0 rfl) ?_
      refine va_get (D := D) (ci := 11) (v := .ref aMfrm) (C := R_MO) (T := T_MO) (N := 29) hx hb hT u_MO hown hK hP 0 rfl rfl 5 (by decide) (hT _ k_1048) (fun _ h9 => h9) rfl d_MO_swap_56 ?_
      refine lv_iload_n hx hb d_MO_swap_59 rfl (lv_at hl 1 rfl) ?_
      by_cases c_6 : 0 ≤ x1 ∧ x1 < 400
      rotate_left
      · exact op_no hs (by rw [hV, tw_MO_swap_h48, if_neg c_5, if_neg c_6])
      refine va_iald hx hb hK hP 4 1 rfl rfl (in_pp c_6.1 c_6.2 rfl) d_MO_swap_60 ?_
      refine lv_istore_n (lv' := [(2, .int (frm x1.toNatClampNeg)), (0, .ref aM), (1, .int x1)]) hx hb d_MO_swap_61 rfl hl (by decide) rfl (fun ls hl => ?_)
      refine lv_aload_n hx hb d_MO_swap_62 rfl (lv_at hl 1 rfl) ?_
      refine va_get (D := D) (ci := 11) (v := .ref aMfrm) (C := R_MO) (T := T_MO) (N := 29) hx hb hT u_MO hown hK hP 0 rfl rfl 5 (by decide) (hT _ k_1048) (fun _ h9 => h9) rfl d_MO_swap_63 ?_
      refine lv_iload_n hx hb d_MO_swap_66 rfl (lv_at hl 2 rfl) ?_
      refine lv_aload_n hx hb d_MO_swap_67 rfl (lv_at hl 1 rfl) ?_
      refine va_get (D := D) (ci := 11) (v := .ref aMfrm) (C := R_MO) (T := T_MO) (N := 29) hx hb hT u_MO hown hK hP 0 rfl rfl 5 (by decide) (hT _ k_1048) (fun _ h9 => h9) rfl d_MO_swap_68 ?_
      refine lv_sipush (v := 200) hx hb d_MO_swap_71 (by decide) ?_
      refine lv_iload_n hx hb d_MO_swap_74 rfl (lv_at hl 2 rfl) ?_
      refine lv_iadd hx hb d_MO_swap_75 ?_
      by_cases c_7 : 0 ≤ (200 + x1) ∧ (200 + x1) < 400
      rotate_left
      · exact op_no hs (by rw [hV, tw_MO_swap_h48, if_neg c_5, if_pos c_6, if_neg c_7])
      refine va_iald hx hb hK hP 4 1 rfl rfl (in_pp c_7.1 c_7.2 rfl) d_MO_swap_76 ?_
      refine lv_ldc (v := 40000) hx hb hown (hT _ k_1190) d_MO_swap_77 ?_
      refine lv_isub hx hb d_MO_swap_79 ?_
      refine va_iast hx hb hK hP hD hS 4 1 rfl rfl (in_pp c_6.1 c_6.2 rfl) d_MO_swap_80 (fun H locs hP hD hS => ?_)
      have hP : va_P D vwCl [(aM, .inr (11, [.int thr, .ref aMst, .int tpd, .ref aMdcs, .ref aMtot, .ref aMfrm, .ref aMsiz, .int frs, .int frt, .ref aMffr, .ref aMfsz, .int top, .int bgn, .int mst, .int (b2i ovr), .int (b2i tgr), .int lvs, .ref aMlkd, .ref aMlat, .ref aMkkd, .ref aMkat, .ref aModr, .ref aMgrp, .int its, .ref aMikd, .ref aMiat, .long hgh, .long loo, .int (b2i dfl)])), (aMst, .inl (cI, 136400, .inl st)), (aMdcs, .inl (cI, 2, .inl dcs)), (aMtot, .inl (cI, 2, .inl tot)), (aMfrm, .inl (cI, 400, .inl (upd frm x1.toNatClampNeg ((frm (200 + x1).toNatClampNeg) - 40000)))), (aMsiz, .inl (cI, 400, .inl siz))] H := hP
      have hD : va_D A [(aM, .inr (11, [.int thr, .ref aMst, .int tpd, .ref aMdcs, .ref aMtot, .ref aMfrm, .ref aMsiz, .int frs, .int frt, .ref aMffr, .ref aMfsz, .int top, .int bgn, .int mst, .int (b2i ovr), .int (b2i tgr), .int lvs, .ref aMlkd, .ref aMlat, .ref aMkkd, .ref aMkat, .ref aModr, .ref aMgrp, .int its, .ref aMikd, .ref aMiat, .long hgh, .long loo, .int (b2i dfl)])), (aMst, .inl (cI, 136400, .inl st)), (aMdcs, .inl (cI, 2, .inl dcs)), (aMtot, .inl (cI, 2, .inl tot)), (aMfrm, .inl (cI, 400, .inl (upd frm x1.toNatClampNeg ((frm (200 + x1).toNatClampNeg) - 40000)))), (aMsiz, .inl (cI, 400, .inl siz))] := hD
      refine lv_aload_n hx hb d_MO_swap_81 rfl (lv_at hl 1 rfl) ?_
      refine va_get (D := D) (ci := 11) (v := .ref aMfrm) (C := R_MO) (T := T_MO) (N := 29) hx hb hT u_MO hown hK hP 0 rfl rfl 5 (by decide) (hT _ k_1048) (fun _ h9 => h9) rfl d_MO_swap_82 ?_
      refine lv_sipush (v := 200) hx hb d_MO_swap_85 (by decide) ?_
      refine lv_iload_n hx hb d_MO_swap_88 rfl (lv_at hl 2 rfl) ?_
      refine lv_iadd hx hb d_MO_swap_89 ?_
      refine lv_iload_n hx hb d_MO_swap_90 rfl (lv_at hl 0 rfl) ?_
      refine lv_ldc (v := 40000) hx hb hown (hT _ k_1190) d_MO_swap_91 ?_
      refine lv_iadd hx hb d_MO_swap_93 ?_
      refine va_iast hx hb hK hP hD hS 4 1 rfl rfl (in_pp c_7.1 c_7.2 rfl) d_MO_swap_94 (fun H locs hP hD hS => ?_)
      have hP : va_P D vwCl [(aM, .inr (11, [.int thr, .ref aMst, .int tpd, .ref aMdcs, .ref aMtot, .ref aMfrm, .ref aMsiz, .int frs, .int frt, .ref aMffr, .ref aMfsz, .int top, .int bgn, .int mst, .int (b2i ovr), .int (b2i tgr), .int lvs, .ref aMlkd, .ref aMlat, .ref aMkkd, .ref aMkat, .ref aModr, .ref aMgrp, .int its, .ref aMikd, .ref aMiat, .long hgh, .long loo, .int (b2i dfl)])), (aMst, .inl (cI, 136400, .inl st)), (aMdcs, .inl (cI, 2, .inl dcs)), (aMtot, .inl (cI, 2, .inl tot)), (aMfrm, .inl (cI, 400, .inl (upd (upd frm x1.toNatClampNeg ((frm (200 + x1).toNatClampNeg) - 40000)) (200 + x1).toNatClampNeg ((frm x1.toNatClampNeg) + 40000)))), (aMsiz, .inl (cI, 400, .inl siz))] H := hP
      have hD : va_D A [(aM, .inr (11, [.int thr, .ref aMst, .int tpd, .ref aMdcs, .ref aMtot, .ref aMfrm, .ref aMsiz, .int frs, .int frt, .ref aMffr, .ref aMfsz, .int top, .int bgn, .int mst, .int (b2i ovr), .int (b2i tgr), .int lvs, .ref aMlkd, .ref aMlat, .ref aMkkd, .ref aMkat, .ref aModr, .ref aMgrp, .int its, .ref aMikd, .ref aMiat, .long hgh, .long loo, .int (b2i dfl)])), (aMst, .inl (cI, 136400, .inl st)), (aMdcs, .inl (cI, 2, .inl dcs)), (aMtot, .inl (cI, 2, .inl tot)), (aMfrm, .inl (cI, 400, .inl (upd (upd frm x1.toNatClampNeg ((frm (200 + x1).toNatClampNeg) - 40000)) (200 + x1).toNatClampNeg ((frm x1.toNatClampNeg) + 40000)))), (aMsiz, .inl (cI, 400, .inl siz))] := hD
      refine lv_aload_n hx hb d_MO_swap_95 rfl (lv_at hl 1 rfl) ?_
      refine va_get (D := D) (ci := 11) (v := .ref aMsiz) (C := R_MO) (T := T_MO) (N := 29) hx hb hT u_MO hown hK hP 0 rfl rfl 6 (by decide) (hT _ k_1049) (fun _ h9 => h9) rfl d_MO_swap_96 ?_
      refine lv_iload_n hx hb d_MO_swap_99 rfl (lv_at hl 2 rfl) ?_
      refine va_iald hx hb hK hP 5 1 rfl rfl (in_pp c_6.1 c_6.2 rfl) d_MO_swap_100 ?_
      refine lv_istore_n (lv' := [(2, .int (siz x1.toNatClampNeg)), (0, .ref aM), (1, .int x1)]) hx hb d_MO_swap_101 rfl hl (by decide) rfl (fun ls hl => ?_)
      refine lv_aload_n hx hb d_MO_swap_102 rfl (lv_at hl 1 rfl) ?_
      refine va_get (D := D) (ci := 11) (v := .ref aMsiz) (C := R_MO) (T := T_MO) (N := 29) hx hb hT u_MO hown hK hP 0 rfl rfl 6 (by decide) (hT _ k_1049) (fun _ h9 => h9) rfl d_MO_swap_103 ?_
      refine lv_iload_n hx hb d_MO_swap_106 rfl (lv_at hl 2 rfl) ?_
      refine lv_aload_n hx hb d_MO_swap_107 rfl (lv_at hl 1 rfl) ?_
      refine va_get (D := D) (ci := 11) (v := .ref aMsiz) (C := R_MO) (T := T_MO) (N := 29) hx hb hT u_MO hown hK hP 0 rfl rfl 6 (by decide) (hT _ k_1049) (fun _ h9 => h9) rfl d_MO_swap_108 ?_
      refine lv_sipush (v := 200) hx hb d_MO_swap_111 (by decide) ?_
      refine lv_iload_n hx hb d_MO_swap_114 rfl (lv_at hl 2 rfl) ?_
      refine lv_iadd hx hb d_MO_swap_115 ?_
      refine va_iald hx hb hK hP 5 1 rfl rfl (in_pp c_7.1 c_7.2 rfl) d_MO_swap_116 ?_
      refine va_iast hx hb hK hP hD hS 5 1 rfl rfl (in_pp c_6.1 c_6.2 rfl) d_MO_swap_117 (fun H locs hP hD hS => ?_)
      have hP : va_P D vwCl [(aM, .inr (11, [.int thr, .ref aMst, .int tpd, .ref aMdcs, .ref aMtot, .ref aMfrm, .ref aMsiz, .int frs, .int frt, .ref aMffr, .ref aMfsz, .int top, .int bgn, .int mst, .int (b2i ovr), .int (b2i tgr), .int lvs, .ref aMlkd, .ref aMlat, .ref aMkkd, .ref aMkat, .ref aModr, .ref aMgrp, .int its, .ref aMikd, .ref aMiat, .long hgh, .long loo, .int (b2i dfl)])), (aMst, .inl (cI, 136400, .inl st)), (aMdcs, .inl (cI, 2, .inl dcs)), (aMtot, .inl (cI, 2, .inl tot)), (aMfrm, .inl (cI, 400, .inl (upd (upd frm x1.toNatClampNeg ((frm (200 + x1).toNatClampNeg) - 40000)) (200 + x1).toNatClampNeg ((frm x1.toNatClampNeg) + 40000)))), (aMsiz, .inl (cI, 400, .inl (upd siz x1.toNatClampNeg (siz (200 + x1).toNatClampNeg))))] H := hP
      have hD : va_D A [(aM, .inr (11, [.int thr, .ref aMst, .int tpd, .ref aMdcs, .ref aMtot, .ref aMfrm, .ref aMsiz, .int frs, .int frt, .ref aMffr, .ref aMfsz, .int top, .int bgn, .int mst, .int (b2i ovr), .int (b2i tgr), .int lvs, .ref aMlkd, .ref aMlat, .ref aMkkd, .ref aMkat, .ref aModr, .ref aMgrp, .int its, .ref aMikd, .ref aMiat, .long hgh, .long loo, .int (b2i dfl)])), (aMst, .inl (cI, 136400, .inl st)), (aMdcs, .inl (cI, 2, .inl dcs)), (aMtot, .inl (cI, 2, .inl tot)), (aMfrm, .inl (cI, 400, .inl (upd (upd frm x1.toNatClampNeg ((frm (200 + x1).toNatClampNeg) - 40000)) (200 + x1).toNatClampNeg ((frm x1.toNatClampNeg) + 40000)))), (aMsiz, .inl (cI, 400, .inl (upd siz x1.toNatClampNeg (siz (200 + x1).toNatClampNeg))))] := hD
      refine lv_aload_n hx hb d_MO_swap_118 rfl (lv_at hl 1 rfl) ?_
      refine va_get (D := D) (ci := 11) (v := .ref aMsiz) (C := R_MO) (T := T_MO) (N := 29) hx hb hT u_MO hown hK hP 0 rfl rfl 6 (by decide) (hT _ k_1049) (fun _ h9 => h9) rfl d_MO_swap_119 ?_
      refine lv_sipush (v := 200) hx hb d_MO_swap_122 (by decide) ?_
      refine lv_iload_n hx hb d_MO_swap_125 rfl (lv_at hl 2 rfl) ?_
      refine lv_iadd hx hb d_MO_swap_126 ?_
      refine lv_iload_n hx hb d_MO_swap_127 rfl (lv_at hl 0 rfl) ?_
      refine va_iast hx hb hK hP hD hS 5 1 rfl rfl (in_pp c_7.1 c_7.2 rfl) d_MO_swap_128 (fun H locs hP hD hS => ?_)
      have hP : va_P D vwCl [(aM, .inr (11, [.int thr, .ref aMst, .int tpd, .ref aMdcs, .ref aMtot, .ref aMfrm, .ref aMsiz, .int frs, .int frt, .ref aMffr, .ref aMfsz, .int top, .int bgn, .int mst, .int (b2i ovr), .int (b2i tgr), .int lvs, .ref aMlkd, .ref aMlat, .ref aMkkd, .ref aMkat, .ref aModr, .ref aMgrp, .int its, .ref aMikd, .ref aMiat, .long hgh, .long loo, .int (b2i dfl)])), (aMst, .inl (cI, 136400, .inl st)), (aMdcs, .inl (cI, 2, .inl dcs)), (aMtot, .inl (cI, 2, .inl tot)), (aMfrm, .inl (cI, 400, .inl (upd (upd frm x1.toNatClampNeg ((frm (200 + x1).toNatClampNeg) - 40000)) (200 + x1).toNatClampNeg ((frm x1.toNatClampNeg) + 40000)))), (aMsiz, .inl (cI, 400, .inl (upd (upd siz x1.toNatClampNeg (siz (200 + x1).toNatClampNeg)) (200 + x1).toNatClampNeg (siz x1.toNatClampNeg))))] H := hP
      have hD : va_D A [(aM, .inr (11, [.int thr, .ref aMst, .int tpd, .ref aMdcs, .ref aMtot, .ref aMfrm, .ref aMsiz, .int frs, .int frt, .ref aMffr, .ref aMfsz, .int top, .int bgn, .int mst, .int (b2i ovr), .int (b2i tgr), .int lvs, .ref aMlkd, .ref aMlat, .ref aMkkd, .ref aMkat, .ref aModr, .ref aMgrp, .int its, .ref aMikd, .ref aMiat, .long hgh, .long loo, .int (b2i dfl)])), (aMst, .inl (cI, 136400, .inl st)), (aMdcs, .inl (cI, 2, .inl dcs)), (aMtot, .inl (cI, 2, .inl tot)), (aMfrm, .inl (cI, 400, .inl (upd (upd frm x1.toNatClampNeg ((frm (200 + x1).toNatClampNeg) - 40000)) (200 + x1).toNatClampNeg ((frm x1.toNatClampNeg) + 40000)))), (aMsiz, .inl (cI, 400, .inl (upd (upd siz x1.toNatClampNeg (siz (200 + x1).toNatClampNeg)) (200 + x1).toNatClampNeg (siz x1.toNatClampNeg))))] := hD
      refine lv_iinc (v := x1 + 1) (lv' := [(1, .int (x1 + 1)), (2, .int (siz x1.toNatClampNeg)), (0, .ref aM)]) hx hb d_MO_swap_129 hl (k := 2) rfl rfl (by decide) rfl (fun ls hl => ?_)
      refine lv_goto (tgt := 48) hx hb d_MO_swap_132 (by decide) ?_
      exact ih (x1 + 1) st dcs tot (upd (upd frm x1.toNatClampNeg ((frm (200 + x1).toNatClampNeg) - 40000)) (200 + x1).toNatClampNeg ((frm x1.toNatClampNeg) + 40000)) (upd (upd siz x1.toNatClampNeg (siz (200 + x1).toNatClampNeg)) (200 + x1).toNatClampNeg (siz x1.toNatClampNeg)) (by rw [hV, tw_MO_swap_h48, if_neg c_5, if_pos c_6, if_pos c_7]) _ _ hP hD hS ls (lv_sub hl [2, 0] rfl)
set_option maxHeartbeats 4000000 in
set_option maxRecDepth 100000 in
theorem c_MO_swap (l : Launch) (D : va_G) (cB cI : ClassId) (aM aMst aMdcs aMtot aMfrm aMsiz aMffr aMfsz aMlkd aMlat aMkkd aMkat aModr aMgrp aMikd aMiat : Nat) (fu : Nat) (thr : Int32) (tpd : Int32) (frs : Int32) (frt : Int32) (top : Int32) (bgn : Int32) (mst : Int32) (ovr : Bool) (tgr : Bool) (lvs : Int32) (its : Int32) (hgh : Int64) (loo : Int64) (dfl : Bool) (sz : Nat) (st : Nat → Int32) (dcs : Nat → Int32) (tot : Nat → Int32) (frm : Nat → Int32) (siz : Nat → Int32) (V0 : (Nat → Int32) × (Nat → Int32) × (Nat → Int32) × (Nat → Int32) × (Nat → Int32)) (hs : tw_MO_swap fu st dcs tot frm siz = some V0) : Met l y_MO_swap mw_MO_swap { frames := 0, cells := 0, slots := 0, locals := 0 } (va_Pc [.ref aM] (mt_P D cB cI (wd_MO_swap aM aMst aMdcs aMtot aMfrm aMsiz aMffr aMfsz aMlkd aMlat aMkkd aMkat aModr aMgrp aMikd aMiat cB cI thr tpd frs frt top bgn mst ovr tgr lvs its hgh loo dfl st dcs tot frm siz) sz)) (va_Qv (fun (u : (Nat → Int32) × (Nat → Int32) × (Nat → Int32) × (Nat → Int32) × (Nat → Int32)) => u = V0) (mt_B D (va_A (wd_MO_swap aM aMst aMdcs aMtot aMfrm aMsiz aMffr aMfsz aMlkd aMlat aMkkd aMkat aModr aMgrp aMikd aMiat cB cI thr tpd frs frt top bgn mst ovr tgr lvs its hgh loo dfl st dcs tot frm siz) sz) (fun u => wd_MO_swap aM aMst aMdcs aMtot aMfrm aMsiz aMffr aMfsz aMlkd aMlat aMkkd aMkat aModr aMgrp aMikd aMiat cB cI thr tpd frs frt top bgn mst ovr tgr lvs its hgh loo dfl u.1 u.2.1 u.2.2.1 u.2.2.2.1 u.2.2.2.2)) (va_A (wd_MO_swap aM aMst aMdcs aMtot aMfrm aMsiz aMffr aMfsz aMlkd aMlat aMkkd aMkat aModr aMgrp aMikd aMiat cB cI thr tpd frs frt top bgn mst ovr tgr lvs its hgh loo dfl st dcs tot frm siz) sz)) 0 0 (va_A (wd_MO_swap aM aMst aMdcs aMtot aMfrm aMsiz aMffr aMfsz aMlkd aMlat aMkkd aMkat aModr aMgrp aMikd aMiat cB cI thr tpd frs frt top bgn mst ovr tgr lvs its hgh loo dfl st dcs tot frm siz) sz) := by
  refine Met.ofW (cc := b_MO_swap) (maxL := 3) (ret := none) (by decide) rfl ?_
  intro p e s m args below meth c s₁ B0 hml hv
  obtain ⟨rfl, hsz, hP, hk, hD0⟩ := hv
  have hK := hk.1
  have hN := hk.2.1
  have hx := B0.exec
  have hb := B0.bytes
  have hr := B0.returns
  have hT : ∀ w ∈ lw_g, w.before _ s = true := fun w h => atoms_spec (ws := mw_MO_swap) B0.pre w (List.mem_cons_of_mem _ h)
  have hown : s.vm.findClass R_MO = some m.cls := findClass_of_methodNamed B0.named
  have hlocks := B0.notSynchronized
  subst hsz
  have hD := hD0.self (sz := s.heap.size)
  generalize hAe : va_A [(aM, .inr (11, [.int thr, .ref aMst, .int tpd, .ref aMdcs, .ref aMtot, .ref aMfrm, .ref aMsiz, .int frs, .int frt, .ref aMffr, .ref aMfsz, .int top, .int bgn, .int mst, .int (b2i ovr), .int (b2i tgr), .int lvs, .ref aMlkd, .ref aMlat, .ref aMkkd, .ref aMkat, .ref aModr, .ref aMgrp, .int its, .ref aMikd, .ref aMiat, .long hgh, .long loo, .int (b2i dfl)])), (aMst, .inl (cI, 136400, .inl st)), (aMdcs, .inl (cI, 2, .inl dcs)), (aMtot, .inl (cI, 2, .inl tot)), (aMfrm, .inl (cI, 400, .inl frm)), (aMsiz, .inl (cI, 400, .inl siz))] s.heap.size = A at hD ⊢
  have hA : ∀ q : Nat, s.heap.size ≤ q → A q := fun q h => by rw [← hAe]; exact Or.inr h
  have hS : va_S A s.heap s.heap [] := va_S.rf
  have hl := lv_entry ([.ref aM]) (n := 3) (Nat.le_of_ble_eq_true rfl)
  rw [lg_entry_eq]
  generalize (lg_sl ([.ref aM]) ++ List.replicate (3 - (lg_sl ([.ref aM])).length) Slot.unset).toArray = ls at hl ⊢
  have hl : lv_has ls 3 [(0, .ref aM)] := hl
  have C0 : lc_C p s m meth c _ b_MO_swap 3 none R_MO lw_g := ⟨hx, hb, hml, hr, hown, hlocks, hT⟩
  refine lv_iconst (v := 0) hx hb d_MO_swap_0 (by decide) ?_
  refine lv_istore_n (lv' := [(1, .int 0), (0, .ref aM)]) hx hb d_MO_swap_1 rfl hl (by decide) rfl (fun ls hl => ?_)
  refine l_MO_swap_h2 C0 hs l D cB cI aM aMst aMdcs aMtot aMfrm aMsiz aMffr aMfsz aMlkd aMlat aMkkd aMkat aModr aMgrp aMikd aMiat fu thr tpd frs frt top bgn mst ovr tgr lvs its hgh loo dfl hk hA   (K := (fun (x1_4 : Int32) (st_4 : Nat → Int32) (dcs_4 : Nat → Int32) (tot_4 : Nat → Int32) (frm_4 : Nat → Int32) (siz_4 : Nat → Int32) =>
      tw_MO_swap_h48 fu (fun (x1_8 : Int32) (st_8 : Nat → Int32) (dcs_8 : Nat → Int32) (tot_8 : Nat → Int32) (frm_8 : Nat → Int32) (siz_8 : Nat → Int32) =>
      some (st_8, upd (upd dcs_8 (0 : Int32).toNatClampNeg (dcs_8 (1 : Int32).toNatClampNeg)) (1 : Int32).toNatClampNeg (dcs_8 (0 : Int32).toNatClampNeg), upd (upd tot_8 (0 : Int32).toNatClampNeg (tot_8 (1 : Int32).toNatClampNeg)) (1 : Int32).toNatClampNeg (tot_8 (0 : Int32).toNatClampNeg), frm_8, siz_8)) fu 0 st_4 dcs_4 tot_4 frm_4 siz_4)) ?_ fu 0 st dcs tot frm siz  (by rw [tw_MO_swap]) _ _ hP hD hS ls (lv_sub hl [1, 0] rfl)
  intro x1_4 st_4 dcs_4 tot_4 frm_4 siz_4 hV_4 H locs hP hD hS ls hl
  refine lv_iconst (v := 0) hx hb d_MO_swap_46 (by decide) ?_
  refine lv_istore_n (lv' := [(1, .int 0), (0, .ref aM)]) hx hb d_MO_swap_47 rfl hl (by decide) rfl (fun ls hl => ?_)
  refine l_MO_swap_h48 C0 hs l D cB cI aM aMst aMdcs aMtot aMfrm aMsiz aMffr aMfsz aMlkd aMlat aMkkd aMkat aModr aMgrp aMikd aMiat fu thr tpd frs frt top bgn mst ovr tgr lvs its hgh loo dfl hk hA   (K := (fun (x1_8 : Int32) (st_8 : Nat → Int32) (dcs_8 : Nat → Int32) (tot_8 : Nat → Int32) (frm_8 : Nat → Int32) (siz_8 : Nat → Int32) =>
      some (st_8, upd (upd dcs_8 (0 : Int32).toNatClampNeg (dcs_8 (1 : Int32).toNatClampNeg)) (1 : Int32).toNatClampNeg (dcs_8 (0 : Int32).toNatClampNeg), upd (upd tot_8 (0 : Int32).toNatClampNeg (tot_8 (1 : Int32).toNatClampNeg)) (1 : Int32).toNatClampNeg (tot_8 (0 : Int32).toNatClampNeg), frm_8, siz_8))) ?_ fu 0 st_4 dcs_4 tot_4 frm_4 siz_4  (by rw [hV_4]) _ _ hP hD hS ls (lv_sub hl [1, 0] rfl)
  intro x1_8 st_8 dcs_8 tot_8 frm_8 siz_8 hV_8 H locs hP hD hS ls hl
  refine lv_aload_n hx hb d_MO_swap_135 rfl (lv_at hl 0 rfl) ?_
  refine va_get (D := D) (ci := 11) (v := .ref aMdcs) (C := R_MO) (T := T_MO) (N := 29) hx hb hT u_MO hown hK hP 0 rfl rfl 3 (by decide) (hT _ k_1046) (fun _ h9 => h9) rfl d_MO_swap_136 ?_
  refine lv_iconst (v := 0) hx hb d_MO_swap_139 (by decide) ?_
  refine va_iald hx hb hK hP 2 1 rfl rfl (by unfold vp_in; decide) d_MO_swap_140 ?_
  refine lv_istore_n (lv' := [(1, .int (dcs_8 (0 : Int32).toNatClampNeg)), (0, .ref aM)]) hx hb d_MO_swap_141 rfl hl (by decide) rfl (fun ls hl => ?_)
  refine lv_aload_n hx hb d_MO_swap_142 rfl (lv_at hl 1 rfl) ?_
  refine va_get (D := D) (ci := 11) (v := .ref aMdcs) (C := R_MO) (T := T_MO) (N := 29) hx hb hT u_MO hown hK hP 0 rfl rfl 3 (by decide) (hT _ k_1046) (fun _ h9 => h9) rfl d_MO_swap_143 ?_
  refine lv_iconst (v := 0) hx hb d_MO_swap_146 (by decide) ?_
  refine lv_aload_n hx hb d_MO_swap_147 rfl (lv_at hl 1 rfl) ?_
  refine va_get (D := D) (ci := 11) (v := .ref aMdcs) (C := R_MO) (T := T_MO) (N := 29) hx hb hT u_MO hown hK hP 0 rfl rfl 3 (by decide) (hT _ k_1046) (fun _ h9 => h9) rfl d_MO_swap_148 ?_
  refine lv_iconst (v := 1) hx hb d_MO_swap_151 (by decide) ?_
  refine va_iald hx hb hK hP 2 1 rfl rfl (by unfold vp_in; decide) d_MO_swap_152 ?_
  refine va_iast hx hb hK hP hD hS 2 1 rfl rfl (by unfold vp_in; decide) d_MO_swap_153 (fun H locs hP hD hS => ?_)
  have hP : va_P D vwCl [(aM, .inr (11, [.int thr, .ref aMst, .int tpd, .ref aMdcs, .ref aMtot, .ref aMfrm, .ref aMsiz, .int frs, .int frt, .ref aMffr, .ref aMfsz, .int top, .int bgn, .int mst, .int (b2i ovr), .int (b2i tgr), .int lvs, .ref aMlkd, .ref aMlat, .ref aMkkd, .ref aMkat, .ref aModr, .ref aMgrp, .int its, .ref aMikd, .ref aMiat, .long hgh, .long loo, .int (b2i dfl)])), (aMst, .inl (cI, 136400, .inl st_8)), (aMdcs, .inl (cI, 2, .inl (upd dcs_8 (0 : Int32).toNatClampNeg (dcs_8 (1 : Int32).toNatClampNeg)))), (aMtot, .inl (cI, 2, .inl tot_8)), (aMfrm, .inl (cI, 400, .inl frm_8)), (aMsiz, .inl (cI, 400, .inl siz_8))] H := hP
  have hD : va_D A [(aM, .inr (11, [.int thr, .ref aMst, .int tpd, .ref aMdcs, .ref aMtot, .ref aMfrm, .ref aMsiz, .int frs, .int frt, .ref aMffr, .ref aMfsz, .int top, .int bgn, .int mst, .int (b2i ovr), .int (b2i tgr), .int lvs, .ref aMlkd, .ref aMlat, .ref aMkkd, .ref aMkat, .ref aModr, .ref aMgrp, .int its, .ref aMikd, .ref aMiat, .long hgh, .long loo, .int (b2i dfl)])), (aMst, .inl (cI, 136400, .inl st_8)), (aMdcs, .inl (cI, 2, .inl (upd dcs_8 (0 : Int32).toNatClampNeg (dcs_8 (1 : Int32).toNatClampNeg)))), (aMtot, .inl (cI, 2, .inl tot_8)), (aMfrm, .inl (cI, 400, .inl frm_8)), (aMsiz, .inl (cI, 400, .inl siz_8))] := hD
  refine lv_aload_n hx hb d_MO_swap_154 rfl (lv_at hl 1 rfl) ?_
  refine va_get (D := D) (ci := 11) (v := .ref aMdcs) (C := R_MO) (T := T_MO) (N := 29) hx hb hT u_MO hown hK hP 0 rfl rfl 3 (by decide) (hT _ k_1046) (fun _ h9 => h9) rfl d_MO_swap_155 ?_
  refine lv_iconst (v := 1) hx hb d_MO_swap_158 (by decide) ?_
  refine lv_iload_n hx hb d_MO_swap_159 rfl (lv_at hl 0 rfl) ?_
  refine va_iast hx hb hK hP hD hS 2 1 rfl rfl (by unfold vp_in; decide) d_MO_swap_160 (fun H locs hP hD hS => ?_)
  have hP : va_P D vwCl [(aM, .inr (11, [.int thr, .ref aMst, .int tpd, .ref aMdcs, .ref aMtot, .ref aMfrm, .ref aMsiz, .int frs, .int frt, .ref aMffr, .ref aMfsz, .int top, .int bgn, .int mst, .int (b2i ovr), .int (b2i tgr), .int lvs, .ref aMlkd, .ref aMlat, .ref aMkkd, .ref aMkat, .ref aModr, .ref aMgrp, .int its, .ref aMikd, .ref aMiat, .long hgh, .long loo, .int (b2i dfl)])), (aMst, .inl (cI, 136400, .inl st_8)), (aMdcs, .inl (cI, 2, .inl (upd (upd dcs_8 (0 : Int32).toNatClampNeg (dcs_8 (1 : Int32).toNatClampNeg)) (1 : Int32).toNatClampNeg (dcs_8 (0 : Int32).toNatClampNeg)))), (aMtot, .inl (cI, 2, .inl tot_8)), (aMfrm, .inl (cI, 400, .inl frm_8)), (aMsiz, .inl (cI, 400, .inl siz_8))] H := hP
  have hD : va_D A [(aM, .inr (11, [.int thr, .ref aMst, .int tpd, .ref aMdcs, .ref aMtot, .ref aMfrm, .ref aMsiz, .int frs, .int frt, .ref aMffr, .ref aMfsz, .int top, .int bgn, .int mst, .int (b2i ovr), .int (b2i tgr), .int lvs, .ref aMlkd, .ref aMlat, .ref aMkkd, .ref aMkat, .ref aModr, .ref aMgrp, .int its, .ref aMikd, .ref aMiat, .long hgh, .long loo, .int (b2i dfl)])), (aMst, .inl (cI, 136400, .inl st_8)), (aMdcs, .inl (cI, 2, .inl (upd (upd dcs_8 (0 : Int32).toNatClampNeg (dcs_8 (1 : Int32).toNatClampNeg)) (1 : Int32).toNatClampNeg (dcs_8 (0 : Int32).toNatClampNeg)))), (aMtot, .inl (cI, 2, .inl tot_8)), (aMfrm, .inl (cI, 400, .inl frm_8)), (aMsiz, .inl (cI, 400, .inl siz_8))] := hD
  refine lv_aload_n hx hb d_MO_swap_161 rfl (lv_at hl 1 rfl) ?_
  refine va_get (D := D) (ci := 11) (v := .ref aMtot) (C := R_MO) (T := T_MO) (N := 29) hx hb hT u_MO hown hK hP 0 rfl rfl 4 (by decide) (hT _ k_1047) (fun _ h9 => h9) rfl d_MO_swap_162 ?_
  refine lv_iconst (v := 0) hx hb d_MO_swap_165 (by decide) ?_
  refine va_iald hx hb hK hP 3 1 rfl rfl (by unfold vp_in; decide) d_MO_swap_166 ?_
  refine lv_istore_n (lv' := [(1, .int (tot_8 (0 : Int32).toNatClampNeg)), (0, .ref aM)]) hx hb d_MO_swap_167 rfl hl (by decide) rfl (fun ls hl => ?_)
  refine lv_aload_n hx hb d_MO_swap_168 rfl (lv_at hl 1 rfl) ?_
  refine va_get (D := D) (ci := 11) (v := .ref aMtot) (C := R_MO) (T := T_MO) (N := 29) hx hb hT u_MO hown hK hP 0 rfl rfl 4 (by decide) (hT _ k_1047) (fun _ h9 => h9) rfl d_MO_swap_169 ?_
  refine lv_iconst (v := 0) hx hb d_MO_swap_172 (by decide) ?_
  refine lv_aload_n hx hb d_MO_swap_173 rfl (lv_at hl 1 rfl) ?_
  refine va_get (D := D) (ci := 11) (v := .ref aMtot) (C := R_MO) (T := T_MO) (N := 29) hx hb hT u_MO hown hK hP 0 rfl rfl 4 (by decide) (hT _ k_1047) (fun _ h9 => h9) rfl d_MO_swap_174 ?_
  refine lv_iconst (v := 1) hx hb d_MO_swap_177 (by decide) ?_
  refine va_iald hx hb hK hP 3 1 rfl rfl (by unfold vp_in; decide) d_MO_swap_178 ?_
  refine va_iast hx hb hK hP hD hS 3 1 rfl rfl (by unfold vp_in; decide) d_MO_swap_179 (fun H locs hP hD hS => ?_)
  have hP : va_P D vwCl [(aM, .inr (11, [.int thr, .ref aMst, .int tpd, .ref aMdcs, .ref aMtot, .ref aMfrm, .ref aMsiz, .int frs, .int frt, .ref aMffr, .ref aMfsz, .int top, .int bgn, .int mst, .int (b2i ovr), .int (b2i tgr), .int lvs, .ref aMlkd, .ref aMlat, .ref aMkkd, .ref aMkat, .ref aModr, .ref aMgrp, .int its, .ref aMikd, .ref aMiat, .long hgh, .long loo, .int (b2i dfl)])), (aMst, .inl (cI, 136400, .inl st_8)), (aMdcs, .inl (cI, 2, .inl (upd (upd dcs_8 (0 : Int32).toNatClampNeg (dcs_8 (1 : Int32).toNatClampNeg)) (1 : Int32).toNatClampNeg (dcs_8 (0 : Int32).toNatClampNeg)))), (aMtot, .inl (cI, 2, .inl (upd tot_8 (0 : Int32).toNatClampNeg (tot_8 (1 : Int32).toNatClampNeg)))), (aMfrm, .inl (cI, 400, .inl frm_8)), (aMsiz, .inl (cI, 400, .inl siz_8))] H := hP
  have hD : va_D A [(aM, .inr (11, [.int thr, .ref aMst, .int tpd, .ref aMdcs, .ref aMtot, .ref aMfrm, .ref aMsiz, .int frs, .int frt, .ref aMffr, .ref aMfsz, .int top, .int bgn, .int mst, .int (b2i ovr), .int (b2i tgr), .int lvs, .ref aMlkd, .ref aMlat, .ref aMkkd, .ref aMkat, .ref aModr, .ref aMgrp, .int its, .ref aMikd, .ref aMiat, .long hgh, .long loo, .int (b2i dfl)])), (aMst, .inl (cI, 136400, .inl st_8)), (aMdcs, .inl (cI, 2, .inl (upd (upd dcs_8 (0 : Int32).toNatClampNeg (dcs_8 (1 : Int32).toNatClampNeg)) (1 : Int32).toNatClampNeg (dcs_8 (0 : Int32).toNatClampNeg)))), (aMtot, .inl (cI, 2, .inl (upd tot_8 (0 : Int32).toNatClampNeg (tot_8 (1 : Int32).toNatClampNeg)))), (aMfrm, .inl (cI, 400, .inl frm_8)), (aMsiz, .inl (cI, 400, .inl siz_8))] := hD
  refine lv_aload_n hx hb d_MO_swap_180 rfl (lv_at hl 1 rfl) ?_
  refine va_get (D := D) (ci := 11) (v := .ref aMtot) (C := R_MO) (T := T_MO) (N := 29) hx hb hT u_MO hown hK hP 0 rfl rfl 4 (by decide) (hT _ k_1047) (fun _ h9 => h9) rfl d_MO_swap_181 ?_
  refine lv_iconst (v := 1) hx hb d_MO_swap_184 (by decide) ?_
  refine lv_iload_n hx hb d_MO_swap_185 rfl (lv_at hl 0 rfl) ?_
  refine va_iast hx hb hK hP hD hS 3 1 rfl rfl (by unfold vp_in; decide) d_MO_swap_186 (fun H locs hP hD hS => ?_)
  have hP : va_P D vwCl [(aM, .inr (11, [.int thr, .ref aMst, .int tpd, .ref aMdcs, .ref aMtot, .ref aMfrm, .ref aMsiz, .int frs, .int frt, .ref aMffr, .ref aMfsz, .int top, .int bgn, .int mst, .int (b2i ovr), .int (b2i tgr), .int lvs, .ref aMlkd, .ref aMlat, .ref aMkkd, .ref aMkat, .ref aModr, .ref aMgrp, .int its, .ref aMikd, .ref aMiat, .long hgh, .long loo, .int (b2i dfl)])), (aMst, .inl (cI, 136400, .inl st_8)), (aMdcs, .inl (cI, 2, .inl (upd (upd dcs_8 (0 : Int32).toNatClampNeg (dcs_8 (1 : Int32).toNatClampNeg)) (1 : Int32).toNatClampNeg (dcs_8 (0 : Int32).toNatClampNeg)))), (aMtot, .inl (cI, 2, .inl (upd (upd tot_8 (0 : Int32).toNatClampNeg (tot_8 (1 : Int32).toNatClampNeg)) (1 : Int32).toNatClampNeg (tot_8 (0 : Int32).toNatClampNeg)))), (aMfrm, .inl (cI, 400, .inl frm_8)), (aMsiz, .inl (cI, 400, .inl siz_8))] H := hP
  have hD : va_D A [(aM, .inr (11, [.int thr, .ref aMst, .int tpd, .ref aMdcs, .ref aMtot, .ref aMfrm, .ref aMsiz, .int frs, .int frt, .ref aMffr, .ref aMfsz, .int top, .int bgn, .int mst, .int (b2i ovr), .int (b2i tgr), .int lvs, .ref aMlkd, .ref aMlat, .ref aMkkd, .ref aMkat, .ref aModr, .ref aMgrp, .int its, .ref aMikd, .ref aMiat, .long hgh, .long loo, .int (b2i dfl)])), (aMst, .inl (cI, 136400, .inl st_8)), (aMdcs, .inl (cI, 2, .inl (upd (upd dcs_8 (0 : Int32).toNatClampNeg (dcs_8 (1 : Int32).toNatClampNeg)) (1 : Int32).toNatClampNeg (dcs_8 (0 : Int32).toNatClampNeg)))), (aMtot, .inl (cI, 2, .inl (upd (upd tot_8 (0 : Int32).toNatClampNeg (tot_8 (1 : Int32).toNatClampNeg)) (1 : Int32).toNatClampNeg (tot_8 (0 : Int32).toNatClampNeg)))), (aMfrm, .inl (cI, 400, .inl frm_8)), (aMsiz, .inl (cI, 400, .inl siz_8))] := hD
  exact W.vret hx hb hr (fun t ht hW => ⟨⟨(st_8, upd (upd dcs_8 (0 : Int32).toNatClampNeg (dcs_8 (1 : Int32).toNatClampNeg)) (1 : Int32).toNatClampNeg (dcs_8 (0 : Int32).toNatClampNeg), upd (upd tot_8 (0 : Int32).toNatClampNeg (tot_8 (1 : Int32).toNatClampNeg)) (1 : Int32).toNatClampNeg (tot_8 (0 : Int32).toNatClampNeg), frm_8, siz_8), rfl, (op_eq hs (by rw [hV_8])), by rw [ht]; exact hP, hD⟩, hS.F ht⟩) hS.2.2 d_MO_swap_187
