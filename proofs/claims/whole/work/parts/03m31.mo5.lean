/-! printed by wip/gen -/
theorem k_1154 : (Jvm.Cond.methodLink "PipelineBeltModel" (102 : Nat) ({ cls := "PipelineBeltModel", name := "isBox", desc := "(IIZI)Z" } : Jvm.MethodName)) ∈ lw_g := lw_gm (List.mem_append_right _ (List.mem_of_getElem? (i := 1154) (by decide +kernel))) rfl
theorem k_1156 : (Jvm.Cond.instanceMethod ({ cls := "PipelineBeltModel", name := "isBox", desc := "(IIZI)Z" } : Jvm.MethodName)) ∈ lw_g := lw_gm (List.mem_append_right _ (List.mem_of_getElem? (i := 1156) (by decide +kernel))) rfl
theorem k_1158 : (Jvm.Cond.methodLink "PipelineBeltModel" (77 : Nat) ({ cls := "PipelineBeltModel", name := "isElement", desc := "(IIIII)Z" } : Jvm.MethodName)) ∈ lw_g := lw_gm (List.mem_append_right _ (List.mem_of_getElem? (i := 1158) (by decide +kernel))) rfl
theorem k_1160 : (Jvm.Cond.instanceMethod ({ cls := "PipelineBeltModel", name := "isElement", desc := "(IIIII)Z" } : Jvm.MethodName)) ∈ lw_g := lw_gm (List.mem_append_right _ (List.mem_of_getElem? (i := 1160) (by decide +kernel))) rfl
theorem k_1162 : (Jvm.Cond.methodLink "PipelineBeltModel" (87 : Nat) ({ cls := "PipelineBeltModel", name := "isRightText", desc := "(II)Z" } : Jvm.MethodName)) ∈ lw_g := lw_gm (List.mem_append_right _ (List.mem_of_getElem? (i := 1162) (by decide +kernel))) rfl
theorem k_1164 : (Jvm.Cond.instanceMethod ({ cls := "PipelineBeltModel", name := "isRightText", desc := "(II)Z" } : Jvm.MethodName)) ∈ lw_g := lw_gm (List.mem_append_right _ (List.mem_of_getElem? (i := 1164) (by decide +kernel))) rfl
theorem k_1170 : (Jvm.Cond.methodLink "PipelineBeltModel" (91 : Nat) ({ cls := "PipelineBeltModel", name := "isNumber", desc := "(III)Z" } : Jvm.MethodName)) ∈ lw_g := lw_gm (List.mem_append_right _ (List.mem_of_getElem? (i := 1170) (by decide +kernel))) rfl
theorem k_1172 : (Jvm.Cond.instanceMethod ({ cls := "PipelineBeltModel", name := "isNumber", desc := "(III)Z" } : Jvm.MethodName)) ∈ lw_g := lw_gm (List.mem_append_right _ (List.mem_of_getElem? (i := 1172) (by decide +kernel))) rfl
theorem k_1334 : (Jvm.Cond.methodLink "PipelineBeltModel" (303 : Nat) ({ cls := "PipelineBeltModel", name := "element", desc := "(I)V" } : Jvm.MethodName)) ∈ lw_g := lw_gm (List.mem_append_right _ (List.mem_of_getElem? (i := 1334) (by decide +kernel))) rfl
theorem k_1336 : (Jvm.Cond.instanceMethod ({ cls := "PipelineBeltModel", name := "element", desc := "(I)V" } : Jvm.MethodName)) ∈ lw_g := lw_gm (List.mem_append_right _ (List.mem_of_getElem? (i := 1336) (by decide +kernel))) rfl
theorem k_1351 : (Jvm.Cond.methodLink "PipelineBeltModel" (176 : Nat) ({ cls := "PipelineBeltModel", name := "emit", desc := "(III)I" } : Jvm.MethodName)) ∈ lw_g := lw_gm (List.mem_append_right _ (List.mem_of_getElem? (i := 1351) (by decide +kernel))) rfl
theorem k_1353 : (Jvm.Cond.instanceMethod ({ cls := "PipelineBeltModel", name := "emit", desc := "(III)I" } : Jvm.MethodName)) ∈ lw_g := lw_gm (List.mem_append_right _ (List.mem_of_getElem? (i := 1353) (by decide +kernel))) rfl
theorem k_1355 : (Jvm.Cond.methodLink "PipelineBeltModel" (138 : Nat) ({ cls := "PipelineBeltModel", name := "met", desc := "(II)I" } : Jvm.MethodName)) ∈ lw_g := lw_gm (List.mem_append_right _ (List.mem_of_getElem? (i := 1355) (by decide +kernel))) rfl
theorem k_1357 : (Jvm.Cond.instanceMethod ({ cls := "PipelineBeltModel", name := "met", desc := "(II)I" } : Jvm.MethodName)) ∈ lw_g := lw_gm (List.mem_append_right _ (List.mem_of_getElem? (i := 1357) (by decide +kernel))) rfl
theorem k_1363 : (Jvm.Cond.methodLink "PipelineBeltModel" (141 : Nat) ({ cls := "PipelineBeltModel", name := "nextStep", desc := "(I)I" } : Jvm.MethodName)) ∈ lw_g := lw_gm (List.mem_append_right _ (List.mem_of_getElem? (i := 1363) (by decide +kernel))) rfl
theorem k_1365 : (Jvm.Cond.instanceMethod ({ cls := "PipelineBeltModel", name := "nextStep", desc := "(I)I" } : Jvm.MethodName)) ∈ lw_g := lw_gm (List.mem_append_right _ (List.mem_of_getElem? (i := 1365) (by decide +kernel))) rfl
theorem k_1367 : (Jvm.Cond.methodLink "PipelineBeltModel" (184 : Nat) ({ cls := "PipelineBeltModel", name := "putDigits", desc := "(I)V" } : Jvm.MethodName)) ∈ lw_g := lw_gm (List.mem_append_right _ (List.mem_of_getElem? (i := 1367) (by decide +kernel))) rfl
theorem k_1369 : (Jvm.Cond.instanceMethod ({ cls := "PipelineBeltModel", name := "putDigits", desc := "(I)V" } : Jvm.MethodName)) ∈ lw_g := lw_gm (List.mem_append_right _ (List.mem_of_getElem? (i := 1369) (by decide +kernel))) rfl
theorem k_1371 : (Jvm.Cond.methodLink "PipelineBeltModel" (187 : Nat) ({ cls := "PipelineBeltModel", name := "close", desc := "(I)V" } : Jvm.MethodName)) ∈ lw_g := lw_gm (List.mem_append_right _ (List.mem_of_getElem? (i := 1371) (by decide +kernel))) rfl
theorem k_1373 : (Jvm.Cond.instanceMethod ({ cls := "PipelineBeltModel", name := "close", desc := "(I)V" } : Jvm.MethodName)) ∈ lw_g := lw_gm (List.mem_append_right _ (List.mem_of_getElem? (i := 1373) (by decide +kernel))) rfl
theorem k_1375 : (Jvm.Cond.methodLink "PipelineBeltModel" (313 : Nat) ({ cls := "PipelineBeltModel", name := "head", desc := "(II)V" } : Jvm.MethodName)) ∈ lw_g := lw_gm (List.mem_append_right _ (List.mem_of_getElem? (i := 1375) (by decide +kernel))) rfl
theorem k_1377 : (Jvm.Cond.instanceMethod ({ cls := "PipelineBeltModel", name := "head", desc := "(II)V" } : Jvm.MethodName)) ∈ lw_g := lw_gm (List.mem_append_right _ (List.mem_of_getElem? (i := 1377) (by decide +kernel))) rfl
theorem k_1391 : (Jvm.Cond.methodLink "PipelineBeltModel" (316 : Nat) ({ cls := "PipelineBeltModel", name := "through", desc := "(IIII)V" } : Jvm.MethodName)) ∈ lw_g := lw_gm (List.mem_append_right _ (List.mem_of_getElem? (i := 1391) (by decide +kernel))) rfl
theorem k_1393 : (Jvm.Cond.instanceMethod ({ cls := "PipelineBeltModel", name := "through", desc := "(IIII)V" } : Jvm.MethodName)) ∈ lw_g := lw_gm (List.mem_append_right _ (List.mem_of_getElem? (i := 1393) (by decide +kernel))) rfl
theorem k_1452 : (Jvm.Cond.methodLink "PipelineBeltModel" (144 : Nat) ({ cls := "PipelineBeltModel", name := "leavesOf", desc := "(III)V" } : Jvm.MethodName)) ∈ lw_g := lw_gm (List.mem_append_right _ (List.mem_of_getElem? (i := 1452) (by decide +kernel))) rfl
theorem k_1454 : (Jvm.Cond.instanceMethod ({ cls := "PipelineBeltModel", name := "leavesOf", desc := "(III)V" } : Jvm.MethodName)) ∈ lw_g := lw_gm (List.mem_append_right _ (List.mem_of_getElem? (i := 1454) (by decide +kernel))) rfl
theorem k_1456 : (Jvm.Cond.methodLink "PipelineBeltModel" (134 : Nat) ({ cls := "PipelineBeltModel", name := "leaf", desc := "(II)V" } : Jvm.MethodName)) ∈ lw_g := lw_gm (List.mem_append_right _ (List.mem_of_getElem? (i := 1456) (by decide +kernel))) rfl
theorem k_1458 : (Jvm.Cond.instanceMethod ({ cls := "PipelineBeltModel", name := "leaf", desc := "(II)V" } : Jvm.MethodName)) ∈ lw_g := lw_gm (List.mem_append_right _ (List.mem_of_getElem? (i := 1458) (by decide +kernel))) rfl
abbrev b_MO_isBox : ByteArray := prog_13_method_7_code
def y_MO_isBox : MethodName := ⟨R_MO, "isBox", "(IIZI)Z"⟩
theorem kc_MO_isBox : Cond.code y_MO_isBox b_MO_isBox 9 (some .boolean) ∈ lw_g := lw_gm (List.mem_append_right _ (List.mem_of_getElem? (i := 1157) (by decide +kernel))) rfl
abbrev mw_MO_isBox : List Cond := Cond.code y_MO_isBox b_MO_isBox 9 (some .boolean) :: lw_g
theorem hd_MO_isBox : y_MO_isBox.cls = R_MO ∧ y_MO_isBox.cls ≠ "java/lang/invoke/MethodHandle" ∧ y_MO_isBox.cls ≠ "java/lang/invoke/VarHandle" ∧ (parseMethodDescriptor y_MO_isBox.desc).map (fun d => d.parameters.length) = some 4 := by decide +kernel
theorem kp_MO_isBox : Cond.selects R_MO y_MO_isBox y_MO_isBox ∈ lw_g := lw_gm (List.mem_append_left _ (by decide +kernel)) rfl
theorem d_MO_isBox_0 : decode b_MO_isBox 0 = .ok (.iload_n 2, 1) := by decide +kernel
theorem d_MO_isBox_1 : decode b_MO_isBox 1 = .ok (.iload_n 1, 1) := by decide +kernel
theorem d_MO_isBox_2 : decode b_MO_isBox 2 = .ok (.isub, 1) := by decide +kernel
theorem d_MO_isBox_3 : decode b_MO_isBox 3 = .ok (.iconst 5, 1) := by decide +kernel
theorem d_MO_isBox_4 : decode b_MO_isBox 4 = .ok (.if_icmp .lt 10, 3) := by decide +kernel
theorem d_MO_isBox_7 : decode b_MO_isBox 7 = .ok (.iload 4, 2) := by decide +kernel
theorem d_MO_isBox_9 : decode b_MO_isBox 9 = .ok (.bipush 16, 2) := by decide +kernel
theorem d_MO_isBox_11 : decode b_MO_isBox 11 = .ok (.if_icmp .le 5, 3) := by decide +kernel
theorem d_MO_isBox_14 : decode b_MO_isBox 14 = .ok (.iconst 0, 1) := by decide +kernel
theorem d_MO_isBox_15 : decode b_MO_isBox 15 = .ok (.ireturn, 1) := by decide +kernel
theorem d_MO_isBox_16 : decode b_MO_isBox 16 = .ok (.aload_n 0, 1) := by decide +kernel
theorem d_MO_isBox_17 : decode b_MO_isBox 17 = .ok (.iload_n 1, 1) := by decide +kernel
theorem d_MO_isBox_18 : decode b_MO_isBox 18 = .ok (.invokevirtual 73, 3) := by decide +kernel
theorem d_MO_isBox_21 : decode b_MO_isBox 21 = .ok (.istore 5, 2) := by decide +kernel
theorem d_MO_isBox_23 : decode b_MO_isBox 23 = .ok (.iload 5, 2) := by decide +kernel
theorem d_MO_isBox_25 : decode b_MO_isBox 25 = .ok (.iconst 5, 1) := by decide +kernel
theorem d_MO_isBox_26 : decode b_MO_isBox 26 = .ok (.if_icmp .lt 25, 3) := by decide +kernel
theorem d_MO_isBox_29 : decode b_MO_isBox 29 = .ok (.iload 5, 2) := by decide +kernel
theorem d_MO_isBox_31 : decode b_MO_isBox 31 = .ok (.iload_n 2, 1) := by decide +kernel
theorem d_MO_isBox_32 : decode b_MO_isBox 32 = .ok (.iload_n 1, 1) := by decide +kernel
theorem d_MO_isBox_33 : decode b_MO_isBox 33 = .ok (.isub, 1) := by decide +kernel
theorem d_MO_isBox_34 : decode b_MO_isBox 34 = .ok (.if_icmp .gt 17, 3) := by decide +kernel
theorem d_MO_isBox_37 : decode b_MO_isBox 37 = .ok (.aload_n 0, 1) := by decide +kernel
theorem d_MO_isBox_38 : decode b_MO_isBox 38 = .ok (.getfield 8, 3) := by decide +kernel
theorem d_MO_isBox_41 : decode b_MO_isBox 41 = .ok (.iload_n 1, 1) := by decide +kernel
theorem d_MO_isBox_42 : decode b_MO_isBox 42 = .ok (.iload 5, 2) := by decide +kernel
theorem d_MO_isBox_44 : decode b_MO_isBox 44 = .ok (.iadd, 1) := by decide +kernel
theorem d_MO_isBox_45 : decode b_MO_isBox 45 = .ok (.iconst 1, 1) := by decide +kernel
theorem d_MO_isBox_46 : decode b_MO_isBox 46 = .ok (.isub, 1) := by decide +kernel
theorem d_MO_isBox_47 : decode b_MO_isBox 47 = .ok (.iaload, 1) := by decide +kernel
theorem d_MO_isBox_48 : decode b_MO_isBox 48 = .ok (.ifCond .eq 5, 3) := by decide +kernel
theorem d_MO_isBox_51 : decode b_MO_isBox 51 = .ok (.iconst 0, 1) := by decide +kernel
theorem d_MO_isBox_52 : decode b_MO_isBox 52 = .ok (.ireturn, 1) := by decide +kernel
theorem d_MO_isBox_53 : decode b_MO_isBox 53 = .ok (.iload_n 1, 1) := by decide +kernel
theorem d_MO_isBox_54 : decode b_MO_isBox 54 = .ok (.iload 5, 2) := by decide +kernel
theorem d_MO_isBox_56 : decode b_MO_isBox 56 = .ok (.iadd, 1) := by decide +kernel
theorem d_MO_isBox_57 : decode b_MO_isBox 57 = .ok (.iconst 1, 1) := by decide +kernel
theorem d_MO_isBox_58 : decode b_MO_isBox 58 = .ok (.isub, 1) := by decide +kernel
theorem d_MO_isBox_59 : decode b_MO_isBox 59 = .ok (.istore 6, 2) := by decide +kernel
theorem d_MO_isBox_61 : decode b_MO_isBox 61 = .ok (.iload_n 1, 1) := by decide +kernel
theorem d_MO_isBox_62 : decode b_MO_isBox 62 = .ok (.iconst 4, 1) := by decide +kernel
theorem d_MO_isBox_63 : decode b_MO_isBox 63 = .ok (.iadd, 1) := by decide +kernel
theorem d_MO_isBox_64 : decode b_MO_isBox 64 = .ok (.istore 7, 2) := by decide +kernel
theorem d_MO_isBox_66 : decode b_MO_isBox 66 = .ok (.iconst 0, 1) := by decide +kernel
theorem d_MO_isBox_67 : decode b_MO_isBox 67 = .ok (.istore 8, 2) := by decide +kernel
theorem d_MO_isBox_69 : decode b_MO_isBox 69 = .ok (.iload 7, 2) := by decide +kernel
theorem d_MO_isBox_71 : decode b_MO_isBox 71 = .ok (.iload 6, 2) := by decide +kernel
theorem d_MO_isBox_73 : decode b_MO_isBox 73 = .ok (.if_icmp .ge 61, 3) := by decide +kernel
theorem d_MO_isBox_76 : decode b_MO_isBox 76 = .ok (.aload_n 0, 1) := by decide +kernel
theorem d_MO_isBox_77 : decode b_MO_isBox 77 = .ok (.iload 7, 2) := by decide +kernel
theorem d_MO_isBox_79 : decode b_MO_isBox 79 = .ok (.iload 6, 2) := by decide +kernel
theorem d_MO_isBox_81 : decode b_MO_isBox 81 = .ok (.iload_n 1, 1) := by decide +kernel
theorem d_MO_isBox_82 : decode b_MO_isBox 82 = .ok (.iload_n 3, 1) := by decide +kernel
theorem d_MO_isBox_83 : decode b_MO_isBox 83 = .ok (.ifCond .eq 8, 3) := by decide +kernel
theorem d_MO_isBox_86 : decode b_MO_isBox 86 = .ok (.iload 8, 2) := by decide +kernel
theorem d_MO_isBox_88 : decode b_MO_isBox 88 = .ok (.goto 4, 3) := by decide +kernel
theorem d_MO_isBox_91 : decode b_MO_isBox 91 = .ok (.iconst (-1), 1) := by decide +kernel
theorem d_MO_isBox_92 : decode b_MO_isBox 92 = .ok (.iload 4, 2) := by decide +kernel
theorem d_MO_isBox_94 : decode b_MO_isBox 94 = .ok (.invokevirtual 77, 3) := by decide +kernel
theorem d_MO_isBox_97 : decode b_MO_isBox 97 = .ok (.ifCond .ne 5, 3) := by decide +kernel
theorem d_MO_isBox_100 : decode b_MO_isBox 100 = .ok (.iconst 0, 1) := by decide +kernel
theorem d_MO_isBox_101 : decode b_MO_isBox 101 = .ok (.ireturn, 1) := by decide +kernel
theorem d_MO_isBox_102 : decode b_MO_isBox 102 = .ok (.aload_n 0, 1) := by decide +kernel
theorem d_MO_isBox_103 : decode b_MO_isBox 103 = .ok (.iload 7, 2) := by decide +kernel
theorem d_MO_isBox_105 : decode b_MO_isBox 105 = .ok (.invokevirtual 81, 3) := by decide +kernel
theorem d_MO_isBox_108 : decode b_MO_isBox 108 = .ok (.aload_n 0, 1) := by decide +kernel
theorem d_MO_isBox_109 : decode b_MO_isBox 109 = .ok (.aload_n 0, 1) := by decide +kernel
theorem d_MO_isBox_110 : decode b_MO_isBox 110 = .ok (.getfield 8, 3) := by decide +kernel
theorem d_MO_isBox_113 : decode b_MO_isBox 113 = .ok (.iload 7, 2) := by decide +kernel
theorem d_MO_isBox_115 : decode b_MO_isBox 115 = .ok (.iaload, 1) := by decide +kernel
theorem d_MO_isBox_116 : decode b_MO_isBox 116 = .ok (.aload_n 0, 1) := by decide +kernel
theorem d_MO_isBox_117 : decode b_MO_isBox 117 = .ok (.iload 7, 2) := by decide +kernel
theorem d_MO_isBox_119 : decode b_MO_isBox 119 = .ok (.invokevirtual 81, 3) := by decide +kernel
theorem d_MO_isBox_122 : decode b_MO_isBox 122 = .ok (.invokevirtual 84, 3) := by decide +kernel
theorem d_MO_isBox_125 : decode b_MO_isBox 125 = .ok (.iadd, 1) := by decide +kernel
theorem d_MO_isBox_126 : decode b_MO_isBox 126 = .ok (.istore 7, 2) := by decide +kernel
theorem d_MO_isBox_128 : decode b_MO_isBox 128 = .ok (.iinc 8 1, 3) := by decide +kernel
theorem d_MO_isBox_131 : decode b_MO_isBox 131 = .ok (.goto (-62), 3) := by decide +kernel
theorem d_MO_isBox_134 : decode b_MO_isBox 134 = .ok (.iconst 1, 1) := by decide +kernel
theorem d_MO_isBox_135 : decode b_MO_isBox 135 = .ok (.ireturn, 1) := by decide +kernel
abbrev b_MO_isElement : ByteArray := prog_13_method_8_code
def y_MO_isElement : MethodName := ⟨R_MO, "isElement", "(IIIII)Z"⟩
theorem kc_MO_isElement : Cond.code y_MO_isElement b_MO_isElement 8 (some .boolean) ∈ lw_g := lw_gm (List.mem_append_right _ (List.mem_of_getElem? (i := 1161) (by decide +kernel))) rfl
abbrev mw_MO_isElement : List Cond := Cond.code y_MO_isElement b_MO_isElement 8 (some .boolean) :: lw_g
theorem hd_MO_isElement : y_MO_isElement.cls = R_MO ∧ y_MO_isElement.cls ≠ "java/lang/invoke/MethodHandle" ∧ y_MO_isElement.cls ≠ "java/lang/invoke/VarHandle" ∧ (parseMethodDescriptor y_MO_isElement.desc).map (fun d => d.parameters.length) = some 5 := by decide +kernel
theorem kp_MO_isElement : Cond.selects R_MO y_MO_isElement y_MO_isElement ∈ lw_g := lw_gm (List.mem_append_left _ (by decide +kernel)) rfl
theorem d_MO_isElement_0 : decode b_MO_isElement 0 = .ok (.iload_n 1, 1) := by decide +kernel
theorem d_MO_isElement_1 : decode b_MO_isElement 1 = .ok (.iconst 1, 1) := by decide +kernel
theorem d_MO_isElement_2 : decode b_MO_isElement 2 = .ok (.iadd, 1) := by decide +kernel
theorem d_MO_isElement_3 : decode b_MO_isElement 3 = .ok (.istore 6, 2) := by decide +kernel
theorem d_MO_isElement_5 : decode b_MO_isElement 5 = .ok (.iload 6, 2) := by decide +kernel
theorem d_MO_isElement_7 : decode b_MO_isElement 7 = .ok (.iload_n 2, 1) := by decide +kernel
theorem d_MO_isElement_8 : decode b_MO_isElement 8 = .ok (.if_icmp .ge 19, 3) := by decide +kernel
theorem d_MO_isElement_11 : decode b_MO_isElement 11 = .ok (.aload_n 0, 1) := by decide +kernel
theorem d_MO_isElement_12 : decode b_MO_isElement 12 = .ok (.getfield 8, 3) := by decide +kernel
theorem d_MO_isElement_15 : decode b_MO_isElement 15 = .ok (.iload 6, 2) := by decide +kernel
theorem d_MO_isElement_17 : decode b_MO_isElement 17 = .ok (.iaload, 1) := by decide +kernel
theorem d_MO_isElement_18 : decode b_MO_isElement 18 = .ok (.ifCond .eq 9, 3) := by decide +kernel
theorem d_MO_isElement_21 : decode b_MO_isElement 21 = .ok (.iinc 6 1, 3) := by decide +kernel
theorem d_MO_isElement_24 : decode b_MO_isElement 24 = .ok (.goto (-19), 3) := by decide +kernel
theorem d_MO_isElement_27 : decode b_MO_isElement 27 = .ok (.iload 6, 2) := by decide +kernel
theorem d_MO_isElement_29 : decode b_MO_isElement 29 = .ok (.iload_n 2, 1) := by decide +kernel
theorem d_MO_isElement_30 : decode b_MO_isElement 30 = .ok (.if_icmp .eq 34, 3) := by decide +kernel
theorem d_MO_isElement_33 : decode b_MO_isElement 33 = .ok (.aload_n 0, 1) := by decide +kernel
theorem d_MO_isElement_34 : decode b_MO_isElement 34 = .ok (.iload_n 1, 1) := by decide +kernel
theorem d_MO_isElement_35 : decode b_MO_isElement 35 = .ok (.iconst 1, 1) := by decide +kernel
theorem d_MO_isElement_36 : decode b_MO_isElement 36 = .ok (.iadd, 1) := by decide +kernel
theorem d_MO_isElement_37 : decode b_MO_isElement 37 = .ok (.iload 6, 2) := by decide +kernel
theorem d_MO_isElement_39 : decode b_MO_isElement 39 = .ok (.invokevirtual 87, 3) := by decide +kernel
theorem d_MO_isElement_42 : decode b_MO_isElement 42 = .ok (.ifCond .eq 22, 3) := by decide +kernel
theorem d_MO_isElement_45 : decode b_MO_isElement 45 = .ok (.iload 4, 2) := by decide +kernel
theorem d_MO_isElement_47 : decode b_MO_isElement 47 = .ok (.ifCond .lt 19, 3) := by decide +kernel
theorem d_MO_isElement_50 : decode b_MO_isElement 50 = .ok (.aload_n 0, 1) := by decide +kernel
theorem d_MO_isElement_51 : decode b_MO_isElement 51 = .ok (.iload_n 1, 1) := by decide +kernel
theorem d_MO_isElement_52 : decode b_MO_isElement 52 = .ok (.iconst 1, 1) := by decide +kernel
theorem d_MO_isElement_53 : decode b_MO_isElement 53 = .ok (.iadd, 1) := by decide +kernel
theorem d_MO_isElement_54 : decode b_MO_isElement 54 = .ok (.iload 6, 2) := by decide +kernel
theorem d_MO_isElement_56 : decode b_MO_isElement 56 = .ok (.iload 4, 2) := by decide +kernel
theorem d_MO_isElement_58 : decode b_MO_isElement 58 = .ok (.invokevirtual 91, 3) := by decide +kernel
theorem d_MO_isElement_61 : decode b_MO_isElement 61 = .ok (.ifCond .ne 5, 3) := by decide +kernel
theorem d_MO_isElement_64 : decode b_MO_isElement 64 = .ok (.iconst 0, 1) := by decide +kernel
theorem d_MO_isElement_65 : decode b_MO_isElement 65 = .ok (.ireturn, 1) := by decide +kernel
theorem d_MO_isElement_66 : decode b_MO_isElement 66 = .ok (.iload_n 3, 1) := by decide +kernel
theorem d_MO_isElement_67 : decode b_MO_isElement 67 = .ok (.iconst 4, 1) := by decide +kernel
theorem d_MO_isElement_68 : decode b_MO_isElement 68 = .ok (.iadd, 1) := by decide +kernel
theorem d_MO_isElement_69 : decode b_MO_isElement 69 = .ok (.istore 7, 2) := by decide +kernel
theorem d_MO_isElement_71 : decode b_MO_isElement 71 = .ok (.iload 7, 2) := by decide +kernel
theorem d_MO_isElement_73 : decode b_MO_isElement 73 = .ok (.iload_n 1, 1) := by decide +kernel
theorem d_MO_isElement_74 : decode b_MO_isElement 74 = .ok (.if_icmp .ge 70, 3) := by decide +kernel
theorem d_MO_isElement_77 : decode b_MO_isElement 77 = .ok (.iload 4, 2) := by decide +kernel
theorem d_MO_isElement_79 : decode b_MO_isElement 79 = .ok (.ifCond .ge 65, 3) := by decide +kernel
theorem d_MO_isElement_82 : decode b_MO_isElement 82 = .ok (.aload_n 0, 1) := by decide +kernel
theorem d_MO_isElement_83 : decode b_MO_isElement 83 = .ok (.iload 7, 2) := by decide +kernel
theorem d_MO_isElement_85 : decode b_MO_isElement 85 = .ok (.iconst 1, 1) := by decide +kernel
theorem d_MO_isElement_86 : decode b_MO_isElement 86 = .ok (.iadd, 1) := by decide +kernel
theorem d_MO_isElement_87 : decode b_MO_isElement 87 = .ok (.aload_n 0, 1) := by decide +kernel
theorem d_MO_isElement_88 : decode b_MO_isElement 88 = .ok (.iload 7, 2) := by decide +kernel
theorem d_MO_isElement_90 : decode b_MO_isElement 90 = .ok (.invokevirtual 95, 3) := by decide +kernel
theorem d_MO_isElement_93 : decode b_MO_isElement 93 = .ok (.iload 7, 2) := by decide +kernel
theorem d_MO_isElement_95 : decode b_MO_isElement 95 = .ok (.isub, 1) := by decide +kernel
theorem d_MO_isElement_96 : decode b_MO_isElement 96 = .ok (.iconst 1, 1) := by decide +kernel
theorem d_MO_isElement_97 : decode b_MO_isElement 97 = .ok (.isub, 1) := by decide +kernel
theorem d_MO_isElement_98 : decode b_MO_isElement 98 = .ok (.iload_n 1, 1) := by decide +kernel
theorem d_MO_isElement_99 : decode b_MO_isElement 99 = .ok (.iconst 1, 1) := by decide +kernel
theorem d_MO_isElement_100 : decode b_MO_isElement 100 = .ok (.iadd, 1) := by decide +kernel
theorem d_MO_isElement_101 : decode b_MO_isElement 101 = .ok (.iload 6, 2) := by decide +kernel
theorem d_MO_isElement_103 : decode b_MO_isElement 103 = .ok (.iload_n 1, 1) := by decide +kernel
theorem d_MO_isElement_104 : decode b_MO_isElement 104 = .ok (.isub, 1) := by decide +kernel
theorem d_MO_isElement_105 : decode b_MO_isElement 105 = .ok (.iconst 1, 1) := by decide +kernel
theorem d_MO_isElement_106 : decode b_MO_isElement 106 = .ok (.isub, 1) := by decide +kernel
theorem d_MO_isElement_107 : decode b_MO_isElement 107 = .ok (.invokevirtual 98, 3) := by decide +kernel
theorem d_MO_isElement_110 : decode b_MO_isElement 110 = .ok (.ifCond .ne 5, 3) := by decide +kernel
theorem d_MO_isElement_113 : decode b_MO_isElement 113 = .ok (.iconst 0, 1) := by decide +kernel
theorem d_MO_isElement_114 : decode b_MO_isElement 114 = .ok (.ireturn, 1) := by decide +kernel
theorem d_MO_isElement_115 : decode b_MO_isElement 115 = .ok (.aload_n 0, 1) := by decide +kernel
theorem d_MO_isElement_116 : decode b_MO_isElement 116 = .ok (.iload 7, 2) := by decide +kernel
theorem d_MO_isElement_118 : decode b_MO_isElement 118 = .ok (.invokevirtual 81, 3) := by decide +kernel
theorem d_MO_isElement_121 : decode b_MO_isElement 121 = .ok (.aload_n 0, 1) := by decide +kernel
theorem d_MO_isElement_122 : decode b_MO_isElement 122 = .ok (.aload_n 0, 1) := by decide +kernel
theorem d_MO_isElement_123 : decode b_MO_isElement 123 = .ok (.getfield 8, 3) := by decide +kernel
theorem d_MO_isElement_126 : decode b_MO_isElement 126 = .ok (.iload 7, 2) := by decide +kernel
theorem d_MO_isElement_128 : decode b_MO_isElement 128 = .ok (.iaload, 1) := by decide +kernel
theorem d_MO_isElement_129 : decode b_MO_isElement 129 = .ok (.aload_n 0, 1) := by decide +kernel
theorem d_MO_isElement_130 : decode b_MO_isElement 130 = .ok (.iload 7, 2) := by decide +kernel
theorem d_MO_isElement_132 : decode b_MO_isElement 132 = .ok (.invokevirtual 81, 3) := by decide +kernel
theorem d_MO_isElement_135 : decode b_MO_isElement 135 = .ok (.invokevirtual 84, 3) := by decide +kernel
theorem d_MO_isElement_138 : decode b_MO_isElement 138 = .ok (.iadd, 1) := by decide +kernel
theorem d_MO_isElement_139 : decode b_MO_isElement 139 = .ok (.istore 7, 2) := by decide +kernel
theorem d_MO_isElement_141 : decode b_MO_isElement 141 = .ok (.goto (-70), 3) := by decide +kernel
theorem d_MO_isElement_144 : decode b_MO_isElement 144 = .ok (.iload_n 2, 1) := by decide +kernel
theorem d_MO_isElement_145 : decode b_MO_isElement 145 = .ok (.iload 6, 2) := by decide +kernel
theorem d_MO_isElement_147 : decode b_MO_isElement 147 = .ok (.isub, 1) := by decide +kernel
theorem d_MO_isElement_148 : decode b_MO_isElement 148 = .ok (.iconst 1, 1) := by decide +kernel
theorem d_MO_isElement_149 : decode b_MO_isElement 149 = .ok (.isub, 1) := by decide +kernel
theorem d_MO_isElement_150 : decode b_MO_isElement 150 = .ok (.istore 7, 2) := by decide +kernel
theorem d_MO_isElement_152 : decode b_MO_isElement 152 = .ok (.aload_n 0, 1) := by decide +kernel
theorem d_MO_isElement_153 : decode b_MO_isElement 153 = .ok (.getfield 8, 3) := by decide +kernel
theorem d_MO_isElement_156 : decode b_MO_isElement 156 = .ok (.iload_n 1, 1) := by decide +kernel
theorem d_MO_isElement_157 : decode b_MO_isElement 157 = .ok (.iaload, 1) := by decide +kernel
theorem d_MO_isElement_158 : decode b_MO_isElement 158 = .ok (.tableswitch 246 2 18 #[134, 217, 217, 246, 246, 246, 107, 246, 132, 246, 246, 246, 246, 246, 82, 246, 94], 82) := by decide +kernel
theorem d_MO_isElement_240 : decode b_MO_isElement 240 = .ok (.iload 7, 2) := by decide +kernel
theorem d_MO_isElement_242 : decode b_MO_isElement 242 = .ok (.iconst 4, 1) := by decide +kernel
theorem d_MO_isElement_243 : decode b_MO_isElement 243 = .ok (.if_icmp .lt 7, 3) := by decide +kernel
theorem d_MO_isElement_246 : decode b_MO_isElement 246 = .ok (.iconst 1, 1) := by decide +kernel
theorem d_MO_isElement_247 : decode b_MO_isElement 247 = .ok (.goto 4, 3) := by decide +kernel
theorem d_MO_isElement_250 : decode b_MO_isElement 250 = .ok (.iconst 0, 1) := by decide +kernel
theorem d_MO_isElement_251 : decode b_MO_isElement 251 = .ok (.ireturn, 1) := by decide +kernel
theorem d_MO_isElement_252 : decode b_MO_isElement 252 = .ok (.iload 7, 2) := by decide +kernel
theorem d_MO_isElement_254 : decode b_MO_isElement 254 = .ok (.bipush 8, 2) := by decide +kernel
theorem d_MO_isElement_256 : decode b_MO_isElement 256 = .ok (.if_icmp .lt 7, 3) := by decide +kernel
theorem d_MO_isElement_259 : decode b_MO_isElement 259 = .ok (.iconst 1, 1) := by decide +kernel
theorem d_MO_isElement_260 : decode b_MO_isElement 260 = .ok (.goto 4, 3) := by decide +kernel
theorem d_MO_isElement_263 : decode b_MO_isElement 263 = .ok (.iconst 0, 1) := by decide +kernel
theorem d_MO_isElement_264 : decode b_MO_isElement 264 = .ok (.ireturn, 1) := by decide +kernel
theorem d_MO_isElement_265 : decode b_MO_isElement 265 = .ok (.iload 7, 2) := by decide +kernel
theorem d_MO_isElement_267 : decode b_MO_isElement 267 = .ok (.iconst 1, 1) := by decide +kernel
theorem d_MO_isElement_268 : decode b_MO_isElement 268 = .ok (.if_icmp .lt 20, 3) := by decide +kernel
theorem d_MO_isElement_271 : decode b_MO_isElement 271 = .ok (.aload_n 0, 1) := by decide +kernel
theorem d_MO_isElement_272 : decode b_MO_isElement 272 = .ok (.getfield 8, 3) := by decide +kernel
theorem d_MO_isElement_275 : decode b_MO_isElement 275 = .ok (.iload 6, 2) := by decide +kernel
theorem d_MO_isElement_277 : decode b_MO_isElement 277 = .ok (.iconst 1, 1) := by decide +kernel
theorem d_MO_isElement_278 : decode b_MO_isElement 278 = .ok (.iadd, 1) := by decide +kernel
theorem d_MO_isElement_279 : decode b_MO_isElement 279 = .ok (.iaload, 1) := by decide +kernel
theorem d_MO_isElement_280 : decode b_MO_isElement 280 = .ok (.iconst 2, 1) := by decide +kernel
theorem d_MO_isElement_281 : decode b_MO_isElement 281 = .ok (.if_icmp .ge 7, 3) := by decide +kernel
theorem d_MO_isElement_284 : decode b_MO_isElement 284 = .ok (.iconst 1, 1) := by decide +kernel
theorem d_MO_isElement_285 : decode b_MO_isElement 285 = .ok (.goto 4, 3) := by decide +kernel
theorem d_MO_isElement_288 : decode b_MO_isElement 288 = .ok (.iconst 0, 1) := by decide +kernel
theorem d_MO_isElement_289 : decode b_MO_isElement 289 = .ok (.ireturn, 1) := by decide +kernel
theorem d_MO_isElement_290 : decode b_MO_isElement 290 = .ok (.iconst 1, 1) := by decide +kernel
theorem d_MO_isElement_291 : decode b_MO_isElement 291 = .ok (.ireturn, 1) := by decide +kernel
theorem d_MO_isElement_292 : decode b_MO_isElement 292 = .ok (.iload 7, 2) := by decide +kernel
theorem d_MO_isElement_294 : decode b_MO_isElement 294 = .ok (.iconst 5, 1) := by decide +kernel
theorem d_MO_isElement_295 : decode b_MO_isElement 295 = .ok (.if_icmp .lt 78, 3) := by decide +kernel
theorem d_MO_isElement_298 : decode b_MO_isElement 298 = .ok (.aload_n 0, 1) := by decide +kernel
theorem d_MO_isElement_299 : decode b_MO_isElement 299 = .ok (.iload 6, 2) := by decide +kernel
theorem d_MO_isElement_301 : decode b_MO_isElement 301 = .ok (.iconst 1, 1) := by decide +kernel
theorem d_MO_isElement_302 : decode b_MO_isElement 302 = .ok (.iadd, 1) := by decide +kernel
theorem d_MO_isElement_303 : decode b_MO_isElement 303 = .ok (.invokevirtual 73, 3) := by decide +kernel
theorem d_MO_isElement_306 : decode b_MO_isElement 306 = .ok (.ifCond .le 67, 3) := by decide +kernel
theorem d_MO_isElement_309 : decode b_MO_isElement 309 = .ok (.aload_n 0, 1) := by decide +kernel
theorem d_MO_isElement_310 : decode b_MO_isElement 310 = .ok (.iload 6, 2) := by decide +kernel
theorem d_MO_isElement_312 : decode b_MO_isElement 312 = .ok (.iconst 1, 1) := by decide +kernel
theorem d_MO_isElement_313 : decode b_MO_isElement 313 = .ok (.iadd, 1) := by decide +kernel
theorem d_MO_isElement_314 : decode b_MO_isElement 314 = .ok (.invokevirtual 73, 3) := by decide +kernel
theorem d_MO_isElement_317 : decode b_MO_isElement 317 = .ok (.iload 7, 2) := by decide +kernel
theorem d_MO_isElement_319 : decode b_MO_isElement 319 = .ok (.iconst 4, 1) := by decide +kernel
theorem d_MO_isElement_320 : decode b_MO_isElement 320 = .ok (.isub, 1) := by decide +kernel
theorem d_MO_isElement_321 : decode b_MO_isElement 321 = .ok (.if_icmp .gt 52, 3) := by decide +kernel
theorem d_MO_isElement_324 : decode b_MO_isElement 324 = .ok (.aload_n 0, 1) := by decide +kernel
theorem d_MO_isElement_325 : decode b_MO_isElement 325 = .ok (.getfield 8, 3) := by decide +kernel
theorem d_MO_isElement_328 : decode b_MO_isElement 328 = .ok (.iload 6, 2) := by decide +kernel
theorem d_MO_isElement_330 : decode b_MO_isElement 330 = .ok (.iconst 4, 1) := by decide +kernel
theorem d_MO_isElement_331 : decode b_MO_isElement 331 = .ok (.iadd, 1) := by decide +kernel
theorem d_MO_isElement_332 : decode b_MO_isElement 332 = .ok (.aload_n 0, 1) := by decide +kernel
theorem d_MO_isElement_333 : decode b_MO_isElement 333 = .ok (.iload 6, 2) := by decide +kernel
theorem d_MO_isElement_335 : decode b_MO_isElement 335 = .ok (.iconst 1, 1) := by decide +kernel
theorem d_MO_isElement_336 : decode b_MO_isElement 336 = .ok (.iadd, 1) := by decide +kernel
theorem d_MO_isElement_337 : decode b_MO_isElement 337 = .ok (.invokevirtual 73, 3) := by decide +kernel
theorem d_MO_isElement_340 : decode b_MO_isElement 340 = .ok (.iadd, 1) := by decide +kernel
theorem d_MO_isElement_341 : decode b_MO_isElement 341 = .ok (.iaload, 1) := by decide +kernel
theorem d_MO_isElement_342 : decode b_MO_isElement 342 = .ok (.ifCond .ne 31, 3) := by decide +kernel
theorem d_MO_isElement_345 : decode b_MO_isElement 345 = .ok (.aload_n 0, 1) := by decide +kernel
theorem d_MO_isElement_346 : decode b_MO_isElement 346 = .ok (.iload 6, 2) := by decide +kernel
theorem d_MO_isElement_348 : decode b_MO_isElement 348 = .ok (.iconst 5, 1) := by decide +kernel
theorem d_MO_isElement_349 : decode b_MO_isElement 349 = .ok (.iadd, 1) := by decide +kernel
theorem d_MO_isElement_350 : decode b_MO_isElement 350 = .ok (.iload 6, 2) := by decide +kernel
theorem d_MO_isElement_352 : decode b_MO_isElement 352 = .ok (.iconst 4, 1) := by decide +kernel
theorem d_MO_isElement_353 : decode b_MO_isElement 353 = .ok (.iadd, 1) := by decide +kernel
theorem d_MO_isElement_354 : decode b_MO_isElement 354 = .ok (.aload_n 0, 1) := by decide +kernel
theorem d_MO_isElement_355 : decode b_MO_isElement 355 = .ok (.iload 6, 2) := by decide +kernel
theorem d_MO_isElement_357 : decode b_MO_isElement 357 = .ok (.iconst 1, 1) := by decide +kernel
theorem d_MO_isElement_358 : decode b_MO_isElement 358 = .ok (.iadd, 1) := by decide +kernel
theorem d_MO_isElement_359 : decode b_MO_isElement 359 = .ok (.invokevirtual 73, 3) := by decide +kernel
theorem d_MO_isElement_362 : decode b_MO_isElement 362 = .ok (.iadd, 1) := by decide +kernel
theorem d_MO_isElement_363 : decode b_MO_isElement 363 = .ok (.invokevirtual 87, 3) := by decide +kernel
theorem d_MO_isElement_366 : decode b_MO_isElement 366 = .ok (.ifCond .eq 7, 3) := by decide +kernel
theorem d_MO_isElement_369 : decode b_MO_isElement 369 = .ok (.iconst 1, 1) := by decide +kernel
theorem d_MO_isElement_370 : decode b_MO_isElement 370 = .ok (.goto 4, 3) := by decide +kernel
theorem d_MO_isElement_373 : decode b_MO_isElement 373 = .ok (.iconst 0, 1) := by decide +kernel
theorem d_MO_isElement_374 : decode b_MO_isElement 374 = .ok (.ireturn, 1) := by decide +kernel
theorem d_MO_isElement_375 : decode b_MO_isElement 375 = .ok (.aload_n 0, 1) := by decide +kernel
theorem d_MO_isElement_376 : decode b_MO_isElement 376 = .ok (.iload 6, 2) := by decide +kernel
theorem d_MO_isElement_378 : decode b_MO_isElement 378 = .ok (.iconst 1, 1) := by decide +kernel
theorem d_MO_isElement_379 : decode b_MO_isElement 379 = .ok (.iadd, 1) := by decide +kernel
theorem d_MO_isElement_380 : decode b_MO_isElement 380 = .ok (.iload_n 2, 1) := by decide +kernel
theorem d_MO_isElement_381 : decode b_MO_isElement 381 = .ok (.aload_n 0, 1) := by decide +kernel
theorem d_MO_isElement_382 : decode b_MO_isElement 382 = .ok (.getfield 8, 3) := by decide +kernel
theorem d_MO_isElement_385 : decode b_MO_isElement 385 = .ok (.iload_n 1, 1) := by decide +kernel
theorem d_MO_isElement_386 : decode b_MO_isElement 386 = .ok (.iaload, 1) := by decide +kernel
theorem d_MO_isElement_387 : decode b_MO_isElement 387 = .ok (.iconst 4, 1) := by decide +kernel
theorem d_MO_isElement_388 : decode b_MO_isElement 388 = .ok (.if_icmp .ne 7, 3) := by decide +kernel
theorem d_MO_isElement_391 : decode b_MO_isElement 391 = .ok (.iconst 1, 1) := by decide +kernel
theorem d_MO_isElement_392 : decode b_MO_isElement 392 = .ok (.goto 4, 3) := by decide +kernel
theorem d_MO_isElement_395 : decode b_MO_isElement 395 = .ok (.iconst 0, 1) := by decide +kernel
theorem d_MO_isElement_396 : decode b_MO_isElement 396 = .ok (.iload 5, 2) := by decide +kernel
theorem d_MO_isElement_398 : decode b_MO_isElement 398 = .ok (.iconst 1, 1) := by decide +kernel
theorem d_MO_isElement_399 : decode b_MO_isElement 399 = .ok (.iadd, 1) := by decide +kernel
theorem d_MO_isElement_400 : decode b_MO_isElement 400 = .ok (.invokevirtual 102, 3) := by decide +kernel
theorem d_MO_isElement_403 : decode b_MO_isElement 403 = .ok (.ireturn, 1) := by decide +kernel
theorem d_MO_isElement_404 : decode b_MO_isElement 404 = .ok (.iconst 0, 1) := by decide +kernel
theorem d_MO_isElement_405 : decode b_MO_isElement 405 = .ok (.ireturn, 1) := by decide +kernel
abbrev b_MO_isDocument : ByteArray := prog_13_method_10_code
def y_MO_isDocument : MethodName := ⟨R_MO, "isDocument", "(I)Z"⟩
theorem kc_MO_isDocument : Cond.code y_MO_isDocument b_MO_isDocument 2 (some .boolean) ∈ lw_g := lw_gm (List.mem_append_right _ (List.mem_of_getElem? (i := 1147) (by decide +kernel))) rfl
abbrev mw_MO_isDocument : List Cond := Cond.code y_MO_isDocument b_MO_isDocument 2 (some .boolean) :: lw_g
theorem hd_MO_isDocument : y_MO_isDocument.cls = R_MO ∧ y_MO_isDocument.cls ≠ "java/lang/invoke/MethodHandle" ∧ y_MO_isDocument.cls ≠ "java/lang/invoke/VarHandle" ∧ (parseMethodDescriptor y_MO_isDocument.desc).map (fun d => d.parameters.length) = some 1 := by decide +kernel
theorem kp_MO_isDocument : Cond.selects R_MO y_MO_isDocument y_MO_isDocument ∈ lw_g := lw_gm (List.mem_append_left _ (by decide +kernel)) rfl
theorem d_MO_isDocument_0 : decode b_MO_isDocument 0 = .ok (.iload_n 1, 1) := by decide +kernel
theorem d_MO_isDocument_1 : decode b_MO_isDocument 1 = .ok (.iconst 4, 1) := by decide +kernel
theorem d_MO_isDocument_2 : decode b_MO_isDocument 2 = .ok (.if_icmp .le 32, 3) := by decide +kernel
theorem d_MO_isDocument_5 : decode b_MO_isDocument 5 = .ok (.aload_n 0, 1) := by decide +kernel
theorem d_MO_isDocument_6 : decode b_MO_isDocument 6 = .ok (.ldc 68, 2) := by decide +kernel
theorem d_MO_isDocument_8 : decode b_MO_isDocument 8 = .ok (.invokevirtual 73, 3) := by decide +kernel
theorem d_MO_isDocument_11 : decode b_MO_isDocument 11 = .ok (.iload_n 1, 1) := by decide +kernel
theorem d_MO_isDocument_12 : decode b_MO_isDocument 12 = .ok (.if_icmp .ne 22, 3) := by decide +kernel
theorem d_MO_isDocument_15 : decode b_MO_isDocument 15 = .ok (.aload_n 0, 1) := by decide +kernel
theorem d_MO_isDocument_16 : decode b_MO_isDocument 16 = .ok (.ldc 68, 2) := by decide +kernel
theorem d_MO_isDocument_18 : decode b_MO_isDocument 18 = .ok (.ldc 68, 2) := by decide +kernel
theorem d_MO_isDocument_20 : decode b_MO_isDocument 20 = .ok (.iload_n 1, 1) := by decide +kernel
theorem d_MO_isDocument_21 : decode b_MO_isDocument 21 = .ok (.iadd, 1) := by decide +kernel
theorem d_MO_isDocument_22 : decode b_MO_isDocument 22 = .ok (.iconst 0, 1) := by decide +kernel
theorem d_MO_isDocument_23 : decode b_MO_isDocument 23 = .ok (.iconst 1, 1) := by decide +kernel
theorem d_MO_isDocument_24 : decode b_MO_isDocument 24 = .ok (.invokevirtual 102, 3) := by decide +kernel
theorem d_MO_isDocument_27 : decode b_MO_isDocument 27 = .ok (.ifCond .eq 7, 3) := by decide +kernel
theorem d_MO_isDocument_30 : decode b_MO_isDocument 30 = .ok (.iconst 1, 1) := by decide +kernel
theorem d_MO_isDocument_31 : decode b_MO_isDocument 31 = .ok (.goto 4, 3) := by decide +kernel
theorem d_MO_isDocument_34 : decode b_MO_isDocument 34 = .ok (.iconst 0, 1) := by decide +kernel
theorem d_MO_isDocument_35 : decode b_MO_isDocument 35 = .ok (.ireturn, 1) := by decide +kernel
abbrev b_MO_leavesOf : ByteArray := prog_13_method_28_code
def y_MO_leavesOf : MethodName := ⟨R_MO, "leavesOf", "(III)V"⟩
theorem kc_MO_leavesOf : Cond.code y_MO_leavesOf b_MO_leavesOf 6 none ∈ lw_g := lw_gm (List.mem_append_right _ (List.mem_of_getElem? (i := 1455) (by decide +kernel))) rfl
abbrev mw_MO_leavesOf : List Cond := Cond.code y_MO_leavesOf b_MO_leavesOf 6 none :: lw_g
theorem hd_MO_leavesOf : y_MO_leavesOf.cls = R_MO ∧ y_MO_leavesOf.cls ≠ "java/lang/invoke/MethodHandle" ∧ y_MO_leavesOf.cls ≠ "java/lang/invoke/VarHandle" ∧ (parseMethodDescriptor y_MO_leavesOf.desc).map (fun d => d.parameters.length) = some 3 := by decide +kernel
theorem kp_MO_leavesOf : Cond.selects R_MO y_MO_leavesOf y_MO_leavesOf ∈ lw_g := lw_gm (List.mem_append_left _ (by decide +kernel)) rfl
theorem d_MO_leavesOf_0 : decode b_MO_leavesOf 0 = .ok (.iload_n 3, 1) := by decide +kernel
theorem d_MO_leavesOf_1 : decode b_MO_leavesOf 1 = .ok (.ifCond .ne 57, 3) := by decide +kernel
theorem d_MO_leavesOf_4 : decode b_MO_leavesOf 4 = .ok (.aload_n 0, 1) := by decide +kernel
theorem d_MO_leavesOf_5 : decode b_MO_leavesOf 5 = .ok (.iload_n 1, 1) := by decide +kernel
theorem d_MO_leavesOf_6 : decode b_MO_leavesOf 6 = .ok (.iload_n 2, 1) := by decide +kernel
theorem d_MO_leavesOf_7 : decode b_MO_leavesOf 7 = .ok (.invokevirtual 134, 3) := by decide +kernel
theorem d_MO_leavesOf_10 : decode b_MO_leavesOf 10 = .ok (.iload_n 1, 1) := by decide +kernel
theorem d_MO_leavesOf_11 : decode b_MO_leavesOf 11 = .ok (.iconst 4, 1) := by decide +kernel
theorem d_MO_leavesOf_12 : decode b_MO_leavesOf 12 = .ok (.if_icmp .ne 193, 3) := by decide +kernel
theorem d_MO_leavesOf_15 : decode b_MO_leavesOf 15 = .ok (.aload_n 0, 1) := by decide +kernel
theorem d_MO_leavesOf_16 : decode b_MO_leavesOf 16 = .ok (.iload_n 2, 1) := by decide +kernel
theorem d_MO_leavesOf_17 : decode b_MO_leavesOf 17 = .ok (.invokevirtual 108, 3) := by decide +kernel
theorem d_MO_leavesOf_20 : decode b_MO_leavesOf 20 = .ok (.istore 4, 2) := by decide +kernel
theorem d_MO_leavesOf_22 : decode b_MO_leavesOf 22 = .ok (.iload 4, 2) := by decide +kernel
theorem d_MO_leavesOf_24 : decode b_MO_leavesOf 24 = .ok (.ifCond .le 31, 3) := by decide +kernel
theorem d_MO_leavesOf_27 : decode b_MO_leavesOf 27 = .ok (.aload_n 0, 1) := by decide +kernel
theorem d_MO_leavesOf_28 : decode b_MO_leavesOf 28 = .ok (.aload_n 0, 1) := by decide +kernel
theorem d_MO_leavesOf_29 : decode b_MO_leavesOf 29 = .ok (.getfield 8, 3) := by decide +kernel
theorem d_MO_leavesOf_32 : decode b_MO_leavesOf 32 = .ok (.iload 4, 2) := by decide +kernel
theorem d_MO_leavesOf_34 : decode b_MO_leavesOf 34 = .ok (.iaload, 1) := by decide +kernel
theorem d_MO_leavesOf_35 : decode b_MO_leavesOf 35 = .ok (.aload_n 0, 1) := by decide +kernel
theorem d_MO_leavesOf_36 : decode b_MO_leavesOf 36 = .ok (.iload 4, 2) := by decide +kernel
theorem d_MO_leavesOf_38 : decode b_MO_leavesOf 38 = .ok (.invokevirtual 81, 3) := by decide +kernel
theorem d_MO_leavesOf_41 : decode b_MO_leavesOf 41 = .ok (.invokevirtual 134, 3) := by decide +kernel
theorem d_MO_leavesOf_44 : decode b_MO_leavesOf 44 = .ok (.aload_n 0, 1) := by decide +kernel
theorem d_MO_leavesOf_45 : decode b_MO_leavesOf 45 = .ok (.iload 4, 2) := by decide +kernel
theorem d_MO_leavesOf_47 : decode b_MO_leavesOf 47 = .ok (.invokevirtual 111, 3) := by decide +kernel
theorem d_MO_leavesOf_50 : decode b_MO_leavesOf 50 = .ok (.istore 4, 2) := by decide +kernel
theorem d_MO_leavesOf_52 : decode b_MO_leavesOf 52 = .ok (.goto (-30), 3) := by decide +kernel
theorem d_MO_leavesOf_55 : decode b_MO_leavesOf 55 = .ok (.goto 150, 3) := by decide +kernel
theorem d_MO_leavesOf_58 : decode b_MO_leavesOf 58 = .ok (.iload_n 1, 1) := by decide +kernel
theorem d_MO_leavesOf_59 : decode b_MO_leavesOf 59 = .ok (.iconst 3, 1) := by decide +kernel
theorem d_MO_leavesOf_60 : decode b_MO_leavesOf 60 = .ok (.if_icmp .ne 50, 3) := by decide +kernel
theorem d_MO_leavesOf_63 : decode b_MO_leavesOf 63 = .ok (.aload_n 0, 1) := by decide +kernel
theorem d_MO_leavesOf_64 : decode b_MO_leavesOf 64 = .ok (.iload_n 2, 1) := by decide +kernel
theorem d_MO_leavesOf_65 : decode b_MO_leavesOf 65 = .ok (.iload_n 3, 1) := by decide +kernel
theorem d_MO_leavesOf_66 : decode b_MO_leavesOf 66 = .ok (.invokevirtual 138, 3) := by decide +kernel
theorem d_MO_leavesOf_69 : decode b_MO_leavesOf 69 = .ok (.istore 4, 2) := by decide +kernel
theorem d_MO_leavesOf_71 : decode b_MO_leavesOf 71 = .ok (.iload 4, 2) := by decide +kernel
theorem d_MO_leavesOf_73 : decode b_MO_leavesOf 73 = .ok (.ifCond .le 28, 3) := by decide +kernel
theorem d_MO_leavesOf_76 : decode b_MO_leavesOf 76 = .ok (.aload_n 0, 1) := by decide +kernel
theorem d_MO_leavesOf_77 : decode b_MO_leavesOf 77 = .ok (.aload_n 0, 1) := by decide +kernel
theorem d_MO_leavesOf_78 : decode b_MO_leavesOf 78 = .ok (.getfield 8, 3) := by decide +kernel
theorem d_MO_leavesOf_81 : decode b_MO_leavesOf 81 = .ok (.iload 4, 2) := by decide +kernel
theorem d_MO_leavesOf_83 : decode b_MO_leavesOf 83 = .ok (.iaload, 1) := by decide +kernel
theorem d_MO_leavesOf_84 : decode b_MO_leavesOf 84 = .ok (.aload_n 0, 1) := by decide +kernel
theorem d_MO_leavesOf_85 : decode b_MO_leavesOf 85 = .ok (.iload 4, 2) := by decide +kernel
theorem d_MO_leavesOf_87 : decode b_MO_leavesOf 87 = .ok (.invokevirtual 81, 3) := by decide +kernel
theorem d_MO_leavesOf_90 : decode b_MO_leavesOf 90 = .ok (.aload_n 0, 1) := by decide +kernel
theorem d_MO_leavesOf_91 : decode b_MO_leavesOf 91 = .ok (.iload_n 3, 1) := by decide +kernel
theorem d_MO_leavesOf_92 : decode b_MO_leavesOf 92 = .ok (.invokevirtual 141, 3) := by decide +kernel
theorem d_MO_leavesOf_95 : decode b_MO_leavesOf 95 = .ok (.invokevirtual 144, 3) := by decide +kernel
theorem d_MO_leavesOf_98 : decode b_MO_leavesOf 98 = .ok (.goto 9, 3) := by decide +kernel
theorem d_MO_leavesOf_101 : decode b_MO_leavesOf 101 = .ok (.aload_n 0, 1) := by decide +kernel
theorem d_MO_leavesOf_102 : decode b_MO_leavesOf 102 = .ok (.iconst 0, 1) := by decide +kernel
theorem d_MO_leavesOf_103 : decode b_MO_leavesOf 103 = .ok (.iconst 0, 1) := by decide +kernel
theorem d_MO_leavesOf_104 : decode b_MO_leavesOf 104 = .ok (.invokevirtual 134, 3) := by decide +kernel
theorem d_MO_leavesOf_107 : decode b_MO_leavesOf 107 = .ok (.goto 98, 3) := by decide +kernel
theorem d_MO_leavesOf_110 : decode b_MO_leavesOf 110 = .ok (.iload_n 1, 1) := by decide +kernel
theorem d_MO_leavesOf_111 : decode b_MO_leavesOf 111 = .ok (.iconst 4, 1) := by decide +kernel
theorem d_MO_leavesOf_112 : decode b_MO_leavesOf 112 = .ok (.if_icmp .ne 87, 3) := by decide +kernel
theorem d_MO_leavesOf_115 : decode b_MO_leavesOf 115 = .ok (.aload_n 0, 1) := by decide +kernel
theorem d_MO_leavesOf_116 : decode b_MO_leavesOf 116 = .ok (.iload_n 2, 1) := by decide +kernel
theorem d_MO_leavesOf_117 : decode b_MO_leavesOf 117 = .ok (.iload_n 3, 1) := by decide +kernel
theorem d_MO_leavesOf_118 : decode b_MO_leavesOf 118 = .ok (.invokevirtual 138, 3) := by decide +kernel
theorem d_MO_leavesOf_121 : decode b_MO_leavesOf 121 = .ok (.istore 4, 2) := by decide +kernel
theorem d_MO_leavesOf_123 : decode b_MO_leavesOf 123 = .ok (.iload 4, 2) := by decide +kernel
theorem d_MO_leavesOf_125 : decode b_MO_leavesOf 125 = .ok (.ifCond .le 25, 3) := by decide +kernel
theorem d_MO_leavesOf_128 : decode b_MO_leavesOf 128 = .ok (.aload_n 0, 1) := by decide +kernel
theorem d_MO_leavesOf_129 : decode b_MO_leavesOf 129 = .ok (.aload_n 0, 1) := by decide +kernel
theorem d_MO_leavesOf_130 : decode b_MO_leavesOf 130 = .ok (.getfield 8, 3) := by decide +kernel
theorem d_MO_leavesOf_133 : decode b_MO_leavesOf 133 = .ok (.iload 4, 2) := by decide +kernel
theorem d_MO_leavesOf_135 : decode b_MO_leavesOf 135 = .ok (.iaload, 1) := by decide +kernel
theorem d_MO_leavesOf_136 : decode b_MO_leavesOf 136 = .ok (.aload_n 0, 1) := by decide +kernel
theorem d_MO_leavesOf_137 : decode b_MO_leavesOf 137 = .ok (.iload 4, 2) := by decide +kernel
theorem d_MO_leavesOf_139 : decode b_MO_leavesOf 139 = .ok (.invokevirtual 81, 3) := by decide +kernel
theorem d_MO_leavesOf_142 : decode b_MO_leavesOf 142 = .ok (.aload_n 0, 1) := by decide +kernel
theorem d_MO_leavesOf_143 : decode b_MO_leavesOf 143 = .ok (.iload_n 3, 1) := by decide +kernel
theorem d_MO_leavesOf_144 : decode b_MO_leavesOf 144 = .ok (.invokevirtual 141, 3) := by decide +kernel
theorem d_MO_leavesOf_147 : decode b_MO_leavesOf 147 = .ok (.invokevirtual 144, 3) := by decide +kernel
theorem d_MO_leavesOf_150 : decode b_MO_leavesOf 150 = .ok (.aload_n 0, 1) := by decide +kernel
theorem d_MO_leavesOf_151 : decode b_MO_leavesOf 151 = .ok (.iload_n 2, 1) := by decide +kernel
theorem d_MO_leavesOf_152 : decode b_MO_leavesOf 152 = .ok (.invokevirtual 108, 3) := by decide +kernel
theorem d_MO_leavesOf_155 : decode b_MO_leavesOf 155 = .ok (.istore 5, 2) := by decide +kernel
theorem d_MO_leavesOf_157 : decode b_MO_leavesOf 157 = .ok (.iload 5, 2) := by decide +kernel
theorem d_MO_leavesOf_159 : decode b_MO_leavesOf 159 = .ok (.ifCond .le 37, 3) := by decide +kernel
theorem d_MO_leavesOf_162 : decode b_MO_leavesOf 162 = .ok (.aload_n 0, 1) := by decide +kernel
theorem d_MO_leavesOf_163 : decode b_MO_leavesOf 163 = .ok (.getfield 8, 3) := by decide +kernel
theorem d_MO_leavesOf_166 : decode b_MO_leavesOf 166 = .ok (.iload 5, 2) := by decide +kernel
theorem d_MO_leavesOf_168 : decode b_MO_leavesOf 168 = .ok (.iaload, 1) := by decide +kernel
theorem d_MO_leavesOf_169 : decode b_MO_leavesOf 169 = .ok (.iconst 3, 1) := by decide +kernel
theorem d_MO_leavesOf_170 : decode b_MO_leavesOf 170 = .ok (.if_icmp .ne 15, 3) := by decide +kernel
theorem d_MO_leavesOf_173 : decode b_MO_leavesOf 173 = .ok (.aload_n 0, 1) := by decide +kernel
theorem d_MO_leavesOf_174 : decode b_MO_leavesOf 174 = .ok (.iconst 3, 1) := by decide +kernel
theorem d_MO_leavesOf_175 : decode b_MO_leavesOf 175 = .ok (.aload_n 0, 1) := by decide +kernel
theorem d_MO_leavesOf_176 : decode b_MO_leavesOf 176 = .ok (.iload 5, 2) := by decide +kernel
theorem d_MO_leavesOf_178 : decode b_MO_leavesOf 178 = .ok (.invokevirtual 81, 3) := by decide +kernel
theorem d_MO_leavesOf_181 : decode b_MO_leavesOf 181 = .ok (.iload_n 3, 1) := by decide +kernel
theorem d_MO_leavesOf_182 : decode b_MO_leavesOf 182 = .ok (.invokevirtual 144, 3) := by decide +kernel
theorem d_MO_leavesOf_185 : decode b_MO_leavesOf 185 = .ok (.aload_n 0, 1) := by decide +kernel
theorem d_MO_leavesOf_186 : decode b_MO_leavesOf 186 = .ok (.iload 5, 2) := by decide +kernel
theorem d_MO_leavesOf_188 : decode b_MO_leavesOf 188 = .ok (.invokevirtual 111, 3) := by decide +kernel
theorem d_MO_leavesOf_191 : decode b_MO_leavesOf 191 = .ok (.istore 5, 2) := by decide +kernel
theorem d_MO_leavesOf_193 : decode b_MO_leavesOf 193 = .ok (.goto (-36), 3) := by decide +kernel
theorem d_MO_leavesOf_196 : decode b_MO_leavesOf 196 = .ok (.goto 9, 3) := by decide +kernel
theorem d_MO_leavesOf_199 : decode b_MO_leavesOf 199 = .ok (.aload_n 0, 1) := by decide +kernel
theorem d_MO_leavesOf_200 : decode b_MO_leavesOf 200 = .ok (.iconst 0, 1) := by decide +kernel
theorem d_MO_leavesOf_201 : decode b_MO_leavesOf 201 = .ok (.iconst 0, 1) := by decide +kernel
theorem d_MO_leavesOf_202 : decode b_MO_leavesOf 202 = .ok (.invokevirtual 134, 3) := by decide +kernel
theorem d_MO_leavesOf_205 : decode b_MO_leavesOf 205 = .ok (.return_, 1) := by decide +kernel
abbrev b_MO_emit : ByteArray := prog_13_method_39_code
def y_MO_emit : MethodName := ⟨R_MO, "emit", "(III)I"⟩
theorem kc_MO_emit : Cond.code y_MO_emit b_MO_emit 9 (some .int) ∈ lw_g := lw_gm (List.mem_append_right _ (List.mem_of_getElem? (i := 1354) (by decide +kernel))) rfl
abbrev mw_MO_emit : List Cond := Cond.code y_MO_emit b_MO_emit 9 (some .int) :: lw_g
theorem hd_MO_emit : y_MO_emit.cls = R_MO ∧ y_MO_emit.cls ≠ "java/lang/invoke/MethodHandle" ∧ y_MO_emit.cls ≠ "java/lang/invoke/VarHandle" ∧ (parseMethodDescriptor y_MO_emit.desc).map (fun d => d.parameters.length) = some 3 := by decide +kernel
theorem kp_MO_emit : Cond.selects R_MO y_MO_emit y_MO_emit ∈ lw_g := lw_gm (List.mem_append_left _ (by decide +kernel)) rfl
theorem d_MO_emit_0 : decode b_MO_emit 0 = .ok (.iload_n 3, 1) := by decide +kernel
theorem d_MO_emit_1 : decode b_MO_emit 1 = .ok (.ifCond .ne 16, 3) := by decide +kernel
theorem d_MO_emit_4 : decode b_MO_emit 4 = .ok (.aload_n 0, 1) := by decide +kernel
theorem d_MO_emit_5 : decode b_MO_emit 5 = .ok (.iload_n 2, 1) := by decide +kernel
theorem d_MO_emit_6 : decode b_MO_emit 6 = .ok (.aload_n 0, 1) := by decide +kernel
theorem d_MO_emit_7 : decode b_MO_emit 7 = .ok (.iload_n 1, 1) := by decide +kernel
theorem d_MO_emit_8 : decode b_MO_emit 8 = .ok (.iload_n 2, 1) := by decide +kernel
theorem d_MO_emit_9 : decode b_MO_emit 9 = .ok (.invokevirtual 84, 3) := by decide +kernel
theorem d_MO_emit_12 : decode b_MO_emit 12 = .ok (.invokevirtual 173, 3) := by decide +kernel
theorem d_MO_emit_15 : decode b_MO_emit 15 = .ok (.iload_n 1, 1) := by decide +kernel
theorem d_MO_emit_16 : decode b_MO_emit 16 = .ok (.ireturn, 1) := by decide +kernel
theorem d_MO_emit_17 : decode b_MO_emit 17 = .ok (.iload_n 1, 1) := by decide +kernel
theorem d_MO_emit_18 : decode b_MO_emit 18 = .ok (.iconst 3, 1) := by decide +kernel
theorem d_MO_emit_19 : decode b_MO_emit 19 = .ok (.if_icmp .ne 43, 3) := by decide +kernel
theorem d_MO_emit_22 : decode b_MO_emit 22 = .ok (.aload_n 0, 1) := by decide +kernel
theorem d_MO_emit_23 : decode b_MO_emit 23 = .ok (.iload_n 2, 1) := by decide +kernel
theorem d_MO_emit_24 : decode b_MO_emit 24 = .ok (.iload_n 3, 1) := by decide +kernel
theorem d_MO_emit_25 : decode b_MO_emit 25 = .ok (.invokevirtual 138, 3) := by decide +kernel
theorem d_MO_emit_28 : decode b_MO_emit 28 = .ok (.istore 4, 2) := by decide +kernel
theorem d_MO_emit_30 : decode b_MO_emit 30 = .ok (.iload 4, 2) := by decide +kernel
theorem d_MO_emit_32 : decode b_MO_emit 32 = .ok (.ifCond .le 28, 3) := by decide +kernel
theorem d_MO_emit_35 : decode b_MO_emit 35 = .ok (.aload_n 0, 1) := by decide +kernel
theorem d_MO_emit_36 : decode b_MO_emit 36 = .ok (.aload_n 0, 1) := by decide +kernel
theorem d_MO_emit_37 : decode b_MO_emit 37 = .ok (.getfield 8, 3) := by decide +kernel
theorem d_MO_emit_40 : decode b_MO_emit 40 = .ok (.iload 4, 2) := by decide +kernel
theorem d_MO_emit_42 : decode b_MO_emit 42 = .ok (.iaload, 1) := by decide +kernel
theorem d_MO_emit_43 : decode b_MO_emit 43 = .ok (.aload_n 0, 1) := by decide +kernel
theorem d_MO_emit_44 : decode b_MO_emit 44 = .ok (.iload 4, 2) := by decide +kernel
theorem d_MO_emit_46 : decode b_MO_emit 46 = .ok (.invokevirtual 81, 3) := by decide +kernel
theorem d_MO_emit_49 : decode b_MO_emit 49 = .ok (.aload_n 0, 1) := by decide +kernel
theorem d_MO_emit_50 : decode b_MO_emit 50 = .ok (.iload_n 3, 1) := by decide +kernel
theorem d_MO_emit_51 : decode b_MO_emit 51 = .ok (.invokevirtual 141, 3) := by decide +kernel
theorem d_MO_emit_54 : decode b_MO_emit 54 = .ok (.invokevirtual 176, 3) := by decide +kernel
theorem d_MO_emit_57 : decode b_MO_emit 57 = .ok (.goto 4, 3) := by decide +kernel
theorem d_MO_emit_60 : decode b_MO_emit 60 = .ok (.iconst 0, 1) := by decide +kernel
theorem d_MO_emit_61 : decode b_MO_emit 61 = .ok (.ireturn, 1) := by decide +kernel
theorem d_MO_emit_62 : decode b_MO_emit 62 = .ok (.iload_n 1, 1) := by decide +kernel
theorem d_MO_emit_63 : decode b_MO_emit 63 = .ok (.iconst 4, 1) := by decide +kernel
theorem d_MO_emit_64 : decode b_MO_emit 64 = .ok (.if_icmp .eq 5, 3) := by decide +kernel
theorem d_MO_emit_67 : decode b_MO_emit 67 = .ok (.iconst 0, 1) := by decide +kernel
theorem d_MO_emit_68 : decode b_MO_emit 68 = .ok (.ireturn, 1) := by decide +kernel
theorem d_MO_emit_69 : decode b_MO_emit 69 = .ok (.aload_n 0, 1) := by decide +kernel
theorem d_MO_emit_70 : decode b_MO_emit 70 = .ok (.invokevirtual 180, 3) := by decide +kernel
theorem d_MO_emit_73 : decode b_MO_emit 73 = .ok (.istore 4, 2) := by decide +kernel
theorem d_MO_emit_75 : decode b_MO_emit 75 = .ok (.iconst 0, 1) := by decide +kernel
theorem d_MO_emit_76 : decode b_MO_emit 76 = .ok (.istore 5, 2) := by decide +kernel
theorem d_MO_emit_78 : decode b_MO_emit 78 = .ok (.aload_n 0, 1) := by decide +kernel
theorem d_MO_emit_79 : decode b_MO_emit 79 = .ok (.iload_n 2, 1) := by decide +kernel
theorem d_MO_emit_80 : decode b_MO_emit 80 = .ok (.invokevirtual 108, 3) := by decide +kernel
theorem d_MO_emit_83 : decode b_MO_emit 83 = .ok (.istore 6, 2) := by decide +kernel
theorem d_MO_emit_85 : decode b_MO_emit 85 = .ok (.iload 6, 2) := by decide +kernel
theorem d_MO_emit_87 : decode b_MO_emit 87 = .ok (.ifCond .le 97, 3) := by decide +kernel
theorem d_MO_emit_90 : decode b_MO_emit 90 = .ok (.aload_n 0, 1) := by decide +kernel
theorem d_MO_emit_91 : decode b_MO_emit 91 = .ok (.getfield 8, 3) := by decide +kernel
theorem d_MO_emit_94 : decode b_MO_emit 94 = .ok (.iload 6, 2) := by decide +kernel
theorem d_MO_emit_96 : decode b_MO_emit 96 = .ok (.iaload, 1) := by decide +kernel
theorem d_MO_emit_97 : decode b_MO_emit 97 = .ok (.iconst 3, 1) := by decide +kernel
theorem d_MO_emit_98 : decode b_MO_emit 98 = .ok (.if_icmp .eq 6, 3) := by decide +kernel
theorem d_MO_emit_101 : decode b_MO_emit 101 = .ok (.goto 72, 3) := by decide +kernel
theorem d_MO_emit_104 : decode b_MO_emit 104 = .ok (.aload_n 0, 1) := by decide +kernel
theorem d_MO_emit_105 : decode b_MO_emit 105 = .ok (.getfield 155, 3) := by decide +kernel
theorem d_MO_emit_108 : decode b_MO_emit 108 = .ok (.istore 7, 2) := by decide +kernel
theorem d_MO_emit_110 : decode b_MO_emit 110 = .ok (.aload_n 0, 1) := by decide +kernel
theorem d_MO_emit_111 : decode b_MO_emit 111 = .ok (.iconst 0, 1) := by decide +kernel
theorem d_MO_emit_112 : decode b_MO_emit 112 = .ok (.invokevirtual 164, 3) := by decide +kernel
theorem d_MO_emit_115 : decode b_MO_emit 115 = .ok (.aload_n 0, 1) := by decide +kernel
theorem d_MO_emit_116 : decode b_MO_emit 116 = .ok (.iload 5, 2) := by decide +kernel
theorem d_MO_emit_118 : decode b_MO_emit 118 = .ok (.invokevirtual 184, 3) := by decide +kernel
theorem d_MO_emit_121 : decode b_MO_emit 121 = .ok (.aload_n 0, 1) := by decide +kernel
theorem d_MO_emit_122 : decode b_MO_emit 122 = .ok (.iconst 3, 1) := by decide +kernel
theorem d_MO_emit_123 : decode b_MO_emit 123 = .ok (.aload_n 0, 1) := by decide +kernel
theorem d_MO_emit_124 : decode b_MO_emit 124 = .ok (.iload 6, 2) := by decide +kernel
theorem d_MO_emit_126 : decode b_MO_emit 126 = .ok (.invokevirtual 81, 3) := by decide +kernel
theorem d_MO_emit_129 : decode b_MO_emit 129 = .ok (.iload_n 3, 1) := by decide +kernel
theorem d_MO_emit_130 : decode b_MO_emit 130 = .ok (.invokevirtual 176, 3) := by decide +kernel
theorem d_MO_emit_133 : decode b_MO_emit 133 = .ok (.istore 8, 2) := by decide +kernel
theorem d_MO_emit_135 : decode b_MO_emit 135 = .ok (.iload 8, 2) := by decide +kernel
theorem d_MO_emit_137 : decode b_MO_emit 137 = .ok (.ifCond .ne 12, 3) := by decide +kernel
theorem d_MO_emit_140 : decode b_MO_emit 140 = .ok (.aload_n 0, 1) := by decide +kernel
theorem d_MO_emit_141 : decode b_MO_emit 141 = .ok (.iload 7, 2) := by decide +kernel
theorem d_MO_emit_143 : decode b_MO_emit 143 = .ok (.putfield 155, 3) := by decide +kernel
theorem d_MO_emit_146 : decode b_MO_emit 146 = .ok (.goto 12, 3) := by decide +kernel
theorem d_MO_emit_149 : decode b_MO_emit 149 = .ok (.aload_n 0, 1) := by decide +kernel
theorem d_MO_emit_150 : decode b_MO_emit 150 = .ok (.getfield 8, 3) := by decide +kernel
theorem d_MO_emit_153 : decode b_MO_emit 153 = .ok (.iload 7, 2) := by decide +kernel
theorem d_MO_emit_155 : decode b_MO_emit 155 = .ok (.iload 8, 2) := by decide +kernel
theorem d_MO_emit_157 : decode b_MO_emit 157 = .ok (.iastore, 1) := by decide +kernel
theorem d_MO_emit_158 : decode b_MO_emit 158 = .ok (.iload 5, 2) := by decide +kernel
theorem d_MO_emit_160 : decode b_MO_emit 160 = .ok (.iload 8, 2) := by decide +kernel
theorem d_MO_emit_162 : decode b_MO_emit 162 = .ok (.ifCond .ne 7, 3) := by decide +kernel
theorem d_MO_emit_165 : decode b_MO_emit 165 = .ok (.iconst 0, 1) := by decide +kernel
theorem d_MO_emit_166 : decode b_MO_emit 166 = .ok (.goto 4, 3) := by decide +kernel
theorem d_MO_emit_169 : decode b_MO_emit 169 = .ok (.iconst 1, 1) := by decide +kernel
theorem d_MO_emit_170 : decode b_MO_emit 170 = .ok (.iadd, 1) := by decide +kernel
theorem d_MO_emit_171 : decode b_MO_emit 171 = .ok (.istore 5, 2) := by decide +kernel
theorem d_MO_emit_173 : decode b_MO_emit 173 = .ok (.aload_n 0, 1) := by decide +kernel
theorem d_MO_emit_174 : decode b_MO_emit 174 = .ok (.iload 6, 2) := by decide +kernel
theorem d_MO_emit_176 : decode b_MO_emit 176 = .ok (.invokevirtual 111, 3) := by decide +kernel
theorem d_MO_emit_179 : decode b_MO_emit 179 = .ok (.istore 6, 2) := by decide +kernel
theorem d_MO_emit_181 : decode b_MO_emit 181 = .ok (.goto (-96), 3) := by decide +kernel
theorem d_MO_emit_184 : decode b_MO_emit 184 = .ok (.aload_n 0, 1) := by decide +kernel
theorem d_MO_emit_185 : decode b_MO_emit 185 = .ok (.iload 4, 2) := by decide +kernel
theorem d_MO_emit_187 : decode b_MO_emit 187 = .ok (.invokevirtual 187, 3) := by decide +kernel
theorem d_MO_emit_190 : decode b_MO_emit 190 = .ok (.iconst 4, 1) := by decide +kernel
theorem d_MO_emit_191 : decode b_MO_emit 191 = .ok (.ireturn, 1) := by decide +kernel
abbrev b_MO_through : ByteArray := prog_13_method_65_code
def y_MO_through : MethodName := ⟨R_MO, "through", "(IIII)V"⟩
theorem kc_MO_through : Cond.code y_MO_through b_MO_through 7 none ∈ lw_g := lw_gm (List.mem_append_right _ (List.mem_of_getElem? (i := 1394) (by decide +kernel))) rfl
abbrev mw_MO_through : List Cond := Cond.code y_MO_through b_MO_through 7 none :: lw_g
theorem hd_MO_through : y_MO_through.cls = R_MO ∧ y_MO_through.cls ≠ "java/lang/invoke/MethodHandle" ∧ y_MO_through.cls ≠ "java/lang/invoke/VarHandle" ∧ (parseMethodDescriptor y_MO_through.desc).map (fun d => d.parameters.length) = some 4 := by decide +kernel
theorem kp_MO_through : Cond.selects R_MO y_MO_through y_MO_through ∈ lw_g := lw_gm (List.mem_append_left _ (by decide +kernel)) rfl
theorem d_MO_through_0 : decode b_MO_through 0 = .ok (.aload_n 0, 1) := by decide +kernel
theorem d_MO_through_1 : decode b_MO_through 1 = .ok (.iload_n 1, 1) := by decide +kernel
theorem d_MO_through_2 : decode b_MO_through 2 = .ok (.invokevirtual 108, 3) := by decide +kernel
theorem d_MO_through_5 : decode b_MO_through 5 = .ok (.istore 5, 2) := by decide +kernel
theorem d_MO_through_7 : decode b_MO_through 7 = .ok (.iload 5, 2) := by decide +kernel
theorem d_MO_through_9 : decode b_MO_through 9 = .ok (.ifCond .le 101, 3) := by decide +kernel
theorem d_MO_through_12 : decode b_MO_through 12 = .ok (.aload_n 0, 1) := by decide +kernel
theorem d_MO_through_13 : decode b_MO_through 13 = .ok (.iload_n 2, 1) := by decide +kernel
theorem d_MO_through_14 : decode b_MO_through 14 = .ok (.iload 5, 2) := by decide +kernel
theorem d_MO_through_16 : decode b_MO_through 16 = .ok (.invokevirtual 131, 3) := by decide +kernel
theorem d_MO_through_19 : decode b_MO_through 19 = .ok (.ifCond .ne 12, 3) := by decide +kernel
theorem d_MO_through_22 : decode b_MO_through 22 = .ok (.aload_n 0, 1) := by decide +kernel
theorem d_MO_through_23 : decode b_MO_through 23 = .ok (.iload 5, 2) := by decide +kernel
theorem d_MO_through_25 : decode b_MO_through 25 = .ok (.invokevirtual 303, 3) := by decide +kernel
theorem d_MO_through_28 : decode b_MO_through 28 = .ok (.goto 71, 3) := by decide +kernel
theorem d_MO_through_31 : decode b_MO_through 31 = .ok (.aload_n 0, 1) := by decide +kernel
theorem d_MO_through_32 : decode b_MO_through 32 = .ok (.iload_n 2, 1) := by decide +kernel
theorem d_MO_through_33 : decode b_MO_through 33 = .ok (.invokevirtual 141, 3) := by decide +kernel
theorem d_MO_through_36 : decode b_MO_through 36 = .ok (.ifCond .ne 26, 3) := by decide +kernel
theorem d_MO_through_39 : decode b_MO_through 39 = .ok (.aload_n 0, 1) := by decide +kernel
theorem d_MO_through_40 : decode b_MO_through 40 = .ok (.iload_n 3, 1) := by decide +kernel
theorem d_MO_through_41 : decode b_MO_through 41 = .ok (.iload 5, 2) := by decide +kernel
theorem d_MO_through_43 : decode b_MO_through 43 = .ok (.invokevirtual 313, 3) := by decide +kernel
theorem d_MO_through_46 : decode b_MO_through 46 = .ok (.aload_n 0, 1) := by decide +kernel
theorem d_MO_through_47 : decode b_MO_through 47 = .ok (.iload 4, 2) := by decide +kernel
theorem d_MO_through_49 : decode b_MO_through 49 = .ok (.aload_n 0, 1) := by decide +kernel
theorem d_MO_through_50 : decode b_MO_through 50 = .ok (.iload_n 3, 1) := by decide +kernel
theorem d_MO_through_51 : decode b_MO_through 51 = .ok (.iload 4, 2) := by decide +kernel
theorem d_MO_through_53 : decode b_MO_through 53 = .ok (.invokevirtual 84, 3) := by decide +kernel
theorem d_MO_through_56 : decode b_MO_through 56 = .ok (.invokevirtual 173, 3) := by decide +kernel
theorem d_MO_through_59 : decode b_MO_through 59 = .ok (.goto 40, 3) := by decide +kernel
theorem d_MO_through_62 : decode b_MO_through 62 = .ok (.aload_n 0, 1) := by decide +kernel
theorem d_MO_through_63 : decode b_MO_through 63 = .ok (.iconst 3, 1) := by decide +kernel
theorem d_MO_through_64 : decode b_MO_through 64 = .ok (.iload 5, 2) := by decide +kernel
theorem d_MO_through_66 : decode b_MO_through 66 = .ok (.invokevirtual 313, 3) := by decide +kernel
theorem d_MO_through_69 : decode b_MO_through 69 = .ok (.aload_n 0, 1) := by decide +kernel
theorem d_MO_through_70 : decode b_MO_through 70 = .ok (.invokevirtual 180, 3) := by decide +kernel
theorem d_MO_through_73 : decode b_MO_through 73 = .ok (.istore 6, 2) := by decide +kernel
theorem d_MO_through_75 : decode b_MO_through 75 = .ok (.aload_n 0, 1) := by decide +kernel
theorem d_MO_through_76 : decode b_MO_through 76 = .ok (.aload_n 0, 1) := by decide +kernel
theorem d_MO_through_77 : decode b_MO_through 77 = .ok (.iload 5, 2) := by decide +kernel
theorem d_MO_through_79 : decode b_MO_through 79 = .ok (.invokevirtual 81, 3) := by decide +kernel
theorem d_MO_through_82 : decode b_MO_through 82 = .ok (.aload_n 0, 1) := by decide +kernel
theorem d_MO_through_83 : decode b_MO_through 83 = .ok (.iload_n 2, 1) := by decide +kernel
theorem d_MO_through_84 : decode b_MO_through 84 = .ok (.invokevirtual 141, 3) := by decide +kernel
theorem d_MO_through_87 : decode b_MO_through 87 = .ok (.iload_n 3, 1) := by decide +kernel
theorem d_MO_through_88 : decode b_MO_through 88 = .ok (.iload 4, 2) := by decide +kernel
theorem d_MO_through_90 : decode b_MO_through 90 = .ok (.invokevirtual 316, 3) := by decide +kernel
theorem d_MO_through_93 : decode b_MO_through 93 = .ok (.aload_n 0, 1) := by decide +kernel
theorem d_MO_through_94 : decode b_MO_through 94 = .ok (.iload 6, 2) := by decide +kernel
theorem d_MO_through_96 : decode b_MO_through 96 = .ok (.invokevirtual 187, 3) := by decide +kernel
theorem d_MO_through_99 : decode b_MO_through 99 = .ok (.aload_n 0, 1) := by decide +kernel
theorem d_MO_through_100 : decode b_MO_through 100 = .ok (.iload 5, 2) := by decide +kernel
theorem d_MO_through_102 : decode b_MO_through 102 = .ok (.invokevirtual 111, 3) := by decide +kernel
theorem d_MO_through_105 : decode b_MO_through 105 = .ok (.istore 5, 2) := by decide +kernel
theorem d_MO_through_107 : decode b_MO_through 107 = .ok (.goto (-100), 3) := by decide +kernel
theorem d_MO_through_110 : decode b_MO_through 110 = .ok (.return_, 1) := by decide +kernel
set_option maxHeartbeats 4000000 in
set_option maxRecDepth 100000 in
theorem l_MO_isElement_h5 {p : Program} {e : Env} {s : State} {m : MethodId} {args : Array Value} {below : List Frame} {meth : Method} {c : Code} {V : Option (Bool)} {V0 : Bool} (C0 : lc_C p s m meth c args b_MO_isElement 8 (some .boolean) R_MO lw_g) (hs : V = some V0) (l : Launch) (D : va_G) (cB cI : ClassId) (aM aMst aMdcs aMtot aMfrm aMsiz aMffr aMfsz aMlkd aMlat aMkkd aMkat aModr aMgrp aMikd aMiat : Nat) (rF : Nat) (rL : Nat) (fu : Nat) (fx : Int32 → Int32 → Int32 → Int32 → Option (Bool)) (thr : Int32) (tpd : Int32) (frs : Int32) (frt : Int32) (top : Int32) (bgn : Int32) (mst : Int32) (ovr : Bool) (tgr : Bool) (lvs : Int32) (its : Int32) (hgh : Int64) (loo : Int64) (dfl : Bool) (st : Nat → Int32) (hP : va_P D vwCl [(aM, .inr (11, [.int thr, .ref aMst, .int tpd, .ref aMdcs, .ref aMtot, .ref aMfrm, .ref aMsiz, .int frs, .int frt, .ref aMffr, .ref aMfsz, .int top, .int bgn, .int mst, .int (b2i ovr), .int (b2i tgr), .int lvs, .ref aMlkd, .ref aMlat, .ref aMkkd, .ref aMkat, .ref aModr, .ref aMgrp, .int its, .ref aMikd, .ref aMiat, .long hgh, .long loo, .int (b2i dfl)])), (aMst, .inl (cI, 136400, .inl st))] s.heap) (hk : hk_ D cB cI s) (p0 : Int32) (p1 : Int32) (p2 : Int32) (p3 : Int32) (p4 : Int32) (hfx : ∀ (z0 z1 z2 z3 : Int32) (V1 : Bool), fx z0 z1 z2 z3 = some V1 → Met l y_MO_isBox mw_MO_isBox { frames := rF, cells := 0, slots := 0, locals := rL } (va_Pc [.ref aM, .int z0, .int z1, .int z2, .int z3] (fun U => va_P D vwCl [(aM, .inr (11, [.int thr, .ref aMst, .int tpd, .ref aMdcs, .ref aMtot, .ref aMfrm, .ref aMsiz, .int frs, .int frt, .ref aMffr, .ref aMfsz, .int top, .int bgn, .int mst, .int (b2i ovr), .int (b2i tgr), .int lvs, .ref aMlkd, .ref aMlat, .ref aMkkd, .ref aMkat, .ref aModr, .ref aMgrp, .int its, .ref aMikd, .ref aMiat, .long hgh, .long loo, .int (b2i dfl)])), (aMst, .inl (cI, 136400, .inl st))] U.heap ∧ hk_ D cB cI U)) (vp_Si (fun r => r = b2i V1)) 0 0 (fun _ => False)) {K : Int32 → Option (Bool)} (hKx : ∀ (x6 : Int32), V = K x6 → ∀ ls : Array Slot, lv_has ls 8 [(0, .ref aM), (1, .int p0), (2, .int p1), (3, .int p2), (4, .int p3), (5, .int p4), (6, .int x6)] → W p l e ({ frames := rF + 8, cells := 0, slots := 0, locals := rL + 240 }) s m args below meth c s.heap [] 0 0 (MQ below (vp_Si (fun r => r = b2i V0)) args s 0 0 (fun _ => False)) (F0 m 27 ls [])) : ∀ (n : Nat) (x6 : Int32), V = tw_MO_isElement_h5 fu fx K st p0 p1 p2 p3 p4 n x6 → ∀ ls : Array Slot, lv_has ls 8 [(0, .ref aM), (1, .int p0), (2, .int p1), (3, .int p2), (4, .int p3), (5, .int p4), (6, .int x6)] → W p l e ({ frames := rF + 8, cells := 0, slots := 0, locals := rL + 240 }) s m args below meth c s.heap [] 0 0 (MQ below (vp_Si (fun r => r = b2i V0)) args s 0 0 (fun _ => False)) (F0 m 5 ls []) := by
  obtain ⟨hx, hb, hml, hr, hown, hlocks, hT⟩ := id C0
  have hK := hk.1
  have hN := hk.2.1
  intro n
  induction n with
  | zero =>
    intro x6 hV
    exact op_no hs (hV.trans rfl)
  | succ n ih =>
    intro x6 hV ls hl
    refine lv_iload hx hb d_MO_isElement_5 (lv_at hl 6 rfl) ?_
    refine lv_iload_n hx hb d_MO_isElement_7 rfl (lv_at hl 2 rfl) ?_
    refine lv_icmp_ge (tgt := 27) hx hb d_MO_isElement_8 (by decide) (fun c_1 => ?_) (fun c_1 => ?_)
    · exact hKx x6 (by rw [hV, tw_MO_isElement_h5, if_pos c_1]) ls (lv_sub hl [0, 1, 2, 3, 4, 5, 6] rfl)
    · refine lv_aload_n hx hb d_MO_isElement_11 rfl (lv_at hl 0 rfl) ?_
      refine va_get (D := D) (ci := 11) (v := .ref aMst) (C := R_MO) (T := T_MO) (N := 29) hx hb hT u_MO hown hK hP 0 rfl rfl 1 (by decide) (hT _ k_1044) (fun _ h9 => h9) rfl d_MO_isElement_12 ?_
      refine lv_iload hx hb d_MO_isElement_15 (lv_at hl 6 rfl) ?_
      by_cases c_2 : 0 ≤ x6 ∧ x6 < 136400
      rotate_left
      · exact op_no hs (by rw [hV, tw_MO_isElement_h5, if_neg c_1, if_neg c_2])
      refine va_iald hx hb hK hP 1 1 rfl rfl (in_pp c_2.1 c_2.2 rfl) d_MO_isElement_17 ?_
      refine lv_if_eq (tgt := 27) hx hb d_MO_isElement_18 (by decide) (fun c_3 => ?_) (fun c_3 => ?_)
      · exact hKx x6 (by rw [hV, tw_MO_isElement_h5, if_neg c_1, if_pos c_2, if_pos c_3]) ls (lv_sub hl [0, 1, 2, 3, 4, 5, 6] rfl)
      · refine lv_iinc (v := x6 + 1) (lv' := [(6, .int (x6 + 1)), (0, .ref aM), (1, .int p0), (2, .int p1), (3, .int p2), (4, .int p3), (5, .int p4)]) hx hb d_MO_isElement_21 hl (k := 6) rfl rfl (by decide) rfl (fun ls hl => ?_)
        refine lv_goto (tgt := 5) hx hb d_MO_isElement_24 (by decide) ?_
        exact ih (x6 + 1) (by rw [hV, tw_MO_isElement_h5, if_neg c_1, if_pos c_2, if_neg c_3]) ls (lv_sub hl [1, 2, 3, 4, 5, 6, 0] rfl)
set_option maxHeartbeats 4000000 in
set_option maxRecDepth 100000 in
theorem l_MO_isElement_r27 {p : Program} {e : Env} {s : State} {m : MethodId} {args : Array Value} {below : List Frame} {meth : Method} {c : Code} {V : Option (Bool)} {V0 : Bool} (C0 : lc_C p s m meth c args b_MO_isElement 8 (some .boolean) R_MO lw_g) (hs : V = some V0) (l : Launch) (D : va_G) (cB cI : ClassId) (aM aMst aMdcs aMtot aMfrm aMsiz aMffr aMfsz aMlkd aMlat aMkkd aMkat aModr aMgrp aMikd aMiat : Nat) (rF : Nat) (rL : Nat) (fu : Nat) (fx : Int32 → Int32 → Int32 → Int32 → Option (Bool)) (thr : Int32) (tpd : Int32) (frs : Int32) (frt : Int32) (top : Int32) (bgn : Int32) (mst : Int32) (ovr : Bool) (tgr : Bool) (lvs : Int32) (its : Int32) (hgh : Int64) (loo : Int64) (dfl : Bool) (st : Nat → Int32) (hP : va_P D vwCl [(aM, .inr (11, [.int thr, .ref aMst, .int tpd, .ref aMdcs, .ref aMtot, .ref aMfrm, .ref aMsiz, .int frs, .int frt, .ref aMffr, .ref aMfsz, .int top, .int bgn, .int mst, .int (b2i ovr), .int (b2i tgr), .int lvs, .ref aMlkd, .ref aMlat, .ref aMkkd, .ref aMkat, .ref aModr, .ref aMgrp, .int its, .ref aMikd, .ref aMiat, .long hgh, .long loo, .int (b2i dfl)])), (aMst, .inl (cI, 136400, .inl st))] s.heap) (hk : hk_ D cB cI s) (x1 : Int32) (x2 : Int32) (x3 : Int32) (x4 : Int32) (x5 : Int32) (x6 : Int32) (hfx : ∀ (z0 z1 z2 z3 : Int32) (V1 : Bool), fx z0 z1 z2 z3 = some V1 → Met l y_MO_isBox mw_MO_isBox { frames := rF, cells := 0, slots := 0, locals := rL } (va_Pc [.ref aM, .int z0, .int z1, .int z2, .int z3] (fun U => va_P D vwCl [(aM, .inr (11, [.int thr, .ref aMst, .int tpd, .ref aMdcs, .ref aMtot, .ref aMfrm, .ref aMsiz, .int frs, .int frt, .ref aMffr, .ref aMfsz, .int top, .int bgn, .int mst, .int (b2i ovr), .int (b2i tgr), .int lvs, .ref aMlkd, .ref aMlat, .ref aMkkd, .ref aMkat, .ref aModr, .ref aMgrp, .int its, .ref aMikd, .ref aMiat, .long hgh, .long loo, .int (b2i dfl)])), (aMst, .inl (cI, 136400, .inl st))] U.heap ∧ hk_ D cB cI U)) (vp_Si (fun r => r = b2i V1)) 0 0 (fun _ => False)) {K : Option (Bool)} (hKx : V = K → ∀ ls : Array Slot, lv_has ls 8 [(0, .ref aM), (1, .int x1), (2, .int x2), (3, .int x3), (4, .int x4), (5, .int x5), (6, .int x6)] → W p l e ({ frames := rF + 8, cells := 0, slots := 0, locals := rL + 240 }) s m args below meth c s.heap [] 0 0 (MQ below (vp_Si (fun r => r = b2i V0)) args s 0 0 (fun _ => False)) (F0 m 66 ls [])) (hV : V = tw_MO_isElement_r27 fu fx K st x1 x2 x3 x4 x5 x6) : ∀ ls : Array Slot, lv_has ls 8 [(0, .ref aM), (1, .int x1), (2, .int x2), (3, .int x3), (4, .int x4), (5, .int x5), (6, .int x6)] → W p l e ({ frames := rF + 8, cells := 0, slots := 0, locals := rL + 240 }) s m args below meth c s.heap [] 0 0 (MQ below (vp_Si (fun r => r = b2i V0)) args s 0 0 (fun _ => False)) (F0 m 27 ls []) := by
  obtain ⟨hx, hb, hml, hr, hown, hlocks, hT⟩ := id C0
  have hK := hk.1
  have hN := hk.2.1
  intro ls hl
  refine lv_iload hx hb d_MO_isElement_27 (lv_at hl 6 rfl) ?_
  refine lv_iload_n hx hb d_MO_isElement_29 rfl (lv_at hl 2 rfl) ?_
  refine lv_icmp_eq (tgt := 64) hx hb d_MO_isElement_30 (by decide) (fun c_5 => ?_) (fun c_5 => ?_)
  · refine lv_iconst (v := 0) hx hb d_MO_isElement_64 (by decide) ?_
    exact W.zret (v := 0) (ty := .boolean) hx hb hr (rfl) (fun t ht hW => ⟨0, rfl, (op_b (x := false) hs (by rw [hV, tw_MO_isElement_r27, if_pos c_5])), ht⟩) (fun _ h => by cases h) d_MO_isElement_65
  · refine lv_aload_n hx hb d_MO_isElement_33 rfl (lv_at hl 0 rfl) ?_
    refine lv_iload_n hx hb d_MO_isElement_34 rfl (lv_at hl 1 rfl) ?_
    refine lv_iconst (v := 1) hx hb d_MO_isElement_35 (by decide) ?_
    refine lv_iadd hx hb d_MO_isElement_36 ?_
    refine lv_iload hx hb d_MO_isElement_37 (lv_at hl 6 rfl) ?_
    rcases h_6 : tw_MO_isRightText fu st (x1 + 1) x6 with _ | r_6
    · exact op_no hs (by rw [hV, tw_MO_isElement_r27, if_neg c_5, h_6, ob1_no])
    refine rd_V (val := b2i r_6) (As := [.int (x1 + 1), .int x6]) (rest := []) ⟨hx, hb, hml, hown, hT⟩ (c_MO_isRightText l D cB cI aM aMst aMdcs aMtot aMfrm aMsiz aMffr aMfsz aMlkd aMlat aMkkd aMkat aModr aMgrp aMikd aMiat fu thr tpd frs frt top bgn mst ovr tgr lvs its hgh loo dfl st (x1 + 1) x6 r_6 h_6) (cwV 2 hT (gV_of k_1162 k_1164 kp_MO_isRightText k_12 kc_MO_isRightText) rfl rfl rfl hd_MO_isRightText ⟨rl_s (Nat.le_of_ble_eq_true rfl), rl_s (Nat.le_of_ble_eq_true rfl)⟩) hk hP (q0 := 0) rfl rfl rfl rfl hl.1 rfl (Nat.le_of_ble_eq_true rfl) d_MO_isElement_39 ⟨Nat.zero_le _, Nat.zero_le _⟩ ?_
    refine lv_if_eq (tgt := 64) hx hb d_MO_isElement_42 (by decide) (fun c_7 => ?_) (fun c_7 => ?_)
    · refine lv_iconst (v := 0) hx hb d_MO_isElement_64 (by decide) ?_
      exact W.zret (v := 0) (ty := .boolean) hx hb hr (rfl) (fun t ht hW => ⟨0, rfl, (op_b (x := false) hs (by rw [hV, tw_MO_isElement_r27, if_neg c_5, h_6, ob1_mk, if_pos c_7])), ht⟩) (fun _ h => by cases h) d_MO_isElement_65
    · refine lv_iload hx hb d_MO_isElement_45 (lv_at hl 4 rfl) ?_
      refine lv_if_lt (tgt := 66) hx hb d_MO_isElement_47 (by decide) (fun c_8 => ?_) (fun c_8 => ?_)
      · exact hKx  (by rw [hV, tw_MO_isElement_r27, if_neg c_5, h_6, ob1_mk, if_neg c_7, if_pos c_8]) ls (lv_sub hl [0, 1, 2, 3, 4, 5, 6] rfl)
      · refine lv_aload_n hx hb d_MO_isElement_50 rfl (lv_at hl 0 rfl) ?_
        refine lv_iload_n hx hb d_MO_isElement_51 rfl (lv_at hl 1 rfl) ?_
        refine lv_iconst (v := 1) hx hb d_MO_isElement_52 (by decide) ?_
        refine lv_iadd hx hb d_MO_isElement_53 ?_
        refine lv_iload hx hb d_MO_isElement_54 (lv_at hl 6 rfl) ?_
        refine lv_iload hx hb d_MO_isElement_56 (lv_at hl 4 rfl) ?_
        rcases h_9 : tw_MO_isNumber fu st (x1 + 1) x6 x4 with _ | r_9
        · exact op_no hs (by rw [hV, tw_MO_isElement_r27, if_neg c_5, h_6, ob1_mk, if_neg c_7, if_neg c_8, h_9, ob1_no])
        refine rd_V (val := b2i r_9) (As := [.int (x1 + 1), .int x6, .int x4]) (rest := []) ⟨hx, hb, hml, hown, hT⟩ (c_MO_isNumber l D cB cI aM aMst aMdcs aMtot aMfrm aMsiz aMffr aMfsz aMlkd aMlat aMkkd aMkat aModr aMgrp aMikd aMiat fu thr tpd frs frt top bgn mst ovr tgr lvs its hgh loo dfl st (x1 + 1) x6 x4 r_9 h_9) (cwV 3 hT (gV_of k_1170 k_1172 kp_MO_isNumber k_12 kc_MO_isNumber) rfl rfl rfl hd_MO_isNumber ⟨rl_s (Nat.le_of_ble_eq_true rfl), rl_s (Nat.le_of_ble_eq_true rfl)⟩) hk hP (q0 := 0) rfl rfl rfl rfl hl.1 rfl (Nat.le_of_ble_eq_true rfl) d_MO_isElement_58 ⟨Nat.zero_le _, Nat.zero_le _⟩ ?_
        refine lv_if_ne (tgt := 66) hx hb d_MO_isElement_61 (by decide) (fun c_10 => ?_) (fun c_10 => ?_)
        · exact hKx  (by rw [hV, tw_MO_isElement_r27, if_neg c_5, h_6, ob1_mk, if_neg c_7, if_neg c_8, h_9, ob1_mk, if_neg c_10]) ls (lv_sub hl [0, 1, 2, 3, 4, 5, 6] rfl)
        · refine lv_iconst (v := 0) hx hb d_MO_isElement_64 (by decide) ?_
          exact W.zret (v := 0) (ty := .boolean) hx hb hr (rfl) (fun t ht hW => ⟨0, rfl, (op_b (x := false) hs (by rw [hV, tw_MO_isElement_r27, if_neg c_5, h_6, ob1_mk, if_neg c_7, if_neg c_8, h_9, ob1_mk, if_pos c_10])), ht⟩) (fun _ h => by cases h) d_MO_isElement_65
set_option maxHeartbeats 4000000 in
set_option maxRecDepth 100000 in
theorem l_MO_isElement_h71 {p : Program} {e : Env} {s : State} {m : MethodId} {args : Array Value} {below : List Frame} {meth : Method} {c : Code} {V : Option (Bool)} {V0 : Bool} (C0 : lc_C p s m meth c args b_MO_isElement 8 (some .boolean) R_MO lw_g) (hs : V = some V0) (l : Launch) (D : va_G) (cB cI : ClassId) (aM aMst aMdcs aMtot aMfrm aMsiz aMffr aMfsz aMlkd aMlat aMkkd aMkat aModr aMgrp aMikd aMiat : Nat) (rF : Nat) (rL : Nat) (fu : Nat) (fx : Int32 → Int32 → Int32 → Int32 → Option (Bool)) (thr : Int32) (tpd : Int32) (frs : Int32) (frt : Int32) (top : Int32) (bgn : Int32) (mst : Int32) (ovr : Bool) (tgr : Bool) (lvs : Int32) (its : Int32) (hgh : Int64) (loo : Int64) (dfl : Bool) (st : Nat → Int32) (hP : va_P D vwCl [(aM, .inr (11, [.int thr, .ref aMst, .int tpd, .ref aMdcs, .ref aMtot, .ref aMfrm, .ref aMsiz, .int frs, .int frt, .ref aMffr, .ref aMfsz, .int top, .int bgn, .int mst, .int (b2i ovr), .int (b2i tgr), .int lvs, .ref aMlkd, .ref aMlat, .ref aMkkd, .ref aMkat, .ref aModr, .ref aMgrp, .int its, .ref aMikd, .ref aMiat, .long hgh, .long loo, .int (b2i dfl)])), (aMst, .inl (cI, 136400, .inl st))] s.heap) (hk : hk_ D cB cI s) (p0 : Int32) (p1 : Int32) (p3 : Int32) (p4 : Int32) (x6 : Int32) (hfx : ∀ (z0 z1 z2 z3 : Int32) (V1 : Bool), fx z0 z1 z2 z3 = some V1 → Met l y_MO_isBox mw_MO_isBox { frames := rF, cells := 0, slots := 0, locals := rL } (va_Pc [.ref aM, .int z0, .int z1, .int z2, .int z3] (fun U => va_P D vwCl [(aM, .inr (11, [.int thr, .ref aMst, .int tpd, .ref aMdcs, .ref aMtot, .ref aMfrm, .ref aMsiz, .int frs, .int frt, .ref aMffr, .ref aMfsz, .int top, .int bgn, .int mst, .int (b2i ovr), .int (b2i tgr), .int lvs, .ref aMlkd, .ref aMlat, .ref aMkkd, .ref aMkat, .ref aModr, .ref aMgrp, .int its, .ref aMikd, .ref aMiat, .long hgh, .long loo, .int (b2i dfl)])), (aMst, .inl (cI, 136400, .inl st))] U.heap ∧ hk_ D cB cI U)) (vp_Si (fun r => r = b2i V1)) 0 0 (fun _ => False)) {K : Int32 → Option (Bool)} (hKx : ∀ (x7 : Int32), V = K x7 → ∀ ls : Array Slot, lv_has ls 8 [(0, .ref aM), (1, .int p0), (2, .int p1), (5, .int p4), (6, .int x6)] → W p l e ({ frames := rF + 8, cells := 0, slots := 0, locals := rL + 240 }) s m args below meth c s.heap [] 0 0 (MQ below (vp_Si (fun r => r = b2i V0)) args s 0 0 (fun _ => False)) (F0 m 144 ls [])) : ∀ (n : Nat) (x7 : Int32), V = tw_MO_isElement_h71 fu fx K st p0 p1 p3 p4 x6 n x7 → ∀ ls : Array Slot, lv_has ls 8 [(0, .ref aM), (1, .int p0), (2, .int p1), (4, .int p3), (5, .int p4), (6, .int x6), (7, .int x7)] → W p l e ({ frames := rF + 8, cells := 0, slots := 0, locals := rL + 240 }) s m args below meth c s.heap [] 0 0 (MQ below (vp_Si (fun r => r = b2i V0)) args s 0 0 (fun _ => False)) (F0 m 71 ls []) := by
  obtain ⟨hx, hb, hml, hr, hown, hlocks, hT⟩ := id C0
  have hK := hk.1
  have hN := hk.2.1
  intro n
  induction n with
  | zero =>
    intro x7 hV
    exact op_no hs (hV.trans rfl)
  | succ n ih =>
    intro x7 hV ls hl
    refine lv_iload hx hb d_MO_isElement_71 (lv_at hl 6 rfl) ?_
    refine lv_iload_n hx hb d_MO_isElement_73 rfl (lv_at hl 1 rfl) ?_
    refine lv_icmp_ge (tgt := 144) hx hb d_MO_isElement_74 (by decide) (fun c_12 => ?_) (fun c_12 => ?_)
    · exact hKx x7 (by rw [hV, tw_MO_isElement_h71, if_pos c_12]) ls (lv_sub hl [0, 1, 2, 4, 5] rfl)
    · refine lv_iload hx hb d_MO_isElement_77 (lv_at hl 3 rfl) ?_
      refine lv_if_ge (tgt := 144) hx hb d_MO_isElement_79 (by decide) (fun c_13 => ?_) (fun c_13 => ?_)
      · exact hKx x7 (by rw [hV, tw_MO_isElement_h71, if_neg c_12, if_pos c_13]) ls (lv_sub hl [0, 1, 2, 4, 5] rfl)
      · refine lv_aload_n hx hb d_MO_isElement_82 rfl (lv_at hl 0 rfl) ?_
        refine lv_iload hx hb d_MO_isElement_83 (lv_at hl 6 rfl) ?_
        refine lv_iconst (v := 1) hx hb d_MO_isElement_85 (by decide) ?_
        refine lv_iadd hx hb d_MO_isElement_86 ?_
        refine lv_aload_n hx hb d_MO_isElement_87 rfl (lv_at hl 0 rfl) ?_
        refine lv_iload hx hb d_MO_isElement_88 (lv_at hl 6 rfl) ?_
        rcases h_14 : tw_MO_nameEndOf fu st x7 with _ | r_14
        · exact op_no hs (by rw [hV, tw_MO_isElement_h71, if_neg c_12, if_neg c_13, h_14, ob1_no])
        refine rd_V (val := r_14) (As := [.int x7]) (rest := [.int (x7 + 1), .ref aM]) ⟨hx, hb, hml, hown, hT⟩ (c_MO_nameEndOf l D cB cI aM aMst aMdcs aMtot aMfrm aMsiz aMffr aMfsz aMlkd aMlat aMkkd aMkat aModr aMgrp aMikd aMiat fu thr tpd frs frt top bgn mst ovr tgr lvs its hgh loo dfl st x7 r_14 h_14) (cwV 1 hT (gV_of k_1174 k_1176 kp_MO_nameEndOf k_12 kc_MO_nameEndOf) rfl rfl rfl hd_MO_nameEndOf ⟨rl_s (Nat.le_of_ble_eq_true rfl), rl_s (Nat.le_of_ble_eq_true rfl)⟩) hk hP (q0 := 0) rfl rfl rfl rfl hl.1 rfl (Nat.le_of_ble_eq_true rfl) d_MO_isElement_90 ⟨Nat.zero_le _, Nat.zero_le _⟩ ?_
        refine lv_iload hx hb d_MO_isElement_93 (lv_at hl 6 rfl) ?_
        refine lv_isub hx hb d_MO_isElement_95 ?_
        refine lv_iconst (v := 1) hx hb d_MO_isElement_96 (by decide) ?_
        refine lv_isub hx hb d_MO_isElement_97 ?_
        refine lv_iload_n hx hb d_MO_isElement_98 rfl (lv_at hl 1 rfl) ?_
        refine lv_iconst (v := 1) hx hb d_MO_isElement_99 (by decide) ?_
        refine lv_iadd hx hb d_MO_isElement_100 ?_
        refine lv_iload hx hb d_MO_isElement_101 (lv_at hl 5 rfl) ?_
        refine lv_iload_n hx hb d_MO_isElement_103 rfl (lv_at hl 1 rfl) ?_
        refine lv_isub hx hb d_MO_isElement_104 ?_
        refine lv_iconst (v := 1) hx hb d_MO_isElement_105 (by decide) ?_
        refine lv_isub hx hb d_MO_isElement_106 ?_
        rcases h_15 : tw_MO_orderBytes fu st (x7 + 1) ((r_14 - x7) - 1) (p0 + 1) ((x6 - p0) - 1) with _ | r_15
        · exact op_no hs (by rw [hV, tw_MO_isElement_h71, if_neg c_12, if_neg c_13, h_14, ob1_mk, h_15, ob1_no])
        refine rd_V (val := r_15) (As := [.int (x7 + 1), .int ((r_14 - x7) - 1), .int (p0 + 1), .int ((x6 - p0) - 1)]) (rest := []) ⟨hx, hb, hml, hown, hT⟩ (c_MO_orderBytes l D cB cI aM aMst aMdcs aMtot aMfrm aMsiz aMffr aMfsz aMlkd aMlat aMkkd aMkat aModr aMgrp aMikd aMiat fu thr tpd frs frt top bgn mst ovr tgr lvs its hgh loo dfl st (x7 + 1) ((r_14 - x7) - 1) (p0 + 1) ((x6 - p0) - 1) r_15 h_15) (cwV 4 hT (gV_of k_1178 k_1180 kp_MO_orderBytes k_12 kc_MO_orderBytes) rfl rfl rfl hd_MO_orderBytes ⟨rl_s (Nat.le_of_ble_eq_true rfl), rl_s (Nat.le_of_ble_eq_true rfl)⟩) hk hP (q0 := 0) rfl rfl rfl rfl hl.1 rfl (Nat.le_of_ble_eq_true rfl) d_MO_isElement_107 ⟨Nat.zero_le _, Nat.zero_le _⟩ ?_
        refine lv_if_ne (tgt := 115) hx hb d_MO_isElement_110 (by decide) (fun c_16 => ?_) (fun c_16 => ?_)
        · refine lv_aload_n hx hb d_MO_isElement_115 rfl (lv_at hl 0 rfl) ?_
          refine lv_iload hx hb d_MO_isElement_116 (lv_at hl 6 rfl) ?_
          rcases h_17 : tw_MO_valueOf fu st x7 with _ | r_17
          · exact op_no hs (by rw [hV, tw_MO_isElement_h71, if_neg c_12, if_neg c_13, h_14, ob1_mk, h_15, ob1_mk, if_neg c_16, h_17, ob1_no])
          refine rd_V (val := r_17) (As := [.int x7]) (rest := []) ⟨hx, hb, hml, hown, hT⟩ (c_MO_valueOf l D cB cI aM aMst aMdcs aMtot aMfrm aMsiz aMffr aMfsz aMlkd aMlat aMkkd aMkat aModr aMgrp aMikd aMiat fu thr tpd frs frt top bgn mst ovr tgr lvs its hgh loo dfl st x7 r_17 h_17) (cwV 1 hT (gV_of k_1182 k_1184 kp_MO_valueOf k_12 kc_MO_valueOf) rfl rfl rfl hd_MO_valueOf ⟨rl_s (Nat.le_of_ble_eq_true rfl), rl_s (Nat.le_of_ble_eq_true rfl)⟩) hk hP (q0 := 0) rfl rfl rfl rfl hl.1 rfl (Nat.le_of_ble_eq_true rfl) d_MO_isElement_118 ⟨Nat.zero_le _, Nat.zero_le _⟩ ?_
          refine lv_aload_n hx hb d_MO_isElement_121 rfl (lv_at hl 0 rfl) ?_
          refine lv_aload_n hx hb d_MO_isElement_122 rfl (lv_at hl 0 rfl) ?_
          refine va_get (D := D) (ci := 11) (v := .ref aMst) (C := R_MO) (T := T_MO) (N := 29) hx hb hT u_MO hown hK hP 0 rfl rfl 1 (by decide) (hT _ k_1044) (fun _ h9 => h9) rfl d_MO_isElement_123 ?_
          refine lv_iload hx hb d_MO_isElement_126 (lv_at hl 6 rfl) ?_
          by_cases c_18 : 0 ≤ x7 ∧ x7 < 136400
          rotate_left
          · exact op_no hs (by rw [hV, tw_MO_isElement_h71, if_neg c_12, if_neg c_13, h_14, ob1_mk, h_15, ob1_mk, if_neg c_16, h_17, ob1_mk, if_neg c_18])
          refine va_iald hx hb hK hP 1 1 rfl rfl (in_pp c_18.1 c_18.2 rfl) d_MO_isElement_128 ?_
          refine lv_aload_n hx hb d_MO_isElement_129 rfl (lv_at hl 0 rfl) ?_
          refine lv_iload hx hb d_MO_isElement_130 (lv_at hl 6 rfl) ?_
          refine rd_V (val := r_17) (As := [.int x7]) (rest := [.int (st x7.toNatClampNeg), .ref aM, .int r_17]) ⟨hx, hb, hml, hown, hT⟩ (c_MO_valueOf l D cB cI aM aMst aMdcs aMtot aMfrm aMsiz aMffr aMfsz aMlkd aMlat aMkkd aMkat aModr aMgrp aMikd aMiat fu thr tpd frs frt top bgn mst ovr tgr lvs its hgh loo dfl st x7 r_17 h_17) (cwV 1 hT (gV_of k_1182 k_1184 kp_MO_valueOf k_12 kc_MO_valueOf) rfl rfl rfl hd_MO_valueOf ⟨rl_s (Nat.le_of_ble_eq_true rfl), rl_s (Nat.le_of_ble_eq_true rfl)⟩) hk hP (q0 := 0) rfl rfl rfl rfl hl.1 rfl (Nat.le_of_ble_eq_true rfl) d_MO_isElement_132 ⟨Nat.zero_le _, Nat.zero_le _⟩ ?_
          rcases h_19 : tw_MO_lengthOf fu st (st x7.toNatClampNeg) r_17 with _ | r_19
          · exact op_no hs (by rw [hV, tw_MO_isElement_h71, if_neg c_12, if_neg c_13, h_14, ob1_mk, h_15, ob1_mk, if_neg c_16, h_17, ob1_mk, if_pos c_18, h_19, ob1_no])
          refine rd_V (val := r_19) (As := [.int (st x7.toNatClampNeg), .int r_17]) (rest := [.int r_17]) ⟨hx, hb, hml, hown, hT⟩ (c_MO_lengthOf l D cB cI aM aMst aMdcs aMtot aMfrm aMsiz aMffr aMfsz aMlkd aMlat aMkkd aMkat aModr aMgrp aMikd aMiat fu thr tpd frs frt top bgn mst ovr tgr lvs its hgh loo dfl st (st x7.toNatClampNeg) r_17 r_19 h_19) (cwV 2 hT (gV_of k_1186 k_1188 kp_MO_lengthOf k_12 kc_MO_lengthOf) rfl rfl rfl hd_MO_lengthOf ⟨rl_s (Nat.le_of_ble_eq_true rfl), rl_s (Nat.le_of_ble_eq_true rfl)⟩) hk hP (q0 := 0) rfl rfl rfl rfl hl.1 rfl (Nat.le_of_ble_eq_true rfl) d_MO_isElement_135 ⟨Nat.zero_le _, Nat.zero_le _⟩ ?_
          refine lv_iadd hx hb d_MO_isElement_138 ?_
          refine lv_istore (lv' := [(7, .int (r_17 + r_19)), (0, .ref aM), (1, .int p0), (2, .int p1), (4, .int p3), (5, .int p4), (6, .int x6)]) hx hb d_MO_isElement_139 hl (by decide) rfl (fun ls hl => ?_)
          refine lv_goto (tgt := 71) hx hb d_MO_isElement_141 (by decide) ?_
          exact ih (r_17 + r_19) (by rw [hV, tw_MO_isElement_h71, if_neg c_12, if_neg c_13, h_14, ob1_mk, h_15, ob1_mk, if_neg c_16, h_17, ob1_mk, if_pos c_18, h_19, ob1_mk]) ls (lv_sub hl [1, 2, 3, 4, 5, 6, 0] rfl)
        · refine lv_iconst (v := 0) hx hb d_MO_isElement_113 (by decide) ?_
          exact W.zret (v := 0) (ty := .boolean) hx hb hr (rfl) (fun t ht hW => ⟨0, rfl, (op_b (x := false) hs (by rw [hV, tw_MO_isElement_h71, if_neg c_12, if_neg c_13, h_14, ob1_mk, h_15, ob1_mk, if_pos c_16])), ht⟩) (fun _ h => by cases h) d_MO_isElement_114
set_option maxHeartbeats 4000000 in
set_option maxRecDepth 100000 in
theorem c_MO_isElement (l : Launch) (D : va_G) (cB cI : ClassId) (aM aMst aMdcs aMtot aMfrm aMsiz aMffr aMfsz aMlkd aMlat aMkkd aMkat aModr aMgrp aMikd aMiat : Nat) (rF : Nat) (rL : Nat) (fu : Nat) (fx : Int32 → Int32 → Int32 → Int32 → Option (Bool)) (thr : Int32) (tpd : Int32) (frs : Int32) (frt : Int32) (top : Int32) (bgn : Int32) (mst : Int32) (ovr : Bool) (tgr : Bool) (lvs : Int32) (its : Int32) (hgh : Int64) (loo : Int64) (dfl : Bool) (st : Nat → Int32) (p0 : Int32) (p1 : Int32) (p2 : Int32) (p3 : Int32) (p4 : Int32) (hfx : ∀ (z0 z1 z2 z3 : Int32) (V1 : Bool), fx z0 z1 z2 z3 = some V1 → Met l y_MO_isBox mw_MO_isBox { frames := rF, cells := 0, slots := 0, locals := rL } (va_Pc [.ref aM, .int z0, .int z1, .int z2, .int z3] (fun U => va_P D vwCl [(aM, .inr (11, [.int thr, .ref aMst, .int tpd, .ref aMdcs, .ref aMtot, .ref aMfrm, .ref aMsiz, .int frs, .int frt, .ref aMffr, .ref aMfsz, .int top, .int bgn, .int mst, .int (b2i ovr), .int (b2i tgr), .int lvs, .ref aMlkd, .ref aMlat, .ref aMkkd, .ref aMkat, .ref aModr, .ref aMgrp, .int its, .ref aMikd, .ref aMiat, .long hgh, .long loo, .int (b2i dfl)])), (aMst, .inl (cI, 136400, .inl st))] U.heap ∧ hk_ D cB cI U)) (vp_Si (fun r => r = b2i V1)) 0 0 (fun _ => False)) (V0 : Bool) (hs : tw_MO_isElement fu fx st p0 p1 p2 p3 p4 = some V0) : Met l y_MO_isElement mw_MO_isElement { frames := rF + 8, cells := 0, slots := 0, locals := rL + 240 } (va_Pc [.ref aM, .int p0, .int p1, .int p2, .int p3, .int p4] (fun U => va_P D vwCl [(aM, .inr (11, [.int thr, .ref aMst, .int tpd, .ref aMdcs, .ref aMtot, .ref aMfrm, .ref aMsiz, .int frs, .int frt, .ref aMffr, .ref aMfsz, .int top, .int bgn, .int mst, .int (b2i ovr), .int (b2i tgr), .int lvs, .ref aMlkd, .ref aMlat, .ref aMkkd, .ref aMkat, .ref aModr, .ref aMgrp, .int its, .ref aMikd, .ref aMiat, .long hgh, .long loo, .int (b2i dfl)])), (aMst, .inl (cI, 136400, .inl st))] U.heap ∧ hk_ D cB cI U)) (vp_Si (fun r => r = b2i V0)) 0 0 (fun _ => False) := by
  refine Met.ofW (cc := b_MO_isElement) (maxL := 8) (ret := (some .boolean)) (by decide) rfl ?_
  intro p e s m args below meth c s₁ B0 hml hv
  obtain ⟨rfl, hP, hk⟩ := hv
  have hK := hk.1
  have hN := hk.2.1
  have hx := B0.exec
  have hb := B0.bytes
  have hr := B0.returns
  have hT : ∀ w ∈ lw_g, w.before _ s = true := fun w h => atoms_spec (ws := mw_MO_isElement) B0.pre w (List.mem_cons_of_mem _ h)
  have hown : s.vm.findClass R_MO = some m.cls := findClass_of_methodNamed B0.named
  have hlocks := B0.notSynchronized
  have hl := lv_entry ([.ref aM, .int p0, .int p1, .int p2, .int p3, .int p4]) (n := 8) (Nat.le_of_ble_eq_true rfl)
  rw [lg_entry_eq]
  generalize (lg_sl ([.ref aM, .int p0, .int p1, .int p2, .int p3, .int p4]) ++ List.replicate (8 - (lg_sl ([.ref aM, .int p0, .int p1, .int p2, .int p3, .int p4])).length) Slot.unset).toArray = ls at hl ⊢
  have hl : lv_has ls 8 [(0, .ref aM), (1, .int p0), (2, .int p1), (3, .int p2), (4, .int p3), (5, .int p4)] := hl
  have C0 : lc_C p s m meth c _ b_MO_isElement 8 (some .boolean) R_MO lw_g := ⟨hx, hb, hml, hr, hown, hlocks, hT⟩
  refine lv_iload_n hx hb d_MO_isElement_0 rfl (lv_at hl 1 rfl) ?_
  refine lv_iconst (v := 1) hx hb d_MO_isElement_1 (by decide) ?_
  refine lv_iadd hx hb d_MO_isElement_2 ?_
  refine lv_istore (lv' := [(6, .int (p0 + 1)), (0, .ref aM), (1, .int p0), (2, .int p1), (3, .int p2), (4, .int p3), (5, .int p4)]) hx hb d_MO_isElement_3 hl (by decide) rfl (fun ls hl => ?_)
  refine l_MO_isElement_h5 C0 hs l D cB cI aM aMst aMdcs aMtot aMfrm aMsiz aMffr aMfsz aMlkd aMlat aMkkd aMkat aModr aMgrp aMikd aMiat rF rL fu fx thr tpd frs frt top bgn mst ovr tgr lvs its hgh loo dfl st hP hk p0 p1 p2 p3 p4 hfx  (K := (fun (x6_4 : Int32) =>
      tw_MO_isElement_r27 fu fx (
      tw_MO_isElement_h71 fu fx (fun (x7_20 : Int32) =>
      if 0 ≤ p0 ∧ p0 < 136400 then
        if (st p0.toNatClampNeg) = 2 then
          if ((p1 - x6_4) - 1) < 5 then
            some false
          else
            ob1 (tw_MO_whole fu st (x6_4 + 1)) (fun r_24 =>
              if r_24 ≤ 0 then
                some false
              else
                if (((p1 - x6_4) - 1) - 4) < r_24 then
                  some false
                else
                  if 0 ≤ ((x6_4 + 4) + r_24) ∧ ((x6_4 + 4) + r_24) < 136400 then
                    if (st ((x6_4 + 4) + r_24).toNatClampNeg) = 0 then
                      ob1 (tw_MO_isRightText fu st (x6_4 + 5) ((x6_4 + 4) + r_24)) (fun r_29 =>
                        if (b2i r_29) = 0 then
                          some false
                        else
                          some true)
                    else
                      some false
                  else
                    none)
        else
          if (st p0.toNatClampNeg) = 3 then
            if (st p0.toNatClampNeg) = 4 then
              ob1 (fx (x6_4 + 1) p1 1 (p4 + 1)) (fun r_34 =>
                some r_34)
            else
              ob1 (fx (x6_4 + 1) p1 0 (p4 + 1)) (fun r_33 =>
                some r_33)
          else
            if (st p0.toNatClampNeg) = 4 then
              if (st p0.toNatClampNeg) = 4 then
                ob1 (fx (x6_4 + 1) p1 1 (p4 + 1)) (fun r_38 =>
                  some r_38)
              else
                ob1 (fx (x6_4 + 1) p1 0 (p4 + 1)) (fun r_37 =>
                  some r_37)
            else
              if (st p0.toNatClampNeg) = 8 then
                if ((p1 - x6_4) - 1) < 1 then
                  some false
                else
                  if 0 ≤ (x6_4 + 1) ∧ (x6_4 + 1) < 136400 then
                    if 2 ≤ (st (x6_4 + 1).toNatClampNeg) then
                      some false
                    else
                      some true
                  else
                    none
              else
                if (st p0.toNatClampNeg) = 10 then
                  some true
                else
                  if (st p0.toNatClampNeg) = 16 then
                    if ((p1 - x6_4) - 1) < 4 then
                      some false
                    else
                      some true
                  else
                    if (st p0.toNatClampNeg) = 18 then
                      if ((p1 - x6_4) - 1) < 8 then
                        some false
                      else
                        some true
                    else
                      some false
      else
        none) st p0 p1 p3 p4 x6_4 fu (p2 + 4)) st p0 p1 p2 p3 p4 x6_4)) ?_ fu (p0 + 1)  (by rw [tw_MO_isElement]) ls (lv_sub hl [1, 2, 3, 4, 5, 6, 0] rfl)
  intro x6_4 hV_4 ls hl
  refine l_MO_isElement_r27 C0 hs l D cB cI aM aMst aMdcs aMtot aMfrm aMsiz aMffr aMfsz aMlkd aMlat aMkkd aMkat aModr aMgrp aMikd aMiat rF rL fu fx thr tpd frs frt top bgn mst ovr tgr lvs its hgh loo dfl st hP hk p0 p1 p2 p3 p4 x6_4 hfx (K := (
      tw_MO_isElement_h71 fu fx (fun (x7_20 : Int32) =>
      if 0 ≤ p0 ∧ p0 < 136400 then
        if (st p0.toNatClampNeg) = 2 then
          if ((p1 - x6_4) - 1) < 5 then
            some false
          else
            ob1 (tw_MO_whole fu st (x6_4 + 1)) (fun r_24 =>
              if r_24 ≤ 0 then
                some false
              else
                if (((p1 - x6_4) - 1) - 4) < r_24 then
                  some false
                else
                  if 0 ≤ ((x6_4 + 4) + r_24) ∧ ((x6_4 + 4) + r_24) < 136400 then
                    if (st ((x6_4 + 4) + r_24).toNatClampNeg) = 0 then
                      ob1 (tw_MO_isRightText fu st (x6_4 + 5) ((x6_4 + 4) + r_24)) (fun r_29 =>
                        if (b2i r_29) = 0 then
                          some false
                        else
                          some true)
                    else
                      some false
                  else
                    none)
        else
          if (st p0.toNatClampNeg) = 3 then
            if (st p0.toNatClampNeg) = 4 then
              ob1 (fx (x6_4 + 1) p1 1 (p4 + 1)) (fun r_34 =>
                some r_34)
            else
              ob1 (fx (x6_4 + 1) p1 0 (p4 + 1)) (fun r_33 =>
                some r_33)
          else
            if (st p0.toNatClampNeg) = 4 then
              if (st p0.toNatClampNeg) = 4 then
                ob1 (fx (x6_4 + 1) p1 1 (p4 + 1)) (fun r_38 =>
                  some r_38)
              else
                ob1 (fx (x6_4 + 1) p1 0 (p4 + 1)) (fun r_37 =>
                  some r_37)
            else
              if (st p0.toNatClampNeg) = 8 then
                if ((p1 - x6_4) - 1) < 1 then
                  some false
                else
                  if 0 ≤ (x6_4 + 1) ∧ (x6_4 + 1) < 136400 then
                    if 2 ≤ (st (x6_4 + 1).toNatClampNeg) then
                      some false
                    else
                      some true
                  else
                    none
              else
                if (st p0.toNatClampNeg) = 10 then
                  some true
                else
                  if (st p0.toNatClampNeg) = 16 then
                    if ((p1 - x6_4) - 1) < 4 then
                      some false
                    else
                      some true
                  else
                    if (st p0.toNatClampNeg) = 18 then
                      if ((p1 - x6_4) - 1) < 8 then
                        some false
                      else
                        some true
                    else
                      some false
      else
        none) st p0 p1 p3 p4 x6_4 fu (p2 + 4))) ?_ (by rw [hV_4]) ls (lv_sub hl [0, 1, 2, 3, 4, 5, 6] rfl)
  intro hV_11 ls hl
  refine lv_iload_n hx hb d_MO_isElement_66 rfl (lv_at hl 3 rfl) ?_
  refine lv_iconst (v := 4) hx hb d_MO_isElement_67 (by decide) ?_
  refine lv_iadd hx hb d_MO_isElement_68 ?_
  refine lv_istore (lv' := [(7, .int (p2 + 4)), (0, .ref aM), (1, .int p0), (2, .int p1), (3, .int p2), (4, .int p3), (5, .int p4), (6, .int x6_4)]) hx hb d_MO_isElement_69 hl (by decide) rfl (fun ls hl => ?_)
  refine l_MO_isElement_h71 C0 hs l D cB cI aM aMst aMdcs aMtot aMfrm aMsiz aMffr aMfsz aMlkd aMlat aMkkd aMkat aModr aMgrp aMikd aMiat rF rL fu fx thr tpd frs frt top bgn mst ovr tgr lvs its hgh loo dfl st hP hk p0 p1 p3 p4 x6_4 hfx  (K := (fun (x7_20 : Int32) =>
      if 0 ≤ p0 ∧ p0 < 136400 then
        if (st p0.toNatClampNeg) = 2 then
          if ((p1 - x6_4) - 1) < 5 then
            some false
          else
            ob1 (tw_MO_whole fu st (x6_4 + 1)) (fun r_24 =>
              if r_24 ≤ 0 then
                some false
              else
                if (((p1 - x6_4) - 1) - 4) < r_24 then
                  some false
                else
                  if 0 ≤ ((x6_4 + 4) + r_24) ∧ ((x6_4 + 4) + r_24) < 136400 then
                    if (st ((x6_4 + 4) + r_24).toNatClampNeg) = 0 then
                      ob1 (tw_MO_isRightText fu st (x6_4 + 5) ((x6_4 + 4) + r_24)) (fun r_29 =>
                        if (b2i r_29) = 0 then
                          some false
                        else
                          some true)
                    else
                      some false
                  else
                    none)
        else
          if (st p0.toNatClampNeg) = 3 then
            if (st p0.toNatClampNeg) = 4 then
              ob1 (fx (x6_4 + 1) p1 1 (p4 + 1)) (fun r_34 =>
                some r_34)
            else
              ob1 (fx (x6_4 + 1) p1 0 (p4 + 1)) (fun r_33 =>
                some r_33)
          else
            if (st p0.toNatClampNeg) = 4 then
              if (st p0.toNatClampNeg) = 4 then
                ob1 (fx (x6_4 + 1) p1 1 (p4 + 1)) (fun r_38 =>
                  some r_38)
              else
                ob1 (fx (x6_4 + 1) p1 0 (p4 + 1)) (fun r_37 =>
                  some r_37)
            else
              if (st p0.toNatClampNeg) = 8 then
                if ((p1 - x6_4) - 1) < 1 then
                  some false
                else
                  if 0 ≤ (x6_4 + 1) ∧ (x6_4 + 1) < 136400 then
                    if 2 ≤ (st (x6_4 + 1).toNatClampNeg) then
                      some false
                    else
                      some true
                  else
                    none
              else
                if (st p0.toNatClampNeg) = 10 then
                  some true
                else
                  if (st p0.toNatClampNeg) = 16 then
                    if ((p1 - x6_4) - 1) < 4 then
                      some false
                    else
                      some true
                  else
                    if (st p0.toNatClampNeg) = 18 then
                      if ((p1 - x6_4) - 1) < 8 then
                        some false
                      else
                        some true
                    else
                      some false
      else
        none)) ?_ fu (p2 + 4)  (by rw [hV_11]) ls (lv_sub hl [1, 2, 3, 5, 6, 7, 0] rfl)
  intro x7_20 hV_20 ls hl
  refine lv_iload_n hx hb d_MO_isElement_144 rfl (lv_at hl 2 rfl) ?_
  refine lv_iload hx hb d_MO_isElement_145 (lv_at hl 4 rfl) ?_
  refine lv_isub hx hb d_MO_isElement_147 ?_
  refine lv_iconst (v := 1) hx hb d_MO_isElement_148 (by decide) ?_
  refine lv_isub hx hb d_MO_isElement_149 ?_
  refine lv_istore (lv' := [(7, .int ((p1 - x6_4) - 1)), (0, .ref aM), (1, .int p0), (2, .int p1), (5, .int p4), (6, .int x6_4)]) hx hb d_MO_isElement_150 hl (by decide) rfl (fun ls hl => ?_)
  refine lv_aload_n hx hb d_MO_isElement_152 rfl (lv_at hl 1 rfl) ?_
  refine va_get (D := D) (ci := 11) (v := .ref aMst) (C := R_MO) (T := T_MO) (N := 29) hx hb hT u_MO hown hK hP 0 rfl rfl 1 (by decide) (hT _ k_1044) (fun _ h9 => h9) rfl d_MO_isElement_153 ?_
  refine lv_iload_n hx hb d_MO_isElement_156 rfl (lv_at hl 2 rfl) ?_
  by_cases c_21 : 0 ≤ p0 ∧ p0 < 136400
  rotate_left
  · exact op_no hs (by rw [hV_20, if_neg c_21])
  refine va_iald hx hb hK hP 1 1 rfl rfl (in_pp c_21.1 c_21.2 rfl) d_MO_isElement_157 ?_
  by_cases c_22 : (st p0.toNatClampNeg) = 2
  · refine sw_T (tgt := 292) hx hb d_MO_isElement_158 (Or.inr ⟨by rw [c_22]; decide, by rw [c_22]; decide, 134, by rw [c_22]; rfl, by decide⟩) ?_
    refine lv_iload hx hb d_MO_isElement_292 (lv_at hl 0 rfl) ?_
    refine lv_iconst (v := 5) hx hb d_MO_isElement_294 (by decide) ?_
    refine lv_icmp_lt (tgt := 373) hx hb d_MO_isElement_295 (by decide) (fun c_23 => ?_) (fun c_23 => ?_)
    · refine lv_iconst (v := 0) hx hb d_MO_isElement_373 (by decide) ?_
      exact W.zret (v := 0) (ty := .boolean) hx hb hr (rfl) (fun t ht hW => ⟨0, rfl, (op_b (x := false) hs (by rw [hV_20, if_pos c_21, if_pos c_22, if_pos c_23])), ht⟩) (fun _ h => by cases h) d_MO_isElement_374
    · refine lv_aload_n hx hb d_MO_isElement_298 rfl (lv_at hl 1 rfl) ?_
      refine lv_iload hx hb d_MO_isElement_299 (lv_at hl 5 rfl) ?_
      refine lv_iconst (v := 1) hx hb d_MO_isElement_301 (by decide) ?_
      refine lv_iadd hx hb d_MO_isElement_302 ?_
      rcases h_24 : tw_MO_whole fu st (x6_4 + 1) with _ | r_24
      · exact op_no hs (by rw [hV_20, if_pos c_21, if_pos c_22, if_neg c_23, h_24, ob1_no])
      refine rd_V (val := r_24) (As := [.int (x6_4 + 1)]) (rest := []) ⟨hx, hb, hml, hown, hT⟩ (c_MO_whole l D cB cI aM aMst aMdcs aMtot aMfrm aMsiz aMffr aMfsz aMlkd aMlat aMkkd aMkat aModr aMgrp aMikd aMiat fu thr tpd frs frt top bgn mst ovr tgr lvs its hgh loo dfl st (x6_4 + 1) r_24 h_24) (cwV 1 hT (gV_of k_1148 k_1150 kp_MO_whole k_12 kc_MO_whole) rfl rfl rfl hd_MO_whole ⟨rl_s (Nat.le_of_ble_eq_true rfl), rl_s (Nat.le_of_ble_eq_true rfl)⟩) hk hP (q0 := 0) rfl rfl rfl rfl hl.1 rfl (Nat.le_of_ble_eq_true rfl) d_MO_isElement_303 ⟨Nat.zero_le _, Nat.zero_le _⟩ ?_
      refine lv_if_le (tgt := 373) hx hb d_MO_isElement_306 (by decide) (fun c_25 => ?_) (fun c_25 => ?_)
      · refine lv_iconst (v := 0) hx hb d_MO_isElement_373 (by decide) ?_
        exact W.zret (v := 0) (ty := .boolean) hx hb hr (rfl) (fun t ht hW => ⟨0, rfl, (op_b (x := false) hs (by rw [hV_20, if_pos c_21, if_pos c_22, if_neg c_23, h_24, ob1_mk, if_pos c_25])), ht⟩) (fun _ h => by cases h) d_MO_isElement_374
      · refine lv_aload_n hx hb d_MO_isElement_309 rfl (lv_at hl 1 rfl) ?_
        refine lv_iload hx hb d_MO_isElement_310 (lv_at hl 5 rfl) ?_
        refine lv_iconst (v := 1) hx hb d_MO_isElement_312 (by decide) ?_
        refine lv_iadd hx hb d_MO_isElement_313 ?_
        refine rd_V (val := r_24) (As := [.int (x6_4 + 1)]) (rest := []) ⟨hx, hb, hml, hown, hT⟩ (c_MO_whole l D cB cI aM aMst aMdcs aMtot aMfrm aMsiz aMffr aMfsz aMlkd aMlat aMkkd aMkat aModr aMgrp aMikd aMiat fu thr tpd frs frt top bgn mst ovr tgr lvs its hgh loo dfl st (x6_4 + 1) r_24 h_24) (cwV 1 hT (gV_of k_1148 k_1150 kp_MO_whole k_12 kc_MO_whole) rfl rfl rfl hd_MO_whole ⟨rl_s (Nat.le_of_ble_eq_true rfl), rl_s (Nat.le_of_ble_eq_true rfl)⟩) hk hP (q0 := 0) rfl rfl rfl rfl hl.1 rfl (Nat.le_of_ble_eq_true rfl) d_MO_isElement_314 ⟨Nat.zero_le _, Nat.zero_le _⟩ ?_
        refine lv_iload hx hb d_MO_isElement_317 (lv_at hl 0 rfl) ?_
        refine lv_iconst (v := 4) hx hb d_MO_isElement_319 (by decide) ?_
        refine lv_isub hx hb d_MO_isElement_320 ?_
        refine lv_icmp_gt (tgt := 373) hx hb d_MO_isElement_321 (by decide) (fun c_26 => ?_) (fun c_26 => ?_)
        · refine lv_iconst (v := 0) hx hb d_MO_isElement_373 (by decide) ?_
          exact W.zret (v := 0) (ty := .boolean) hx hb hr (rfl) (fun t ht hW => ⟨0, rfl, (op_b (x := false) hs (by rw [hV_20, if_pos c_21, if_pos c_22, if_neg c_23, h_24, ob1_mk, if_neg c_25, if_pos c_26])), ht⟩) (fun _ h => by cases h) d_MO_isElement_374
        · refine lv_aload_n hx hb d_MO_isElement_324 rfl (lv_at hl 1 rfl) ?_
          refine va_get (D := D) (ci := 11) (v := .ref aMst) (C := R_MO) (T := T_MO) (N := 29) hx hb hT u_MO hown hK hP 0 rfl rfl 1 (by decide) (hT _ k_1044) (fun _ h9 => h9) rfl d_MO_isElement_325 ?_
          refine lv_iload hx hb d_MO_isElement_328 (lv_at hl 5 rfl) ?_
          refine lv_iconst (v := 4) hx hb d_MO_isElement_330 (by decide) ?_
          refine lv_iadd hx hb d_MO_isElement_331 ?_
          refine lv_aload_n hx hb d_MO_isElement_332 rfl (lv_at hl 1 rfl) ?_
          refine lv_iload hx hb d_MO_isElement_333 (lv_at hl 5 rfl) ?_
          refine lv_iconst (v := 1) hx hb d_MO_isElement_335 (by decide) ?_
          refine lv_iadd hx hb d_MO_isElement_336 ?_
          refine rd_V (val := r_24) (As := [.int (x6_4 + 1)]) (rest := [.int (x6_4 + 4), .ref aMst]) ⟨hx, hb, hml, hown, hT⟩ (c_MO_whole l D cB cI aM aMst aMdcs aMtot aMfrm aMsiz aMffr aMfsz aMlkd aMlat aMkkd aMkat aModr aMgrp aMikd aMiat fu thr tpd frs frt top bgn mst ovr tgr lvs its hgh loo dfl st (x6_4 + 1) r_24 h_24) (cwV 1 hT (gV_of k_1148 k_1150 kp_MO_whole k_12 kc_MO_whole) rfl rfl rfl hd_MO_whole ⟨rl_s (Nat.le_of_ble_eq_true rfl), rl_s (Nat.le_of_ble_eq_true rfl)⟩) hk hP (q0 := 0) rfl rfl rfl rfl hl.1 rfl (Nat.le_of_ble_eq_true rfl) d_MO_isElement_337 ⟨Nat.zero_le _, Nat.zero_le _⟩ ?_
          refine lv_iadd hx hb d_MO_isElement_340 ?_
          by_cases c_27 : 0 ≤ ((x6_4 + 4) + r_24) ∧ ((x6_4 + 4) + r_24) < 136400
          rotate_left
          · exact op_no hs (by rw [hV_20, if_pos c_21, if_pos c_22, if_neg c_23, h_24, ob1_mk, if_neg c_25, if_neg c_26, if_neg c_27])
          refine va_iald hx hb hK hP 1 1 rfl rfl (in_pp c_27.1 c_27.2 rfl) d_MO_isElement_341 ?_
          refine lv_if_ne (tgt := 373) hx hb d_MO_isElement_342 (by decide) (fun c_28 => ?_) (fun c_28 => ?_)
          · refine lv_iconst (v := 0) hx hb d_MO_isElement_373 (by decide) ?_
            exact W.zret (v := 0) (ty := .boolean) hx hb hr (rfl) (fun t ht hW => ⟨0, rfl, (op_b (x := false) hs (by rw [hV_20, if_pos c_21, if_pos c_22, if_neg c_23, h_24, ob1_mk, if_neg c_25, if_neg c_26, if_pos c_27, if_neg c_28])), ht⟩) (fun _ h => by cases h) d_MO_isElement_374
          · refine lv_aload_n hx hb d_MO_isElement_345 rfl (lv_at hl 1 rfl) ?_
            refine lv_iload hx hb d_MO_isElement_346 (lv_at hl 5 rfl) ?_
            refine lv_iconst (v := 5) hx hb d_MO_isElement_348 (by decide) ?_
            refine lv_iadd hx hb d_MO_isElement_349 ?_
            refine lv_iload hx hb d_MO_isElement_350 (lv_at hl 5 rfl) ?_
            refine lv_iconst (v := 4) hx hb d_MO_isElement_352 (by decide) ?_
            refine lv_iadd hx hb d_MO_isElement_353 ?_
            refine lv_aload_n hx hb d_MO_isElement_354 rfl (lv_at hl 1 rfl) ?_
            refine lv_iload hx hb d_MO_isElement_355 (lv_at hl 5 rfl) ?_
            refine lv_iconst (v := 1) hx hb d_MO_isElement_357 (by decide) ?_
            refine lv_iadd hx hb d_MO_isElement_358 ?_
            refine rd_V (val := r_24) (As := [.int (x6_4 + 1)]) (rest := [.int (x6_4 + 4), .int (x6_4 + 5), .ref aM]) ⟨hx, hb, hml, hown, hT⟩ (c_MO_whole l D cB cI aM aMst aMdcs aMtot aMfrm aMsiz aMffr aMfsz aMlkd aMlat aMkkd aMkat aModr aMgrp aMikd aMiat fu thr tpd frs frt top bgn mst ovr tgr lvs its hgh loo dfl st (x6_4 + 1) r_24 h_24) (cwV 1 hT (gV_of k_1148 k_1150 kp_MO_whole k_12 kc_MO_whole) rfl rfl rfl hd_MO_whole ⟨rl_s (Nat.le_of_ble_eq_true rfl), rl_s (Nat.le_of_ble_eq_true rfl)⟩) hk hP (q0 := 0) rfl rfl rfl rfl hl.1 rfl (Nat.le_of_ble_eq_true rfl) d_MO_isElement_359 ⟨Nat.zero_le _, Nat.zero_le _⟩ ?_
            refine lv_iadd hx hb d_MO_isElement_362 ?_
            rcases h_29 : tw_MO_isRightText fu st (x6_4 + 5) ((x6_4 + 4) + r_24) with _ | r_29
            · exact op_no hs (by rw [hV_20, if_pos c_21, if_pos c_22, if_neg c_23, h_24, ob1_mk, if_neg c_25, if_neg c_26, if_pos c_27, if_pos c_28, h_29, ob1_no])
            refine rd_V (val := b2i r_29) (As := [.int (x6_4 + 5), .int ((x6_4 + 4) + r_24)]) (rest := []) ⟨hx, hb, hml, hown, hT⟩ (c_MO_isRightText l D cB cI aM aMst aMdcs aMtot aMfrm aMsiz aMffr aMfsz aMlkd aMlat aMkkd aMkat aModr aMgrp aMikd aMiat fu thr tpd frs frt top bgn mst ovr tgr lvs its hgh loo dfl st (x6_4 + 5) ((x6_4 + 4) + r_24) r_29 h_29) (cwV 2 hT (gV_of k_1162 k_1164 kp_MO_isRightText k_12 kc_MO_isRightText) rfl rfl rfl hd_MO_isRightText ⟨rl_s (Nat.le_of_ble_eq_true rfl), rl_s (Nat.le_of_ble_eq_true rfl)⟩) hk hP (q0 := 0) rfl rfl rfl rfl hl.1 rfl (Nat.le_of_ble_eq_true rfl) d_MO_isElement_363 ⟨Nat.zero_le _, Nat.zero_le _⟩ ?_
            refine lv_if_eq (tgt := 373) hx hb d_MO_isElement_366 (by decide) (fun c_30 => ?_) (fun c_30 => ?_)
            · refine lv_iconst (v := 0) hx hb d_MO_isElement_373 (by decide) ?_
              exact W.zret (v := 0) (ty := .boolean) hx hb hr (rfl) (fun t ht hW => ⟨0, rfl, (op_b (x := false) hs (by rw [hV_20, if_pos c_21, if_pos c_22, if_neg c_23, h_24, ob1_mk, if_neg c_25, if_neg c_26, if_pos c_27, if_pos c_28, h_29, ob1_mk, if_pos c_30])), ht⟩) (fun _ h => by cases h) d_MO_isElement_374
            · refine lv_iconst (v := 1) hx hb d_MO_isElement_369 (by decide) ?_
              refine lv_goto (tgt := 374) hx hb d_MO_isElement_370 (by decide) ?_
              exact W.zret (v := 1) (ty := .boolean) hx hb hr (rfl) (fun t ht hW => ⟨1, rfl, (op_b (x := true) hs (by rw [hV_20, if_pos c_21, if_pos c_22, if_neg c_23, h_24, ob1_mk, if_neg c_25, if_neg c_26, if_pos c_27, if_pos c_28, h_29, ob1_mk, if_neg c_30])), ht⟩) (fun _ h => by cases h) d_MO_isElement_374
  by_cases c_31 : (st p0.toNatClampNeg) = 3
  · refine sw_T (tgt := 375) hx hb d_MO_isElement_158 (Or.inr ⟨by rw [c_31]; decide, by rw [c_31]; decide, 217, by rw [c_31]; rfl, by decide⟩) ?_
    refine lv_aload_n hx hb d_MO_isElement_375 rfl (lv_at hl 1 rfl) ?_
    refine lv_iload hx hb d_MO_isElement_376 (lv_at hl 5 rfl) ?_
    refine lv_iconst (v := 1) hx hb d_MO_isElement_378 (by decide) ?_
    refine lv_iadd hx hb d_MO_isElement_379 ?_
    refine lv_iload_n hx hb d_MO_isElement_380 rfl (lv_at hl 3 rfl) ?_
    refine lv_aload_n hx hb d_MO_isElement_381 rfl (lv_at hl 1 rfl) ?_
    refine va_get (D := D) (ci := 11) (v := .ref aMst) (C := R_MO) (T := T_MO) (N := 29) hx hb hT u_MO hown hK hP 0 rfl rfl 1 (by decide) (hT _ k_1044) (fun _ h9 => h9) rfl d_MO_isElement_382 ?_
    refine lv_iload_n hx hb d_MO_isElement_385 rfl (lv_at hl 2 rfl) ?_
    refine va_iald hx hb hK hP 1 1 rfl rfl (in_pp c_21.1 c_21.2 rfl) d_MO_isElement_386 ?_
    refine lv_iconst (v := 4) hx hb d_MO_isElement_387 (by decide) ?_
    refine lv_icmp_ne (tgt := 395) hx hb d_MO_isElement_388 (by decide) (fun c_32 => ?_) (fun c_32 => ?_)
    · refine lv_iconst (v := 0) hx hb d_MO_isElement_395 (by decide) ?_
      refine lv_iload hx hb d_MO_isElement_396 (lv_at hl 4 rfl) ?_
      refine lv_iconst (v := 1) hx hb d_MO_isElement_398 (by decide) ?_
      refine lv_iadd hx hb d_MO_isElement_399 ?_
      rcases h_33 : fx (x6_4 + 1) p1 0 (p4 + 1) with _ | r_33
      · exact op_no hs (by rw [hV_20, if_pos c_21, if_neg c_22, if_pos c_31, if_neg c_32, h_33, ob1_no])
      refine rd_V (val := b2i r_33) (As := [.int (x6_4 + 1), .int p1, .int 0, .int (p4 + 1)]) (rest := []) ⟨hx, hb, hml, hown, hT⟩ (hfx (x6_4 + 1) p1 0 (p4 + 1) r_33 h_33) (cwV 4 hT (gV_of k_1154 k_1156 kp_MO_isBox k_12 kc_MO_isBox) rfl rfl rfl hd_MO_isBox ⟨rl_f (Nat.le_of_ble_eq_true rfl), rl_l (Nat.le_of_ble_eq_true rfl)⟩) hk hP (q0 := 0) rfl rfl rfl rfl hl.1 rfl (Nat.le_of_ble_eq_true rfl) d_MO_isElement_400 ⟨Nat.zero_le _, Nat.zero_le _⟩ ?_
      exact W.zret (v := b2i r_33) (ty := .boolean) hx hb hr (b2i_nar _) (fun t ht hW => ⟨b2i r_33, rfl, (op_b (x := r_33) hs (by rw [hV_20, if_pos c_21, if_neg c_22, if_pos c_31, if_neg c_32, h_33, ob1_mk])), ht⟩) (fun _ h => by cases h) d_MO_isElement_403
    · refine lv_iconst (v := 1) hx hb d_MO_isElement_391 (by decide) ?_
      refine lv_goto (tgt := 396) hx hb d_MO_isElement_392 (by decide) ?_
      refine lv_iload hx hb d_MO_isElement_396 (lv_at hl 4 rfl) ?_
      refine lv_iconst (v := 1) hx hb d_MO_isElement_398 (by decide) ?_
      refine lv_iadd hx hb d_MO_isElement_399 ?_
      rcases h_34 : fx (x6_4 + 1) p1 1 (p4 + 1) with _ | r_34
      · exact op_no hs (by rw [hV_20, if_pos c_21, if_neg c_22, if_pos c_31, if_pos c_32, h_34, ob1_no])
      refine rd_V (val := b2i r_34) (As := [.int (x6_4 + 1), .int p1, .int 1, .int (p4 + 1)]) (rest := []) ⟨hx, hb, hml, hown, hT⟩ (hfx (x6_4 + 1) p1 1 (p4 + 1) r_34 h_34) (cwV 4 hT (gV_of k_1154 k_1156 kp_MO_isBox k_12 kc_MO_isBox) rfl rfl rfl hd_MO_isBox ⟨rl_f (Nat.le_of_ble_eq_true rfl), rl_l (Nat.le_of_ble_eq_true rfl)⟩) hk hP (q0 := 0) rfl rfl rfl rfl hl.1 rfl (Nat.le_of_ble_eq_true rfl) d_MO_isElement_400 ⟨Nat.zero_le _, Nat.zero_le _⟩ ?_
      exact W.zret (v := b2i r_34) (ty := .boolean) hx hb hr (b2i_nar _) (fun t ht hW => ⟨b2i r_34, rfl, (op_b (x := r_34) hs (by rw [hV_20, if_pos c_21, if_neg c_22, if_pos c_31, if_pos c_32, h_34, ob1_mk])), ht⟩) (fun _ h => by cases h) d_MO_isElement_403
  by_cases c_35 : (st p0.toNatClampNeg) = 4
  · refine sw_T (tgt := 375) hx hb d_MO_isElement_158 (Or.inr ⟨by rw [c_35]; decide, by rw [c_35]; decide, 217, by rw [c_35]; rfl, by decide⟩) ?_
    refine lv_aload_n hx hb d_MO_isElement_375 rfl (lv_at hl 1 rfl) ?_
    refine lv_iload hx hb d_MO_isElement_376 (lv_at hl 5 rfl) ?_
    refine lv_iconst (v := 1) hx hb d_MO_isElement_378 (by decide) ?_
    refine lv_iadd hx hb d_MO_isElement_379 ?_
    refine lv_iload_n hx hb d_MO_isElement_380 rfl (lv_at hl 3 rfl) ?_
    refine lv_aload_n hx hb d_MO_isElement_381 rfl (lv_at hl 1 rfl) ?_
    refine va_get (D := D) (ci := 11) (v := .ref aMst) (C := R_MO) (T := T_MO) (N := 29) hx hb hT u_MO hown hK hP 0 rfl rfl 1 (by decide) (hT _ k_1044) (fun _ h9 => h9) rfl d_MO_isElement_382 ?_
    refine lv_iload_n hx hb d_MO_isElement_385 rfl (lv_at hl 2 rfl) ?_
    refine va_iald hx hb hK hP 1 1 rfl rfl (in_pp c_21.1 c_21.2 rfl) d_MO_isElement_386 ?_
    refine lv_iconst (v := 4) hx hb d_MO_isElement_387 (by decide) ?_
    refine lv_icmp_ne (tgt := 395) hx hb d_MO_isElement_388 (by decide) (fun c_36 => ?_) (fun c_36 => ?_)
    · refine lv_iconst (v := 0) hx hb d_MO_isElement_395 (by decide) ?_
      refine lv_iload hx hb d_MO_isElement_396 (lv_at hl 4 rfl) ?_
      refine lv_iconst (v := 1) hx hb d_MO_isElement_398 (by decide) ?_
      refine lv_iadd hx hb d_MO_isElement_399 ?_
      rcases h_37 : fx (x6_4 + 1) p1 0 (p4 + 1) with _ | r_37
      · exact op_no hs (by rw [hV_20, if_pos c_21, if_neg c_22, if_neg c_31, if_pos c_35, if_neg c_36, h_37, ob1_no])
      refine rd_V (val := b2i r_37) (As := [.int (x6_4 + 1), .int p1, .int 0, .int (p4 + 1)]) (rest := []) ⟨hx, hb, hml, hown, hT⟩ (hfx (x6_4 + 1) p1 0 (p4 + 1) r_37 h_37) (cwV 4 hT (gV_of k_1154 k_1156 kp_MO_isBox k_12 kc_MO_isBox) rfl rfl rfl hd_MO_isBox ⟨rl_f (Nat.le_of_ble_eq_true rfl), rl_l (Nat.le_of_ble_eq_true rfl)⟩) hk hP (q0 := 0) rfl rfl rfl rfl hl.1 rfl (Nat.le_of_ble_eq_true rfl) d_MO_isElement_400 ⟨Nat.zero_le _, Nat.zero_le _⟩ ?_
      exact W.zret (v := b2i r_37) (ty := .boolean) hx hb hr (b2i_nar _) (fun t ht hW => ⟨b2i r_37, rfl, (op_b (x := r_37) hs (by rw [hV_20, if_pos c_21, if_neg c_22, if_neg c_31, if_pos c_35, if_neg c_36, h_37, ob1_mk])), ht⟩) (fun _ h => by cases h) d_MO_isElement_403
    · refine lv_iconst (v := 1) hx hb d_MO_isElement_391 (by decide) ?_
      refine lv_goto (tgt := 396) hx hb d_MO_isElement_392 (by decide) ?_
      refine lv_iload hx hb d_MO_isElement_396 (lv_at hl 4 rfl) ?_
      refine lv_iconst (v := 1) hx hb d_MO_isElement_398 (by decide) ?_
      refine lv_iadd hx hb d_MO_isElement_399 ?_
      rcases h_38 : fx (x6_4 + 1) p1 1 (p4 + 1) with _ | r_38
      · exact op_no hs (by rw [hV_20, if_pos c_21, if_neg c_22, if_neg c_31, if_pos c_35, if_pos c_36, h_38, ob1_no])
      refine rd_V (val := b2i r_38) (As := [.int (x6_4 + 1), .int p1, .int 1, .int (p4 + 1)]) (rest := []) ⟨hx, hb, hml, hown, hT⟩ (hfx (x6_4 + 1) p1 1 (p4 + 1) r_38 h_38) (cwV 4 hT (gV_of k_1154 k_1156 kp_MO_isBox k_12 kc_MO_isBox) rfl rfl rfl hd_MO_isBox ⟨rl_f (Nat.le_of_ble_eq_true rfl), rl_l (Nat.le_of_ble_eq_true rfl)⟩) hk hP (q0 := 0) rfl rfl rfl rfl hl.1 rfl (Nat.le_of_ble_eq_true rfl) d_MO_isElement_400 ⟨Nat.zero_le _, Nat.zero_le _⟩ ?_
      exact W.zret (v := b2i r_38) (ty := .boolean) hx hb hr (b2i_nar _) (fun t ht hW => ⟨b2i r_38, rfl, (op_b (x := r_38) hs (by rw [hV_20, if_pos c_21, if_neg c_22, if_neg c_31, if_pos c_35, if_pos c_36, h_38, ob1_mk])), ht⟩) (fun _ h => by cases h) d_MO_isElement_403
  by_cases c_39 : (st p0.toNatClampNeg) = 8
  · refine sw_T (tgt := 265) hx hb d_MO_isElement_158 (Or.inr ⟨by rw [c_39]; decide, by rw [c_39]; decide, 107, by rw [c_39]; rfl, by decide⟩) ?_
    refine lv_iload hx hb d_MO_isElement_265 (lv_at hl 0 rfl) ?_
    refine lv_iconst (v := 1) hx hb d_MO_isElement_267 (by decide) ?_
    refine lv_icmp_lt (tgt := 288) hx hb d_MO_isElement_268 (by decide) (fun c_40 => ?_) (fun c_40 => ?_)
    · refine lv_iconst (v := 0) hx hb d_MO_isElement_288 (by decide) ?_
      exact W.zret (v := 0) (ty := .boolean) hx hb hr (rfl) (fun t ht hW => ⟨0, rfl, (op_b (x := false) hs (by rw [hV_20, if_pos c_21, if_neg c_22, if_neg c_31, if_neg c_35, if_pos c_39, if_pos c_40])), ht⟩) (fun _ h => by cases h) d_MO_isElement_289
    · refine lv_aload_n hx hb d_MO_isElement_271 rfl (lv_at hl 1 rfl) ?_
      refine va_get (D := D) (ci := 11) (v := .ref aMst) (C := R_MO) (T := T_MO) (N := 29) hx hb hT u_MO hown hK hP 0 rfl rfl 1 (by decide) (hT _ k_1044) (fun _ h9 => h9) rfl d_MO_isElement_272 ?_
      refine lv_iload hx hb d_MO_isElement_275 (lv_at hl 5 rfl) ?_
      refine lv_iconst (v := 1) hx hb d_MO_isElement_277 (by decide) ?_
      refine lv_iadd hx hb d_MO_isElement_278 ?_
      by_cases c_41 : 0 ≤ (x6_4 + 1) ∧ (x6_4 + 1) < 136400
      rotate_left
      · exact op_no hs (by rw [hV_20, if_pos c_21, if_neg c_22, if_neg c_31, if_neg c_35, if_pos c_39, if_neg c_40, if_neg c_41])
      refine va_iald hx hb hK hP 1 1 rfl rfl (in_pp c_41.1 c_41.2 rfl) d_MO_isElement_279 ?_
      refine lv_iconst (v := 2) hx hb d_MO_isElement_280 (by decide) ?_
      refine lv_icmp_ge (tgt := 288) hx hb d_MO_isElement_281 (by decide) (fun c_42 => ?_) (fun c_42 => ?_)
      · refine lv_iconst (v := 0) hx hb d_MO_isElement_288 (by decide) ?_
        exact W.zret (v := 0) (ty := .boolean) hx hb hr (rfl) (fun t ht hW => ⟨0, rfl, (op_b (x := false) hs (by rw [hV_20, if_pos c_21, if_neg c_22, if_neg c_31, if_neg c_35, if_pos c_39, if_neg c_40, if_pos c_41, if_pos c_42])), ht⟩) (fun _ h => by cases h) d_MO_isElement_289
      · refine lv_iconst (v := 1) hx hb d_MO_isElement_284 (by decide) ?_
        refine lv_goto (tgt := 289) hx hb d_MO_isElement_285 (by decide) ?_
        exact W.zret (v := 1) (ty := .boolean) hx hb hr (rfl) (fun t ht hW => ⟨1, rfl, (op_b (x := true) hs (by rw [hV_20, if_pos c_21, if_neg c_22, if_neg c_31, if_neg c_35, if_pos c_39, if_neg c_40, if_pos c_41, if_neg c_42])), ht⟩) (fun _ h => by cases h) d_MO_isElement_289
  by_cases c_43 : (st p0.toNatClampNeg) = 10
  · refine sw_T (tgt := 290) hx hb d_MO_isElement_158 (Or.inr ⟨by rw [c_43]; decide, by rw [c_43]; decide, 132, by rw [c_43]; rfl, by decide⟩) ?_
    refine lv_iconst (v := 1) hx hb d_MO_isElement_290 (by decide) ?_
    exact W.zret (v := 1) (ty := .boolean) hx hb hr (rfl) (fun t ht hW => ⟨1, rfl, (op_b (x := true) hs (by rw [hV_20, if_pos c_21, if_neg c_22, if_neg c_31, if_neg c_35, if_neg c_39, if_pos c_43])), ht⟩) (fun _ h => by cases h) d_MO_isElement_291
  by_cases c_44 : (st p0.toNatClampNeg) = 16
  · refine sw_T (tgt := 240) hx hb d_MO_isElement_158 (Or.inr ⟨by rw [c_44]; decide, by rw [c_44]; decide, 82, by rw [c_44]; rfl, by decide⟩) ?_
    refine lv_iload hx hb d_MO_isElement_240 (lv_at hl 0 rfl) ?_
    refine lv_iconst (v := 4) hx hb d_MO_isElement_242 (by decide) ?_
    refine lv_icmp_lt (tgt := 250) hx hb d_MO_isElement_243 (by decide) (fun c_45 => ?_) (fun c_45 => ?_)
    · refine lv_iconst (v := 0) hx hb d_MO_isElement_250 (by decide) ?_
      exact W.zret (v := 0) (ty := .boolean) hx hb hr (rfl) (fun t ht hW => ⟨0, rfl, (op_b (x := false) hs (by rw [hV_20, if_pos c_21, if_neg c_22, if_neg c_31, if_neg c_35, if_neg c_39, if_neg c_43, if_pos c_44, if_pos c_45])), ht⟩) (fun _ h => by cases h) d_MO_isElement_251
    · refine lv_iconst (v := 1) hx hb d_MO_isElement_246 (by decide) ?_
      refine lv_goto (tgt := 251) hx hb d_MO_isElement_247 (by decide) ?_
      exact W.zret (v := 1) (ty := .boolean) hx hb hr (rfl) (fun t ht hW => ⟨1, rfl, (op_b (x := true) hs (by rw [hV_20, if_pos c_21, if_neg c_22, if_neg c_31, if_neg c_35, if_neg c_39, if_neg c_43, if_pos c_44, if_neg c_45])), ht⟩) (fun _ h => by cases h) d_MO_isElement_251
  by_cases c_46 : (st p0.toNatClampNeg) = 18
  · refine sw_T (tgt := 252) hx hb d_MO_isElement_158 (Or.inr ⟨by rw [c_46]; decide, by rw [c_46]; decide, 94, by rw [c_46]; rfl, by decide⟩) ?_
    refine lv_iload hx hb d_MO_isElement_252 (lv_at hl 0 rfl) ?_
    refine lv_bipush (v := 8) hx hb d_MO_isElement_254 (by decide) ?_
    refine lv_icmp_lt (tgt := 263) hx hb d_MO_isElement_256 (by decide) (fun c_47 => ?_) (fun c_47 => ?_)
    · refine lv_iconst (v := 0) hx hb d_MO_isElement_263 (by decide) ?_
      exact W.zret (v := 0) (ty := .boolean) hx hb hr (rfl) (fun t ht hW => ⟨0, rfl, (op_b (x := false) hs (by rw [hV_20, if_pos c_21, if_neg c_22, if_neg c_31, if_neg c_35, if_neg c_39, if_neg c_43, if_neg c_44, if_pos c_46, if_pos c_47])), ht⟩) (fun _ h => by cases h) d_MO_isElement_264
    · refine lv_iconst (v := 1) hx hb d_MO_isElement_259 (by decide) ?_
      refine lv_goto (tgt := 264) hx hb d_MO_isElement_260 (by decide) ?_
      exact W.zret (v := 1) (ty := .boolean) hx hb hr (rfl) (fun t ht hW => ⟨1, rfl, (op_b (x := true) hs (by rw [hV_20, if_pos c_21, if_neg c_22, if_neg c_31, if_neg c_35, if_neg c_39, if_neg c_43, if_neg c_44, if_pos c_46, if_neg c_47])), ht⟩) (fun _ h => by cases h) d_MO_isElement_264
  have h_c_22 := lv_neT c_22 (show (2 : Int32).toInt = 2 from rfl)
  have h_c_31 := lv_neT c_31 (show (3 : Int32).toInt = 3 from rfl)
  have h_c_35 := lv_neT c_35 (show (4 : Int32).toInt = 4 from rfl)
  have h_c_39 := lv_neT c_39 (show (8 : Int32).toInt = 8 from rfl)
  have h_c_43 := lv_neT c_43 (show (10 : Int32).toInt = 10 from rfl)
  have h_c_44 := lv_neT c_44 (show (16 : Int32).toInt = 16 from rfl)
  have h_c_46 := lv_neT c_46 (show (18 : Int32).toInt = 18 from rfl)
  refine sw_T (tgt := 404) hx hb d_MO_isElement_158 (by
    rcases Int.lt_or_le (st p0.toNatClampNeg).toInt 2 with q | q
    · exact Or.inl ⟨Or.inl q, by decide⟩
    · rcases Int.lt_or_le 18 (st p0.toNatClampNeg).toInt with q2 | q2
      · exact Or.inl ⟨Or.inr q2, by decide⟩
      · refine Or.inr ⟨by omega, by omega, ?_⟩
        have q3 : (st p0.toNatClampNeg).toInt = 5 ∨ (st p0.toNatClampNeg).toInt = 6 ∨ (st p0.toNatClampNeg).toInt = 7 ∨ (st p0.toNatClampNeg).toInt = 9 ∨ (st p0.toNatClampNeg).toInt = 11 ∨ (st p0.toNatClampNeg).toInt = 12 ∨ (st p0.toNatClampNeg).toInt = 13 ∨ (st p0.toNatClampNeg).toInt = 14 ∨ (st p0.toNatClampNeg).toInt = 15 ∨ (st p0.toNatClampNeg).toInt = 17 := by omega
        rcases q3 with q3 | q3 | q3 | q3 | q3 | q3 | q3 | q3 | q3 | q3 <;> (rw [q3]; exact ⟨_, rfl, by decide⟩)) ?_
  refine lv_iconst (v := 0) hx hb d_MO_isElement_404 (by decide) ?_
  exact W.zret (v := 0) (ty := .boolean) hx hb hr (rfl) (fun t ht hW => ⟨0, rfl, (op_b (x := false) hs (by rw [hV_20, if_pos c_21, if_neg c_22, if_neg c_31, if_neg c_35, if_neg c_39, if_neg c_43, if_neg c_44, if_neg c_46])), ht⟩) (fun _ h => by cases h) d_MO_isElement_405
set_option maxHeartbeats 4000000 in
set_option maxRecDepth 100000 in
theorem l_MO_isBox_h69 {p : Program} {e : Env} {s : State} {m : MethodId} {args : Array Value} {below : List Frame} {meth : Method} {c : Code} {V : Option (Bool)} {V0 : Bool} (C0 : lc_C p s m meth c args b_MO_isBox 9 (some .boolean) R_MO lw_g) (hs : V = some V0) (l : Launch) (D : va_G) (cB cI : ClassId) (aM aMst aMdcs aMtot aMfrm aMsiz aMffr aMfsz aMlkd aMlat aMkkd aMkat aModr aMgrp aMikd aMiat : Nat) (rF : Nat) (rL : Nat) (fu : Nat) (fe : Int32 → Int32 → Int32 → Int32 → Int32 → Option (Bool)) (thr : Int32) (tpd : Int32) (frs : Int32) (frt : Int32) (top : Int32) (bgn : Int32) (mst : Int32) (ovr : Bool) (tgr : Bool) (lvs : Int32) (its : Int32) (hgh : Int64) (loo : Int64) (dfl : Bool) (st : Nat → Int32) (hP : va_P D vwCl [(aM, .inr (11, [.int thr, .ref aMst, .int tpd, .ref aMdcs, .ref aMtot, .ref aMfrm, .ref aMsiz, .int frs, .int frt, .ref aMffr, .ref aMfsz, .int top, .int bgn, .int mst, .int (b2i ovr), .int (b2i tgr), .int lvs, .ref aMlkd, .ref aMlat, .ref aMkkd, .ref aMkat, .ref aModr, .ref aMgrp, .int its, .ref aMikd, .ref aMiat, .long hgh, .long loo, .int (b2i dfl)])), (aMst, .inl (cI, 136400, .inl st))] s.heap) (hk : hk_ D cB cI s) (p0 : Int32) (p2 : Int32) (p3 : Int32) (x6 : Int32) (hfe : ∀ (z0 z1 z2 z3 z4 : Int32) (V1 : Bool), fe z0 z1 z2 z3 z4 = some V1 → Met l y_MO_isElement mw_MO_isElement { frames := rF, cells := 0, slots := 0, locals := rL } (va_Pc [.ref aM, .int z0, .int z1, .int z2, .int z3, .int z4] (fun U => va_P D vwCl [(aM, .inr (11, [.int thr, .ref aMst, .int tpd, .ref aMdcs, .ref aMtot, .ref aMfrm, .ref aMsiz, .int frs, .int frt, .ref aMffr, .ref aMfsz, .int top, .int bgn, .int mst, .int (b2i ovr), .int (b2i tgr), .int lvs, .ref aMlkd, .ref aMlat, .ref aMkkd, .ref aMkat, .ref aModr, .ref aMgrp, .int its, .ref aMikd, .ref aMiat, .long hgh, .long loo, .int (b2i dfl)])), (aMst, .inl (cI, 136400, .inl st))] U.heap ∧ hk_ D cB cI U)) (vp_Si (fun r => r = b2i V1)) 0 0 (fun _ => False)) {K : Int32 → Int32 → Option (Bool)} (hKx : ∀ (x7 : Int32) (x8 : Int32), V = K x7 x8 → ∀ ls : Array Slot, lv_has ls 9 [] → W p l e ({ frames := rF + 8, cells := 0, slots := 0, locals := rL + 240 }) s m args below meth c s.heap [] 0 0 (MQ below (vp_Si (fun r => r = b2i V0)) args s 0 0 (fun _ => False)) (F0 m 134 ls [])) : ∀ (n : Nat) (x7 : Int32) (x8 : Int32), V = tw_MO_isBox_h69 fu fe K st p0 p2 p3 x6 n x7 x8 → ∀ ls : Array Slot, lv_has ls 9 [(0, .ref aM), (1, .int p0), (3, .int p2), (4, .int p3), (6, .int x6), (7, .int x7), (8, .int x8)] → W p l e ({ frames := rF + 8, cells := 0, slots := 0, locals := rL + 240 }) s m args below meth c s.heap [] 0 0 (MQ below (vp_Si (fun r => r = b2i V0)) args s 0 0 (fun _ => False)) (F0 m 69 ls []) := by
  obtain ⟨hx, hb, hml, hr, hown, hlocks, hT⟩ := id C0
  have hK := hk.1
  have hN := hk.2.1
  intro n
  induction n with
  | zero =>
    intro x7 x8 hV
    exact op_no hs (hV.trans rfl)
  | succ n ih =>
    intro x7 x8 hV ls hl
    refine lv_iload hx hb d_MO_isBox_69 (lv_at hl 5 rfl) ?_
    refine lv_iload hx hb d_MO_isBox_71 (lv_at hl 4 rfl) ?_
    refine lv_icmp_ge (tgt := 134) hx hb d_MO_isBox_73 (by decide) (fun c_8 => ?_) (fun c_8 => ?_)
    · exact hKx x7 x8 (by rw [hV, tw_MO_isBox_h69, if_pos c_8]) ls (lv_sub hl [] rfl)
    · refine lv_aload_n hx hb d_MO_isBox_76 rfl (lv_at hl 0 rfl) ?_
      refine lv_iload hx hb d_MO_isBox_77 (lv_at hl 5 rfl) ?_
      refine lv_iload hx hb d_MO_isBox_79 (lv_at hl 4 rfl) ?_
      refine lv_iload_n hx hb d_MO_isBox_81 rfl (lv_at hl 1 rfl) ?_
      refine lv_iload_n hx hb d_MO_isBox_82 rfl (lv_at hl 2 rfl) ?_
      refine lv_if_eq (tgt := 91) hx hb d_MO_isBox_83 (by decide) (fun c_9 => ?_) (fun c_9 => ?_)
      · refine lv_iconst (v := -1) hx hb d_MO_isBox_91 (by decide) ?_
        refine lv_iload hx hb d_MO_isBox_92 (lv_at hl 3 rfl) ?_
        rcases h_10 : fe x7 x6 p0 (-1) p3 with _ | r_10
        · exact op_no hs (by rw [hV, tw_MO_isBox_h69, if_neg c_8, if_pos c_9, h_10, ob1_no])
        refine rd_V (val := b2i r_10) (As := [.int x7, .int x6, .int p0, .int (-1), .int p3]) (rest := []) ⟨hx, hb, hml, hown, hT⟩ (hfe x7 x6 p0 (-1) p3 r_10 h_10) (cwV 5 hT (gV_of k_1158 k_1160 kp_MO_isElement k_12 kc_MO_isElement) rfl rfl rfl hd_MO_isElement ⟨rl_f (Nat.le_of_ble_eq_true rfl), rl_l (Nat.le_of_ble_eq_true rfl)⟩) hk hP (q0 := 0) rfl rfl rfl rfl hl.1 rfl (Nat.le_of_ble_eq_true rfl) d_MO_isBox_94 ⟨Nat.zero_le _, Nat.zero_le _⟩ ?_
        refine lv_if_ne (tgt := 102) hx hb d_MO_isBox_97 (by decide) (fun c_11 => ?_) (fun c_11 => ?_)
        · refine lv_aload_n hx hb d_MO_isBox_102 rfl (lv_at hl 0 rfl) ?_
          refine lv_iload hx hb d_MO_isBox_103 (lv_at hl 5 rfl) ?_
          rcases h_12 : tw_MO_valueOf fu st x7 with _ | r_12
          · exact op_no hs (by rw [hV, tw_MO_isBox_h69, if_neg c_8, if_pos c_9, h_10, ob1_mk, if_neg c_11, h_12, ob1_no])
          refine rd_V (val := r_12) (As := [.int x7]) (rest := []) ⟨hx, hb, hml, hown, hT⟩ (c_MO_valueOf l D cB cI aM aMst aMdcs aMtot aMfrm aMsiz aMffr aMfsz aMlkd aMlat aMkkd aMkat aModr aMgrp aMikd aMiat fu thr tpd frs frt top bgn mst ovr tgr lvs its hgh loo dfl st x7 r_12 h_12) (cwV 1 hT (gV_of k_1182 k_1184 kp_MO_valueOf k_12 kc_MO_valueOf) rfl rfl rfl hd_MO_valueOf ⟨rl_s (Nat.le_of_ble_eq_true rfl), rl_s (Nat.le_of_ble_eq_true rfl)⟩) hk hP (q0 := 0) rfl rfl rfl rfl hl.1 rfl (Nat.le_of_ble_eq_true rfl) d_MO_isBox_105 ⟨Nat.zero_le _, Nat.zero_le _⟩ ?_
          refine lv_aload_n hx hb d_MO_isBox_108 rfl (lv_at hl 0 rfl) ?_
          refine lv_aload_n hx hb d_MO_isBox_109 rfl (lv_at hl 0 rfl) ?_
          refine va_get (D := D) (ci := 11) (v := .ref aMst) (C := R_MO) (T := T_MO) (N := 29) hx hb hT u_MO hown hK hP 0 rfl rfl 1 (by decide) (hT _ k_1044) (fun _ h9 => h9) rfl d_MO_isBox_110 ?_
          refine lv_iload hx hb d_MO_isBox_113 (lv_at hl 5 rfl) ?_
          by_cases c_13 : 0 ≤ x7 ∧ x7 < 136400
          rotate_left
          · exact op_no hs (by rw [hV, tw_MO_isBox_h69, if_neg c_8, if_pos c_9, h_10, ob1_mk, if_neg c_11, h_12, ob1_mk, if_neg c_13])
          refine va_iald hx hb hK hP 1 1 rfl rfl (in_pp c_13.1 c_13.2 rfl) d_MO_isBox_115 ?_
          refine lv_aload_n hx hb d_MO_isBox_116 rfl (lv_at hl 0 rfl) ?_
          refine lv_iload hx hb d_MO_isBox_117 (lv_at hl 5 rfl) ?_
          refine rd_V (val := r_12) (As := [.int x7]) (rest := [.int (st x7.toNatClampNeg), .ref aM, .int r_12]) ⟨hx, hb, hml, hown, hT⟩ (c_MO_valueOf l D cB cI aM aMst aMdcs aMtot aMfrm aMsiz aMffr aMfsz aMlkd aMlat aMkkd aMkat aModr aMgrp aMikd aMiat fu thr tpd frs frt top bgn mst ovr tgr lvs its hgh loo dfl st x7 r_12 h_12) (cwV 1 hT (gV_of k_1182 k_1184 kp_MO_valueOf k_12 kc_MO_valueOf) rfl rfl rfl hd_MO_valueOf ⟨rl_s (Nat.le_of_ble_eq_true rfl), rl_s (Nat.le_of_ble_eq_true rfl)⟩) hk hP (q0 := 0) rfl rfl rfl rfl hl.1 rfl (Nat.le_of_ble_eq_true rfl) d_MO_isBox_119 ⟨Nat.zero_le _, Nat.zero_le _⟩ ?_
          rcases h_14 : tw_MO_lengthOf fu st (st x7.toNatClampNeg) r_12 with _ | r_14
          · exact op_no hs (by rw [hV, tw_MO_isBox_h69, if_neg c_8, if_pos c_9, h_10, ob1_mk, if_neg c_11, h_12, ob1_mk, if_pos c_13, h_14, ob1_no])
          refine rd_V (val := r_14) (As := [.int (st x7.toNatClampNeg), .int r_12]) (rest := [.int r_12]) ⟨hx, hb, hml, hown, hT⟩ (c_MO_lengthOf l D cB cI aM aMst aMdcs aMtot aMfrm aMsiz aMffr aMfsz aMlkd aMlat aMkkd aMkat aModr aMgrp aMikd aMiat fu thr tpd frs frt top bgn mst ovr tgr lvs its hgh loo dfl st (st x7.toNatClampNeg) r_12 r_14 h_14) (cwV 2 hT (gV_of k_1186 k_1188 kp_MO_lengthOf k_12 kc_MO_lengthOf) rfl rfl rfl hd_MO_lengthOf ⟨rl_s (Nat.le_of_ble_eq_true rfl), rl_s (Nat.le_of_ble_eq_true rfl)⟩) hk hP (q0 := 0) rfl rfl rfl rfl hl.1 rfl (Nat.le_of_ble_eq_true rfl) d_MO_isBox_122 ⟨Nat.zero_le _, Nat.zero_le _⟩ ?_
          refine lv_iadd hx hb d_MO_isBox_125 ?_
          refine lv_istore (lv' := [(7, .int (r_12 + r_14)), (0, .ref aM), (1, .int p0), (3, .int p2), (4, .int p3), (6, .int x6), (8, .int x8)]) hx hb d_MO_isBox_126 hl (by decide) rfl (fun ls hl => ?_)
          refine lv_iinc (v := x8 + 1) (lv' := [(8, .int (x8 + 1)), (7, .int (r_12 + r_14)), (0, .ref aM), (1, .int p0), (3, .int p2), (4, .int p3), (6, .int x6)]) hx hb d_MO_isBox_128 hl (k := 6) rfl rfl (by decide) rfl (fun ls hl => ?_)
          refine lv_goto (tgt := 69) hx hb d_MO_isBox_131 (by decide) ?_
          exact ih (r_12 + r_14) (x8 + 1) (by rw [hV, tw_MO_isBox_h69, if_neg c_8, if_pos c_9, h_10, ob1_mk, if_neg c_11, h_12, ob1_mk, if_pos c_13, h_14, ob1_mk]) ls (lv_sub hl [2, 3, 4, 5, 6, 1, 0] rfl)
        · refine lv_iconst (v := 0) hx hb d_MO_isBox_100 (by decide) ?_
          exact W.zret (v := 0) (ty := .boolean) hx hb hr (rfl) (fun t ht hW => ⟨0, rfl, (op_b (x := false) hs (by rw [hV, tw_MO_isBox_h69, if_neg c_8, if_pos c_9, h_10, ob1_mk, if_pos c_11])), ht⟩) (fun _ h => by cases h) d_MO_isBox_101
      · refine lv_iload hx hb d_MO_isBox_86 (lv_at hl 6 rfl) ?_
        refine lv_goto (tgt := 92) hx hb d_MO_isBox_88 (by decide) ?_
        refine lv_iload hx hb d_MO_isBox_92 (lv_at hl 3 rfl) ?_
        rcases h_15 : fe x7 x6 p0 x8 p3 with _ | r_15
        · exact op_no hs (by rw [hV, tw_MO_isBox_h69, if_neg c_8, if_neg c_9, h_15, ob1_no])
        refine rd_V (val := b2i r_15) (As := [.int x7, .int x6, .int p0, .int x8, .int p3]) (rest := []) ⟨hx, hb, hml, hown, hT⟩ (hfe x7 x6 p0 x8 p3 r_15 h_15) (cwV 5 hT (gV_of k_1158 k_1160 kp_MO_isElement k_12 kc_MO_isElement) rfl rfl rfl hd_MO_isElement ⟨rl_f (Nat.le_of_ble_eq_true rfl), rl_l (Nat.le_of_ble_eq_true rfl)⟩) hk hP (q0 := 0) rfl rfl rfl rfl hl.1 rfl (Nat.le_of_ble_eq_true rfl) d_MO_isBox_94 ⟨Nat.zero_le _, Nat.zero_le _⟩ ?_
        refine lv_if_ne (tgt := 102) hx hb d_MO_isBox_97 (by decide) (fun c_16 => ?_) (fun c_16 => ?_)
        · refine lv_aload_n hx hb d_MO_isBox_102 rfl (lv_at hl 0 rfl) ?_
          refine lv_iload hx hb d_MO_isBox_103 (lv_at hl 5 rfl) ?_
          rcases h_17 : tw_MO_valueOf fu st x7 with _ | r_17
          · exact op_no hs (by rw [hV, tw_MO_isBox_h69, if_neg c_8, if_neg c_9, h_15, ob1_mk, if_neg c_16, h_17, ob1_no])
          refine rd_V (val := r_17) (As := [.int x7]) (rest := []) ⟨hx, hb, hml, hown, hT⟩ (c_MO_valueOf l D cB cI aM aMst aMdcs aMtot aMfrm aMsiz aMffr aMfsz aMlkd aMlat aMkkd aMkat aModr aMgrp aMikd aMiat fu thr tpd frs frt top bgn mst ovr tgr lvs its hgh loo dfl st x7 r_17 h_17) (cwV 1 hT (gV_of k_1182 k_1184 kp_MO_valueOf k_12 kc_MO_valueOf) rfl rfl rfl hd_MO_valueOf ⟨rl_s (Nat.le_of_ble_eq_true rfl), rl_s (Nat.le_of_ble_eq_true rfl)⟩) hk hP (q0 := 0) rfl rfl rfl rfl hl.1 rfl (Nat.le_of_ble_eq_true rfl) d_MO_isBox_105 ⟨Nat.zero_le _, Nat.zero_le _⟩ ?_
          refine lv_aload_n hx hb d_MO_isBox_108 rfl (lv_at hl 0 rfl) ?_
          refine lv_aload_n hx hb d_MO_isBox_109 rfl (lv_at hl 0 rfl) ?_
          refine va_get (D := D) (ci := 11) (v := .ref aMst) (C := R_MO) (T := T_MO) (N := 29) hx hb hT u_MO hown hK hP 0 rfl rfl 1 (by decide) (hT _ k_1044) (fun _ h9 => h9) rfl d_MO_isBox_110 ?_
          refine lv_iload hx hb d_MO_isBox_113 (lv_at hl 5 rfl) ?_
          by_cases c_18 : 0 ≤ x7 ∧ x7 < 136400
          rotate_left
          · exact op_no hs (by rw [hV, tw_MO_isBox_h69, if_neg c_8, if_neg c_9, h_15, ob1_mk, if_neg c_16, h_17, ob1_mk, if_neg c_18])
          refine va_iald hx hb hK hP 1 1 rfl rfl (in_pp c_18.1 c_18.2 rfl) d_MO_isBox_115 ?_
          refine lv_aload_n hx hb d_MO_isBox_116 rfl (lv_at hl 0 rfl) ?_
          refine lv_iload hx hb d_MO_isBox_117 (lv_at hl 5 rfl) ?_
          refine rd_V (val := r_17) (As := [.int x7]) (rest := [.int (st x7.toNatClampNeg), .ref aM, .int r_17]) ⟨hx, hb, hml, hown, hT⟩ (c_MO_valueOf l D cB cI aM aMst aMdcs aMtot aMfrm aMsiz aMffr aMfsz aMlkd aMlat aMkkd aMkat aModr aMgrp aMikd aMiat fu thr tpd frs frt top bgn mst ovr tgr lvs its hgh loo dfl st x7 r_17 h_17) (cwV 1 hT (gV_of k_1182 k_1184 kp_MO_valueOf k_12 kc_MO_valueOf) rfl rfl rfl hd_MO_valueOf ⟨rl_s (Nat.le_of_ble_eq_true rfl), rl_s (Nat.le_of_ble_eq_true rfl)⟩) hk hP (q0 := 0) rfl rfl rfl rfl hl.1 rfl (Nat.le_of_ble_eq_true rfl) d_MO_isBox_119 ⟨Nat.zero_le _, Nat.zero_le _⟩ ?_
          rcases h_19 : tw_MO_lengthOf fu st (st x7.toNatClampNeg) r_17 with _ | r_19
          · exact op_no hs (by rw [hV, tw_MO_isBox_h69, if_neg c_8, if_neg c_9, h_15, ob1_mk, if_neg c_16, h_17, ob1_mk, if_pos c_18, h_19, ob1_no])
          refine rd_V (val := r_19) (As := [.int (st x7.toNatClampNeg), .int r_17]) (rest := [.int r_17]) ⟨hx, hb, hml, hown, hT⟩ (c_MO_lengthOf l D cB cI aM aMst aMdcs aMtot aMfrm aMsiz aMffr aMfsz aMlkd aMlat aMkkd aMkat aModr aMgrp aMikd aMiat fu thr tpd frs frt top bgn mst ovr tgr lvs its hgh loo dfl st (st x7.toNatClampNeg) r_17 r_19 h_19) (cwV 2 hT (gV_of k_1186 k_1188 kp_MO_lengthOf k_12 kc_MO_lengthOf) rfl rfl rfl hd_MO_lengthOf ⟨rl_s (Nat.le_of_ble_eq_true rfl), rl_s (Nat.le_of_ble_eq_true rfl)⟩) hk hP (q0 := 0) rfl rfl rfl rfl hl.1 rfl (Nat.le_of_ble_eq_true rfl) d_MO_isBox_122 ⟨Nat.zero_le _, Nat.zero_le _⟩ ?_
          refine lv_iadd hx hb d_MO_isBox_125 ?_
          refine lv_istore (lv' := [(7, .int (r_17 + r_19)), (0, .ref aM), (1, .int p0), (3, .int p2), (4, .int p3), (6, .int x6), (8, .int x8)]) hx hb d_MO_isBox_126 hl (by decide) rfl (fun ls hl => ?_)
          refine lv_iinc (v := x8 + 1) (lv' := [(8, .int (x8 + 1)), (7, .int (r_17 + r_19)), (0, .ref aM), (1, .int p0), (3, .int p2), (4, .int p3), (6, .int x6)]) hx hb d_MO_isBox_128 hl (k := 6) rfl rfl (by decide) rfl (fun ls hl => ?_)
          refine lv_goto (tgt := 69) hx hb d_MO_isBox_131 (by decide) ?_
          exact ih (r_17 + r_19) (x8 + 1) (by rw [hV, tw_MO_isBox_h69, if_neg c_8, if_neg c_9, h_15, ob1_mk, if_neg c_16, h_17, ob1_mk, if_pos c_18, h_19, ob1_mk]) ls (lv_sub hl [2, 3, 4, 5, 6, 1, 0] rfl)
        · refine lv_iconst (v := 0) hx hb d_MO_isBox_100 (by decide) ?_
          exact W.zret (v := 0) (ty := .boolean) hx hb hr (rfl) (fun t ht hW => ⟨0, rfl, (op_b (x := false) hs (by rw [hV, tw_MO_isBox_h69, if_neg c_8, if_neg c_9, h_15, ob1_mk, if_pos c_16])), ht⟩) (fun _ h => by cases h) d_MO_isBox_101
set_option maxHeartbeats 4000000 in
set_option maxRecDepth 100000 in
theorem c_MO_isBox (l : Launch) (D : va_G) (cB cI : ClassId) (aM aMst aMdcs aMtot aMfrm aMsiz aMffr aMfsz aMlkd aMlat aMkkd aMkat aModr aMgrp aMikd aMiat : Nat) (rF : Nat) (rL : Nat) (fu : Nat) (fe : Int32 → Int32 → Int32 → Int32 → Int32 → Option (Bool)) (thr : Int32) (tpd : Int32) (frs : Int32) (frt : Int32) (top : Int32) (bgn : Int32) (mst : Int32) (ovr : Bool) (tgr : Bool) (lvs : Int32) (its : Int32) (hgh : Int64) (loo : Int64) (dfl : Bool) (st : Nat → Int32) (p0 : Int32) (p1 : Int32) (p2 : Int32) (p3 : Int32) (hfe : ∀ (z0 z1 z2 z3 z4 : Int32) (V1 : Bool), fe z0 z1 z2 z3 z4 = some V1 → Met l y_MO_isElement mw_MO_isElement { frames := rF, cells := 0, slots := 0, locals := rL } (va_Pc [.ref aM, .int z0, .int z1, .int z2, .int z3, .int z4] (fun U => va_P D vwCl [(aM, .inr (11, [.int thr, .ref aMst, .int tpd, .ref aMdcs, .ref aMtot, .ref aMfrm, .ref aMsiz, .int frs, .int frt, .ref aMffr, .ref aMfsz, .int top, .int bgn, .int mst, .int (b2i ovr), .int (b2i tgr), .int lvs, .ref aMlkd, .ref aMlat, .ref aMkkd, .ref aMkat, .ref aModr, .ref aMgrp, .int its, .ref aMikd, .ref aMiat, .long hgh, .long loo, .int (b2i dfl)])), (aMst, .inl (cI, 136400, .inl st))] U.heap ∧ hk_ D cB cI U)) (vp_Si (fun r => r = b2i V1)) 0 0 (fun _ => False)) (V0 : Bool) (hs : tw_MO_isBox fu fe st p0 p1 p2 p3 = some V0) : Met l y_MO_isBox mw_MO_isBox { frames := rF + 8, cells := 0, slots := 0, locals := rL + 240 } (va_Pc [.ref aM, .int p0, .int p1, .int p2, .int p3] (fun U => va_P D vwCl [(aM, .inr (11, [.int thr, .ref aMst, .int tpd, .ref aMdcs, .ref aMtot, .ref aMfrm, .ref aMsiz, .int frs, .int frt, .ref aMffr, .ref aMfsz, .int top, .int bgn, .int mst, .int (b2i ovr), .int (b2i tgr), .int lvs, .ref aMlkd, .ref aMlat, .ref aMkkd, .ref aMkat, .ref aModr, .ref aMgrp, .int its, .ref aMikd, .ref aMiat, .long hgh, .long loo, .int (b2i dfl)])), (aMst, .inl (cI, 136400, .inl st))] U.heap ∧ hk_ D cB cI U)) (vp_Si (fun r => r = b2i V0)) 0 0 (fun _ => False) := by
  refine Met.ofW (cc := b_MO_isBox) (maxL := 9) (ret := (some .boolean)) (by decide) rfl ?_
  intro p e s m args below meth c s₁ B0 hml hv
  obtain ⟨rfl, hP, hk⟩ := hv
  have hK := hk.1
  have hN := hk.2.1
  have hx := B0.exec
  have hb := B0.bytes
  have hr := B0.returns
  have hT : ∀ w ∈ lw_g, w.before _ s = true := fun w h => atoms_spec (ws := mw_MO_isBox) B0.pre w (List.mem_cons_of_mem _ h)
  have hown : s.vm.findClass R_MO = some m.cls := findClass_of_methodNamed B0.named
  have hlocks := B0.notSynchronized
  have hl := lv_entry ([.ref aM, .int p0, .int p1, .int p2, .int p3]) (n := 9) (Nat.le_of_ble_eq_true rfl)
  rw [lg_entry_eq]
  generalize (lg_sl ([.ref aM, .int p0, .int p1, .int p2, .int p3]) ++ List.replicate (9 - (lg_sl ([.ref aM, .int p0, .int p1, .int p2, .int p3])).length) Slot.unset).toArray = ls at hl ⊢
  have hl : lv_has ls 9 [(0, .ref aM), (1, .int p0), (2, .int p1), (3, .int p2), (4, .int p3)] := hl
  have C0 : lc_C p s m meth c _ b_MO_isBox 9 (some .boolean) R_MO lw_g := ⟨hx, hb, hml, hr, hown, hlocks, hT⟩
  refine lv_iload_n hx hb d_MO_isBox_0 rfl (lv_at hl 2 rfl) ?_
  refine lv_iload_n hx hb d_MO_isBox_1 rfl (lv_at hl 1 rfl) ?_
  refine lv_isub hx hb d_MO_isBox_2 ?_
  refine lv_iconst (v := 5) hx hb d_MO_isBox_3 (by decide) ?_
  refine lv_icmp_lt (tgt := 14) hx hb d_MO_isBox_4 (by decide) (fun c_1 => ?_) (fun c_1 => ?_)
  · refine lv_iconst (v := 0) hx hb d_MO_isBox_14 (by decide) ?_
    exact W.zret (v := 0) (ty := .boolean) hx hb hr (rfl) (fun t ht hW => ⟨0, rfl, (op_b (x := false) hs (by rw [tw_MO_isBox, if_pos c_1])), ht⟩) (fun _ h => by cases h) d_MO_isBox_15
  · refine lv_iload hx hb d_MO_isBox_7 (lv_at hl 4 rfl) ?_
    refine lv_bipush (v := 16) hx hb d_MO_isBox_9 (by decide) ?_
    refine lv_icmp_le (tgt := 16) hx hb d_MO_isBox_11 (by decide) (fun c_2 => ?_) (fun c_2 => ?_)
    · refine lv_aload_n hx hb d_MO_isBox_16 rfl (lv_at hl 0 rfl) ?_
      refine lv_iload_n hx hb d_MO_isBox_17 rfl (lv_at hl 1 rfl) ?_
      rcases h_3 : tw_MO_whole fu st p0 with _ | r_3
      · exact op_no hs (by rw [tw_MO_isBox, if_neg c_1, if_pos c_2, h_3, ob1_no])
      refine rd_V (val := r_3) (As := [.int p0]) (rest := []) ⟨hx, hb, hml, hown, hT⟩ (c_MO_whole l D cB cI aM aMst aMdcs aMtot aMfrm aMsiz aMffr aMfsz aMlkd aMlat aMkkd aMkat aModr aMgrp aMikd aMiat fu thr tpd frs frt top bgn mst ovr tgr lvs its hgh loo dfl st p0 r_3 h_3) (cwV 1 hT (gV_of k_1148 k_1150 kp_MO_whole k_12 kc_MO_whole) rfl rfl rfl hd_MO_whole ⟨rl_s (Nat.le_of_ble_eq_true rfl), rl_s (Nat.le_of_ble_eq_true rfl)⟩) hk hP (q0 := 0) rfl rfl rfl rfl hl.1 rfl (Nat.le_of_ble_eq_true rfl) d_MO_isBox_18 ⟨Nat.zero_le _, Nat.zero_le _⟩ ?_
      refine lv_istore (lv' := [(5, .int r_3), (0, .ref aM), (1, .int p0), (2, .int p1), (3, .int p2), (4, .int p3)]) hx hb d_MO_isBox_21 hl (by decide) rfl (fun ls hl => ?_)
      refine lv_iload hx hb d_MO_isBox_23 (lv_at hl 0 rfl) ?_
      refine lv_iconst (v := 5) hx hb d_MO_isBox_25 (by decide) ?_
      refine lv_icmp_lt (tgt := 51) hx hb d_MO_isBox_26 (by decide) (fun c_4 => ?_) (fun c_4 => ?_)
      · refine lv_iconst (v := 0) hx hb d_MO_isBox_51 (by decide) ?_
        exact W.zret (v := 0) (ty := .boolean) hx hb hr (rfl) (fun t ht hW => ⟨0, rfl, (op_b (x := false) hs (by rw [tw_MO_isBox, if_neg c_1, if_pos c_2, h_3, ob1_mk, if_pos c_4])), ht⟩) (fun _ h => by cases h) d_MO_isBox_52
      · refine lv_iload hx hb d_MO_isBox_29 (lv_at hl 0 rfl) ?_
        refine lv_iload_n hx hb d_MO_isBox_31 rfl (lv_at hl 3 rfl) ?_
        refine lv_iload_n hx hb d_MO_isBox_32 rfl (lv_at hl 2 rfl) ?_
        refine lv_isub hx hb d_MO_isBox_33 ?_
        refine lv_icmp_gt (tgt := 51) hx hb d_MO_isBox_34 (by decide) (fun c_5 => ?_) (fun c_5 => ?_)
        · refine lv_iconst (v := 0) hx hb d_MO_isBox_51 (by decide) ?_
          exact W.zret (v := 0) (ty := .boolean) hx hb hr (rfl) (fun t ht hW => ⟨0, rfl, (op_b (x := false) hs (by rw [tw_MO_isBox, if_neg c_1, if_pos c_2, h_3, ob1_mk, if_neg c_4, if_pos c_5])), ht⟩) (fun _ h => by cases h) d_MO_isBox_52
        · refine lv_aload_n hx hb d_MO_isBox_37 rfl (lv_at hl 1 rfl) ?_
          refine va_get (D := D) (ci := 11) (v := .ref aMst) (C := R_MO) (T := T_MO) (N := 29) hx hb hT u_MO hown hK hP 0 rfl rfl 1 (by decide) (hT _ k_1044) (fun _ h9 => h9) rfl d_MO_isBox_38 ?_
          refine lv_iload_n hx hb d_MO_isBox_41 rfl (lv_at hl 2 rfl) ?_
          refine lv_iload hx hb d_MO_isBox_42 (lv_at hl 0 rfl) ?_
          refine lv_iadd hx hb d_MO_isBox_44 ?_
          refine lv_iconst (v := 1) hx hb d_MO_isBox_45 (by decide) ?_
          refine lv_isub hx hb d_MO_isBox_46 ?_
          by_cases c_6 : 0 ≤ ((p0 + r_3) - 1) ∧ ((p0 + r_3) - 1) < 136400
          rotate_left
          · exact op_no hs (by rw [tw_MO_isBox, if_neg c_1, if_pos c_2, h_3, ob1_mk, if_neg c_4, if_neg c_5, if_neg c_6])
          refine va_iald hx hb hK hP 1 1 rfl rfl (in_pp c_6.1 c_6.2 rfl) d_MO_isBox_47 ?_
          refine lv_if_eq (tgt := 53) hx hb d_MO_isBox_48 (by decide) (fun c_7 => ?_) (fun c_7 => ?_)
          · refine lv_iload_n hx hb d_MO_isBox_53 rfl (lv_at hl 2 rfl) ?_
            refine lv_iload hx hb d_MO_isBox_54 (lv_at hl 0 rfl) ?_
            refine lv_iadd hx hb d_MO_isBox_56 ?_
            refine lv_iconst (v := 1) hx hb d_MO_isBox_57 (by decide) ?_
            refine lv_isub hx hb d_MO_isBox_58 ?_
            refine lv_istore (lv' := [(6, .int ((p0 + r_3) - 1)), (5, .int r_3), (0, .ref aM), (1, .int p0), (2, .int p1), (3, .int p2), (4, .int p3)]) hx hb d_MO_isBox_59 hl (by decide) rfl (fun ls hl => ?_)
            refine lv_iload_n hx hb d_MO_isBox_61 rfl (lv_at hl 3 rfl) ?_
            refine lv_iconst (v := 4) hx hb d_MO_isBox_62 (by decide) ?_
            refine lv_iadd hx hb d_MO_isBox_63 ?_
            refine lv_istore (lv' := [(7, .int (p0 + 4)), (6, .int ((p0 + r_3) - 1)), (5, .int r_3), (0, .ref aM), (1, .int p0), (2, .int p1), (3, .int p2), (4, .int p3)]) hx hb d_MO_isBox_64 hl (by decide) rfl (fun ls hl => ?_)
            refine lv_iconst (v := 0) hx hb d_MO_isBox_66 (by decide) ?_
            refine lv_istore (lv' := [(8, .int 0), (7, .int (p0 + 4)), (6, .int ((p0 + r_3) - 1)), (5, .int r_3), (0, .ref aM), (1, .int p0), (2, .int p1), (3, .int p2), (4, .int p3)]) hx hb d_MO_isBox_67 hl (by decide) rfl (fun ls hl => ?_)
            refine l_MO_isBox_h69 C0 hs l D cB cI aM aMst aMdcs aMtot aMfrm aMsiz aMffr aMfsz aMlkd aMlat aMkkd aMkat aModr aMgrp aMikd aMiat rF rL fu fe thr tpd frs frt top bgn mst ovr tgr lvs its hgh loo dfl st hP hk p0 p2 p3 ((p0 + r_3) - 1) hfe  (K := (fun (x7_20 : Int32) (x8_20 : Int32) =>
                some true)) ?_ fu (p0 + 4) 0  (by rw [tw_MO_isBox, if_neg c_1, if_pos c_2, h_3, ob1_mk, if_neg c_4, if_neg c_5, if_pos c_6, if_pos c_7]) ls (lv_sub hl [4, 5, 7, 8, 2, 1, 0] rfl)
            intro x7_20 x8_20 hV_20 ls hl
            refine lv_iconst (v := 1) hx hb d_MO_isBox_134 (by decide) ?_
            exact W.zret (v := 1) (ty := .boolean) hx hb hr (rfl) (fun t ht hW => ⟨1, rfl, (op_b (x := true) hs (by rw [hV_20])), ht⟩) (fun _ h => by cases h) d_MO_isBox_135
          · refine lv_iconst (v := 0) hx hb d_MO_isBox_51 (by decide) ?_
            exact W.zret (v := 0) (ty := .boolean) hx hb hr (rfl) (fun t ht hW => ⟨0, rfl, (op_b (x := false) hs (by rw [tw_MO_isBox, if_neg c_1, if_pos c_2, h_3, ob1_mk, if_neg c_4, if_neg c_5, if_pos c_6, if_neg c_7])), ht⟩) (fun _ h => by cases h) d_MO_isBox_52
    · refine lv_iconst (v := 0) hx hb d_MO_isBox_14 (by decide) ?_
      exact W.zret (v := 0) (ty := .boolean) hx hb hr (rfl) (fun t ht hW => ⟨0, rfl, (op_b (x := false) hs (by rw [tw_MO_isBox, if_neg c_1, if_neg c_2])), ht⟩) (fun _ h => by cases h) d_MO_isBox_15
set_option maxHeartbeats 4000000 in
set_option maxRecDepth 100000 in
theorem c_tw_MO_bx (l : Launch) (D : va_G) (cB cI : ClassId) (aM aMst aMdcs aMtot aMfrm aMsiz aMffr aMfsz aMlkd aMlat aMkkd aMkat aModr aMgrp aMikd aMiat : Nat) (fu : Nat) (thr : Int32) (tpd : Int32) (frs : Int32) (frt : Int32) (top : Int32) (bgn : Int32) (mst : Int32) (ovr : Bool) (tgr : Bool) (lvs : Int32) (its : Int32) (hgh : Int64) (loo : Int64) (dfl : Bool) (st : Nat → Int32) : ∀ (k : Nat) (z0 z1 z2 z3 : Int32) (V1 : Bool), tw_MO_bx fu st k z0 z1 z2 z3 = some V1 → Met l y_MO_isBox mw_MO_isBox { frames := 16 * k, cells := 0, slots := 0, locals := 480 * k } (va_Pc [.ref aM, .int z0, .int z1, .int z2, .int z3] (fun U => va_P D vwCl [(aM, .inr (11, [.int thr, .ref aMst, .int tpd, .ref aMdcs, .ref aMtot, .ref aMfrm, .ref aMsiz, .int frs, .int frt, .ref aMffr, .ref aMfsz, .int top, .int bgn, .int mst, .int (b2i ovr), .int (b2i tgr), .int lvs, .ref aMlkd, .ref aMlat, .ref aMkkd, .ref aMkat, .ref aModr, .ref aMgrp, .int its, .ref aMikd, .ref aMiat, .long hgh, .long loo, .int (b2i dfl)])), (aMst, .inl (cI, 136400, .inl st))] U.heap ∧ hk_ D cB cI U)) (vp_Si (fun r => r = b2i V1)) 0 0 (fun _ => False) := by
  intro k
  induction k with
  | zero =>
    intro z0 z1 z2 z3 V1 hs
    cases hs
  | succ k ih =>
    intro z0 z1 z2 z3 V1 hs
    exact c_MO_isBox l D cB cI aM aMst aMdcs aMtot aMfrm aMsiz aMffr aMfsz aMlkd aMlat aMkkd aMkat aModr aMgrp aMikd aMiat (16 * k + 8) (480 * k + 240) fu _ thr tpd frs frt top bgn mst ovr tgr lvs its hgh loo dfl st z0 z1 z2 z3 (fun a2 b2 c2 d2 e2 V2 h2 => c_MO_isElement l D cB cI aM aMst aMdcs aMtot aMfrm aMsiz aMffr aMfsz aMlkd aMlat aMkkd aMkat aModr aMgrp aMikd aMiat (16 * k) (480 * k) fu _ thr tpd frs frt top bgn mst ovr tgr lvs its hgh loo dfl st a2 b2 c2 d2 e2 (fun a3 b3 c3 d3 V3 h3 => ih a3 b3 c3 d3 V3 h3) V2 h2) V1 hs
set_option maxHeartbeats 4000000 in
set_option maxRecDepth 100000 in
theorem c_tw_MO_bx0 (l : Launch) (D : va_G) (cB cI : ClassId) (aM aMst aMdcs aMtot aMfrm aMsiz aMffr aMfsz aMlkd aMlat aMkkd aMkat aModr aMgrp aMikd aMiat : Nat) (fu : Nat) (thr : Int32) (tpd : Int32) (frs : Int32) (frt : Int32) (top : Int32) (bgn : Int32) (mst : Int32) (ovr : Bool) (tgr : Bool) (lvs : Int32) (its : Int32) (hgh : Int64) (loo : Int64) (dfl : Bool) (st : Nat → Int32) (z0 z1 z2 z3 : Int32) (V1 : Bool) (hs : tw_MO_bx0 fu st z0 z1 z2 z3 = some V1) : Met l y_MO_isBox mw_MO_isBox { frames := 288, cells := 0, slots := 0, locals := 8640 } (va_Pc [.ref aM, .int z0, .int z1, .int z2, .int z3] (fun U => va_P D vwCl [(aM, .inr (11, [.int thr, .ref aMst, .int tpd, .ref aMdcs, .ref aMtot, .ref aMfrm, .ref aMsiz, .int frs, .int frt, .ref aMffr, .ref aMfsz, .int top, .int bgn, .int mst, .int (b2i ovr), .int (b2i tgr), .int lvs, .ref aMlkd, .ref aMlat, .ref aMkkd, .ref aMkat, .ref aModr, .ref aMgrp, .int its, .ref aMikd, .ref aMiat, .long hgh, .long loo, .int (b2i dfl)])), (aMst, .inl (cI, 136400, .inl st))] U.heap ∧ hk_ D cB cI U)) (vp_Si (fun r => r = b2i V1)) 0 0 (fun _ => False) := c_tw_MO_bx l D cB cI aM aMst aMdcs aMtot aMfrm aMsiz aMffr aMfsz aMlkd aMlat aMkkd aMkat aModr aMgrp aMikd aMiat fu thr tpd frs frt top bgn mst ovr tgr lvs its hgh loo dfl st 18 z0 z1 z2 z3 V1 hs

set_option maxHeartbeats 4000000 in
set_option maxRecDepth 100000 in
theorem c_MO_isDocument (l : Launch) (D : va_G) (cB cI : ClassId) (aM aMst aMdcs aMtot aMfrm aMsiz aMffr aMfsz aMlkd aMlat aMkkd aMkat aModr aMgrp aMikd aMiat : Nat) (fu : Nat) (thr : Int32) (tpd : Int32) (frs : Int32) (frt : Int32) (top : Int32) (bgn : Int32) (mst : Int32) (ovr : Bool) (tgr : Bool) (lvs : Int32) (its : Int32) (hgh : Int64) (loo : Int64) (dfl : Bool) (st : Nat → Int32) (p0 : Int32) (V0 : Bool) (hs : tw_MO_isDocument fu st p0 = some V0) : Met l y_MO_isDocument mw_MO_isDocument { frames := 289, cells := 0, slots := 0, locals := 8668 } (va_Pc [.ref aM, .int p0] (fun U => va_P D vwCl [(aM, .inr (11, [.int thr, .ref aMst, .int tpd, .ref aMdcs, .ref aMtot, .ref aMfrm, .ref aMsiz, .int frs, .int frt, .ref aMffr, .ref aMfsz, .int top, .int bgn, .int mst, .int (b2i ovr), .int (b2i tgr), .int lvs, .ref aMlkd, .ref aMlat, .ref aMkkd, .ref aMkat, .ref aModr, .ref aMgrp, .int its, .ref aMikd, .ref aMiat, .long hgh, .long loo, .int (b2i dfl)])), (aMst, .inl (cI, 136400, .inl st))] U.heap ∧ hk_ D cB cI U)) (vp_Si (fun r => r = b2i V0)) 0 0 (fun _ => False) := by
  refine Met.ofW (cc := b_MO_isDocument) (maxL := 2) (ret := (some .boolean)) (by decide) rfl ?_
  intro p e s m args below meth c s₁ B0 hml hv
  obtain ⟨rfl, hP, hk⟩ := hv
  have hK := hk.1
  have hN := hk.2.1
  have hx := B0.exec
  have hb := B0.bytes
  have hr := B0.returns
  have hT : ∀ w ∈ lw_g, w.before _ s = true := fun w h => atoms_spec (ws := mw_MO_isDocument) B0.pre w (List.mem_cons_of_mem _ h)
  have hown : s.vm.findClass R_MO = some m.cls := findClass_of_methodNamed B0.named
  have hlocks := B0.notSynchronized
  have hl := lv_entry ([.ref aM, .int p0]) (n := 2) (Nat.le_of_ble_eq_true rfl)
  rw [lg_entry_eq]
  generalize (lg_sl ([.ref aM, .int p0]) ++ List.replicate (2 - (lg_sl ([.ref aM, .int p0])).length) Slot.unset).toArray = ls at hl ⊢
  have hl : lv_has ls 2 [(0, .ref aM), (1, .int p0)] := hl
  refine lv_iload_n hx hb d_MO_isDocument_0 rfl (lv_at hl 1 rfl) ?_
  refine lv_iconst (v := 4) hx hb d_MO_isDocument_1 (by decide) ?_
  refine lv_icmp_le (tgt := 34) hx hb d_MO_isDocument_2 (by decide) (fun c_1 => ?_) (fun c_1 => ?_)
  · refine lv_iconst (v := 0) hx hb d_MO_isDocument_34 (by decide) ?_
    exact W.zret (v := 0) (ty := .boolean) hx hb hr (rfl) (fun t ht hW => ⟨0, rfl, (op_b (x := false) hs (by rw [tw_MO_isDocument, if_pos c_1])), ht⟩) (fun _ h => by cases h) d_MO_isDocument_35
  · refine lv_aload_n hx hb d_MO_isDocument_5 rfl (lv_at hl 0 rfl) ?_
    refine lv_ldc (v := 132400) hx hb hown (hT _ k_1139) d_MO_isDocument_6 ?_
    rcases h_2 : tw_MO_whole fu st 132400 with _ | r_2
    · exact op_no hs (by rw [tw_MO_isDocument, if_neg c_1, h_2, ob1_no])
    refine rd_V (val := r_2) (As := [.int 132400]) (rest := []) ⟨hx, hb, hml, hown, hT⟩ (c_MO_whole l D cB cI aM aMst aMdcs aMtot aMfrm aMsiz aMffr aMfsz aMlkd aMlat aMkkd aMkat aModr aMgrp aMikd aMiat fu thr tpd frs frt top bgn mst ovr tgr lvs its hgh loo dfl st 132400 r_2 h_2) (cwV 1 hT (gV_of k_1148 k_1150 kp_MO_whole k_12 kc_MO_whole) rfl rfl rfl hd_MO_whole ⟨Nat.le_of_ble_eq_true rfl, Nat.le_of_ble_eq_true rfl⟩) hk hP (q0 := 0) rfl rfl rfl rfl hl.1 rfl (Nat.le_of_ble_eq_true rfl) d_MO_isDocument_8 ⟨Nat.zero_le _, Nat.zero_le _⟩ ?_
    refine lv_iload_n hx hb d_MO_isDocument_11 rfl (lv_at hl 1 rfl) ?_
    refine lv_icmp_ne (tgt := 34) hx hb d_MO_isDocument_12 (by decide) (fun c_3 => ?_) (fun c_3 => ?_)
    · refine lv_iconst (v := 0) hx hb d_MO_isDocument_34 (by decide) ?_
      exact W.zret (v := 0) (ty := .boolean) hx hb hr (rfl) (fun t ht hW => ⟨0, rfl, (op_b (x := false) hs (by rw [tw_MO_isDocument, if_neg c_1, h_2, ob1_mk, if_neg c_3])), ht⟩) (fun _ h => by cases h) d_MO_isDocument_35
    · refine lv_aload_n hx hb d_MO_isDocument_15 rfl (lv_at hl 0 rfl) ?_
      refine lv_ldc (v := 132400) hx hb hown (hT _ k_1139) d_MO_isDocument_16 ?_
      refine lv_ldc (v := 132400) hx hb hown (hT _ k_1139) d_MO_isDocument_18 ?_
      refine lv_iload_n hx hb d_MO_isDocument_20 rfl (lv_at hl 1 rfl) ?_
      refine lv_iadd hx hb d_MO_isDocument_21 ?_
      refine lv_iconst (v := 0) hx hb d_MO_isDocument_22 (by decide) ?_
      refine lv_iconst (v := 1) hx hb d_MO_isDocument_23 (by decide) ?_
      rcases h_4 : tw_MO_bx0 fu st 132400 (132400 + p0) 0 1 with _ | r_4
      · exact op_no hs (by rw [tw_MO_isDocument, if_neg c_1, h_2, ob1_mk, if_pos c_3, h_4, ob1_no])
      refine rd_V (val := b2i r_4) (As := [.int 132400, .int (132400 + p0), .int 0, .int 1]) (rest := []) ⟨hx, hb, hml, hown, hT⟩ (c_tw_MO_bx0 l D cB cI aM aMst aMdcs aMtot aMfrm aMsiz aMffr aMfsz aMlkd aMlat aMkkd aMkat aModr aMgrp aMikd aMiat fu thr tpd frs frt top bgn mst ovr tgr lvs its hgh loo dfl st 132400 (132400 + p0) 0 1 r_4 h_4) (cwV 4 hT (gV_of k_1154 k_1156 kp_MO_isBox k_12 kc_MO_isBox) rfl rfl rfl hd_MO_isBox ⟨Nat.le_of_ble_eq_true rfl, Nat.le_of_ble_eq_true rfl⟩) hk hP (q0 := 0) rfl rfl rfl rfl hl.1 rfl (Nat.le_of_ble_eq_true rfl) d_MO_isDocument_24 ⟨Nat.zero_le _, Nat.zero_le _⟩ ?_
      refine lv_if_eq (tgt := 34) hx hb d_MO_isDocument_27 (by decide) (fun c_5 => ?_) (fun c_5 => ?_)
      · refine lv_iconst (v := 0) hx hb d_MO_isDocument_34 (by decide) ?_
        exact W.zret (v := 0) (ty := .boolean) hx hb hr (rfl) (fun t ht hW => ⟨0, rfl, (op_b (x := false) hs (by rw [tw_MO_isDocument, if_neg c_1, h_2, ob1_mk, if_pos c_3, h_4, ob1_mk, if_pos c_5])), ht⟩) (fun _ h => by cases h) d_MO_isDocument_35
      · refine lv_iconst (v := 1) hx hb d_MO_isDocument_30 (by decide) ?_
        refine lv_goto (tgt := 35) hx hb d_MO_isDocument_31 (by decide) ?_
        exact W.zret (v := 1) (ty := .boolean) hx hb hr (rfl) (fun t ht hW => ⟨1, rfl, (op_b (x := true) hs (by rw [tw_MO_isDocument, if_neg c_1, h_2, ob1_mk, if_pos c_3, h_4, ob1_mk, if_neg c_5])), ht⟩) (fun _ h => by cases h) d_MO_isDocument_35
abbrev wd_MO_leavesOf (aM aMst aMdcs aMtot aMfrm aMsiz aMffr aMfsz aMlkd aMlat aMkkd aMkat aModr aMgrp aMikd aMiat : Nat) (cB cI : ClassId) (thr : Int32) (tpd : Int32) (frs : Int32) (frt : Int32) (top : Int32) (bgn : Int32) (mst : Int32) (ovr : Bool) (tgr : Bool) (its : Int32) (hgh : Int64) (loo : Int64) (dfl : Bool) (st : Nat → Int32) (lvs : Int32) (lkd : Nat → Int32) (lat : Nat → Int32) : va_W := [(aM, .inr (11, [.int thr, .ref aMst, .int tpd, .ref aMdcs, .ref aMtot, .ref aMfrm, .ref aMsiz, .int frs, .int frt, .ref aMffr, .ref aMfsz, .int top, .int bgn, .int mst, .int (b2i ovr), .int (b2i tgr), .int lvs, .ref aMlkd, .ref aMlat, .ref aMkkd, .ref aMkat, .ref aModr, .ref aMgrp, .int its, .ref aMikd, .ref aMiat, .long hgh, .long loo, .int (b2i dfl)])), (aMst, .inl (cI, 136400, .inl st)), (aMlkd, .inl (cI, 60000, .inl lkd)), (aMlat, .inl (cI, 60000, .inl lat))]
set_option maxHeartbeats 4000000 in
set_option maxRecDepth 100000 in
theorem l_MO_leavesOf_r123 {p : Program} {e : Env} {s : State} {m : MethodId} {args : Array Value} {below : List Frame} {meth : Method} {c : Code} {V : Option (Int32 × (Nat → Int32) × (Nat → Int32))} {V0 : Int32 × (Nat → Int32) × (Nat → Int32)} (C0 : lc_C p s m meth c args b_MO_leavesOf 6 none R_MO lw_g) (hs : V = some V0) (l : Launch) (D : va_G) (cB cI : ClassId) (aM aMst aMdcs aMtot aMfrm aMsiz aMffr aMfsz aMlkd aMlat aMkkd aMkat aModr aMgrp aMikd aMiat : Nat) (rF : Nat) (rL : Nat) (fu : Nat) (fl : Int32 → (Nat → Int32) → (Nat → Int32) → Int32 → Int32 → Int32 → Option (Int32 × (Nat → Int32) × (Nat → Int32))) (thr : Int32) (tpd : Int32) (frs : Int32) (frt : Int32) (top : Int32) (bgn : Int32) (mst : Int32) (ovr : Bool) (tgr : Bool) (its : Int32) (hgh : Int64) (loo : Int64) (dfl : Bool) (st : Nat → Int32)  {A : Nat → Prop} (hk : hk_ D cB cI s) (hA : ∀ q : Nat, s.heap.size ≤ q → A q) (x2 : Int32) (x3 : Int32) (x4 : Int32) (lvs : Int32) (lkd : Nat → Int32) (lat : Nat → Int32) (hfl : ∀ (sz : Nat) (lvs : Int32) (lkd : Nat → Int32) (lat : Nat → Int32) (z0 z1 z2 : Int32) (V1 : Int32 × (Nat → Int32) × (Nat → Int32)), fl lvs lkd lat z0 z1 z2 = some V1 → Met l y_MO_leavesOf mw_MO_leavesOf { frames := rF, cells := 0, slots := 0, locals := rL } (va_Pc [.ref aM, .int z0, .int z1, .int z2] (mt_P D cB cI (wd_MO_leavesOf aM aMst aMdcs aMtot aMfrm aMsiz aMffr aMfsz aMlkd aMlat aMkkd aMkat aModr aMgrp aMikd aMiat cB cI thr tpd frs frt top bgn mst ovr tgr its hgh loo dfl st lvs lkd lat) sz)) (va_Qv (fun (u : Int32 × (Nat → Int32) × (Nat → Int32)) => u = V1) (mt_B D (va_A (wd_MO_leavesOf aM aMst aMdcs aMtot aMfrm aMsiz aMffr aMfsz aMlkd aMlat aMkkd aMkat aModr aMgrp aMikd aMiat cB cI thr tpd frs frt top bgn mst ovr tgr its hgh loo dfl st lvs lkd lat) sz) (fun u => wd_MO_leavesOf aM aMst aMdcs aMtot aMfrm aMsiz aMffr aMfsz aMlkd aMlat aMkkd aMkat aModr aMgrp aMikd aMiat cB cI thr tpd frs frt top bgn mst ovr tgr its hgh loo dfl st u.1 u.2.1 u.2.2)) (va_A (wd_MO_leavesOf aM aMst aMdcs aMtot aMfrm aMsiz aMffr aMfsz aMlkd aMlat aMkkd aMkat aModr aMgrp aMikd aMiat cB cI thr tpd frs frt top bgn mst ovr tgr its hgh loo dfl st lvs lkd lat) sz)) 0 0 (va_A (wd_MO_leavesOf aM aMst aMdcs aMtot aMfrm aMsiz aMffr aMfsz aMlkd aMlat aMkkd aMkat aModr aMgrp aMikd aMiat cB cI thr tpd frs frt top bgn mst ovr tgr its hgh loo dfl st lvs lkd lat) sz)) {K : Int32 → (Nat → Int32) → (Nat → Int32) → Option (Int32 × (Nat → Int32) × (Nat → Int32))} (hKx : ∀ (lvs' : Int32) (lkd' : Nat → Int32) (lat' : Nat → Int32), V = K lvs' lkd' lat' → ∀ (H : Heap) (locs : List Loc), va_P D vwCl [(aM, .inr (11, [.int thr, .ref aMst, .int tpd, .ref aMdcs, .ref aMtot, .ref aMfrm, .ref aMsiz, .int frs, .int frt, .ref aMffr, .ref aMfsz, .int top, .int bgn, .int mst, .int (b2i ovr), .int (b2i tgr), .int lvs', .ref aMlkd, .ref aMlat, .ref aMkkd, .ref aMkat, .ref aModr, .ref aMgrp, .int its, .ref aMikd, .ref aMiat, .long hgh, .long loo, .int (b2i dfl)])), (aMst, .inl (cI, 136400, .inl st)), (aMlkd, .inl (cI, 60000, .inl lkd')), (aMlat, .inl (cI, 60000, .inl lat'))] H → va_D A [(aM, .inr (11, [.int thr, .ref aMst, .int tpd, .ref aMdcs, .ref aMtot, .ref aMfrm, .ref aMsiz, .int frs, .int frt, .ref aMffr, .ref aMfsz, .int top, .int bgn, .int mst, .int (b2i ovr), .int (b2i tgr), .int lvs', .ref aMlkd, .ref aMlat, .ref aMkkd, .ref aMkat, .ref aModr, .ref aMgrp, .int its, .ref aMikd, .ref aMiat, .long hgh, .long loo, .int (b2i dfl)])), (aMst, .inl (cI, 136400, .inl st)), (aMlkd, .inl (cI, 60000, .inl lkd')), (aMlat, .inl (cI, 60000, .inl lat'))] → va_S A s.heap H locs → ∀ ls : Array Slot, lv_has ls 6 [(0, .ref aM), (2, .int x2), (3, .int x3)] → W p l e ({ frames := rF + 8, cells := 0, slots := 0, locals := rL + 240 }) s m args below meth c H locs 0 0 (MQ below (va_Qv (fun (u : Int32 × (Nat → Int32) × (Nat → Int32)) => u = V0) (mt_B D A (fun u => wd_MO_leavesOf aM aMst aMdcs aMtot aMfrm aMsiz aMffr aMfsz aMlkd aMlat aMkkd aMkat aModr aMgrp aMikd aMiat cB cI thr tpd frs frt top bgn mst ovr tgr its hgh loo dfl st u.1 u.2.1 u.2.2)) A) args s 0 0 A) (F0 m 150 ls [])) (hV : V = tw_MO_leavesOf_r123 fu fl st K x2 x3 x4 lvs lkd lat) : ∀ (H : Heap) (locs : List Loc), va_P D vwCl [(aM, .inr (11, [.int thr, .ref aMst, .int tpd, .ref aMdcs, .ref aMtot, .ref aMfrm, .ref aMsiz, .int frs, .int frt, .ref aMffr, .ref aMfsz, .int top, .int bgn, .int mst, .int (b2i ovr), .int (b2i tgr), .int lvs, .ref aMlkd, .ref aMlat, .ref aMkkd, .ref aMkat, .ref aModr, .ref aMgrp, .int its, .ref aMikd, .ref aMiat, .long hgh, .long loo, .int (b2i dfl)])), (aMst, .inl (cI, 136400, .inl st)), (aMlkd, .inl (cI, 60000, .inl lkd)), (aMlat, .inl (cI, 60000, .inl lat))] H → va_D A [(aM, .inr (11, [.int thr, .ref aMst, .int tpd, .ref aMdcs, .ref aMtot, .ref aMfrm, .ref aMsiz, .int frs, .int frt, .ref aMffr, .ref aMfsz, .int top, .int bgn, .int mst, .int (b2i ovr), .int (b2i tgr), .int lvs, .ref aMlkd, .ref aMlat, .ref aMkkd, .ref aMkat, .ref aModr, .ref aMgrp, .int its, .ref aMikd, .ref aMiat, .long hgh, .long loo, .int (b2i dfl)])), (aMst, .inl (cI, 136400, .inl st)), (aMlkd, .inl (cI, 60000, .inl lkd)), (aMlat, .inl (cI, 60000, .inl lat))] → va_S A s.heap H locs → ∀ ls : Array Slot, lv_has ls 6 [(0, .ref aM), (2, .int x2), (3, .int x3), (4, .int x4)] → W p l e ({ frames := rF + 8, cells := 0, slots := 0, locals := rL + 240 }) s m args below meth c H locs 0 0 (MQ below (va_Qv (fun (u : Int32 × (Nat → Int32) × (Nat → Int32)) => u = V0) (mt_B D A (fun u => wd_MO_leavesOf aM aMst aMdcs aMtot aMfrm aMsiz aMffr aMfsz aMlkd aMlat aMkkd aMkat aModr aMgrp aMikd aMiat cB cI thr tpd frs frt top bgn mst ovr tgr its hgh loo dfl st u.1 u.2.1 u.2.2)) A) args s 0 0 A) (F0 m 123 ls []) := by
  obtain ⟨hx, hb, hml, hr, hown, hlocks, hT⟩ := id C0
  have hK := hk.1
  have hN := hk.2.1
  intro H locs hP hD hS ls hl
  refine lv_iload hx hb d_MO_leavesOf_123 (lv_at hl 3 rfl) ?_
  refine lv_if_le (tgt := 150) hx hb d_MO_leavesOf_125 (by decide) (fun c_6 => ?_) (fun c_6 => ?_)
  · exact hKx lvs lkd lat (by rw [hV, tw_MO_leavesOf_r123, if_pos c_6]) _ _ hP hD hS ls (lv_sub hl [0, 1, 2] rfl)
  · refine lv_aload_n hx hb d_MO_leavesOf_128 rfl (lv_at hl 0 rfl) ?_
    refine lv_aload_n hx hb d_MO_leavesOf_129 rfl (lv_at hl 0 rfl) ?_
    refine va_get (D := D) (ci := 11) (v := .ref aMst) (C := R_MO) (T := T_MO) (N := 29) hx hb hT u_MO hown hK hP 0 rfl rfl 1 (by decide) (hT _ k_1044) (fun _ h9 => h9) rfl d_MO_leavesOf_130 ?_
    refine lv_iload hx hb d_MO_leavesOf_133 (lv_at hl 3 rfl) ?_
    by_cases c_7 : 0 ≤ x4 ∧ x4 < 136400
    rotate_left
    · exact op_no hs (by rw [hV, tw_MO_leavesOf_r123, if_neg c_6, if_neg c_7])
    refine va_iald hx hb hK hP 1 1 rfl rfl (in_pp c_7.1 c_7.2 rfl) d_MO_leavesOf_135 ?_
    refine lv_aload_n hx hb d_MO_leavesOf_136 rfl (lv_at hl 0 rfl) ?_
    refine lv_iload hx hb d_MO_leavesOf_137 (lv_at hl 3 rfl) ?_
    rcases h_8 : tw_MO_valueOf fu st x4 with _ | r_8
    · exact op_no hs (by rw [hV, tw_MO_leavesOf_r123, if_neg c_6, if_pos c_7, h_8, ob1_no])
    refine rd_V (val := r_8) (As := [.int x4]) (rest := [.int (st x4.toNatClampNeg), .ref aM]) ⟨hx, hb, hml, hown, hT⟩ (c_MO_valueOf l D cB cI aM aMst aMdcs aMtot aMfrm aMsiz aMffr aMfsz aMlkd aMlat aMkkd aMkat aModr aMgrp aMikd aMiat fu thr tpd frs frt top bgn mst ovr tgr lvs its hgh loo dfl st x4 r_8 h_8) (cwV 1 hT (gV_of k_1182 k_1184 kp_MO_valueOf k_12 kc_MO_valueOf) rfl rfl rfl hd_MO_valueOf ⟨rl_s (Nat.le_of_ble_eq_true rfl), rl_s (Nat.le_of_ble_eq_true rfl)⟩) hk (hP.sub (ws' := [(aM, .inr (11, [.int thr, .ref aMst, .int tpd, .ref aMdcs, .ref aMtot, .ref aMfrm, .ref aMsiz, .int frs, .int frt, .ref aMffr, .ref aMfsz, .int top, .int bgn, .int mst, .int (b2i ovr), .int (b2i tgr), .int lvs, .ref aMlkd, .ref aMlat, .ref aMkkd, .ref aMkat, .ref aModr, .ref aMgrp, .int its, .ref aMikd, .ref aMiat, .long hgh, .long loo, .int (b2i dfl)])), (aMst, .inl (cI, 136400, .inl st))]) [0, 1] rfl) (q0 := 0) rfl rfl rfl rfl hl.1 rfl (Nat.le_of_ble_eq_true rfl) d_MO_leavesOf_139 ⟨Nat.zero_le _, Nat.zero_le _⟩ ?_
    refine lv_aload_n hx hb d_MO_leavesOf_142 rfl (lv_at hl 0 rfl) ?_
    refine lv_iload_n hx hb d_MO_leavesOf_143 rfl (lv_at hl 2 rfl) ?_
    rcases h_9 : tw_MO_nextStep fu st x3 with _ | r_9
    · exact op_no hs (by rw [hV, tw_MO_leavesOf_r123, if_neg c_6, if_pos c_7, h_8, ob1_mk, h_9, ob1_no])
    refine rd_V (val := r_9) (As := [.int x3]) (rest := [.int r_8, .int (st x4.toNatClampNeg), .ref aM]) ⟨hx, hb, hml, hown, hT⟩ (c_MO_nextStep l D cB cI aM aMst aMdcs aMtot aMfrm aMsiz aMffr aMfsz aMlkd aMlat aMkkd aMkat aModr aMgrp aMikd aMiat fu thr tpd frs frt top bgn mst ovr tgr lvs its hgh loo dfl st x3 r_9 h_9) (cwV 1 hT (gV_of k_1363 k_1365 kp_MO_nextStep k_12 kc_MO_nextStep) rfl rfl rfl hd_MO_nextStep ⟨rl_s (Nat.le_of_ble_eq_true rfl), rl_s (Nat.le_of_ble_eq_true rfl)⟩) hk (hP.sub (ws' := [(aM, .inr (11, [.int thr, .ref aMst, .int tpd, .ref aMdcs, .ref aMtot, .ref aMfrm, .ref aMsiz, .int frs, .int frt, .ref aMffr, .ref aMfsz, .int top, .int bgn, .int mst, .int (b2i ovr), .int (b2i tgr), .int lvs, .ref aMlkd, .ref aMlat, .ref aMkkd, .ref aMkat, .ref aModr, .ref aMgrp, .int its, .ref aMikd, .ref aMiat, .long hgh, .long loo, .int (b2i dfl)])), (aMst, .inl (cI, 136400, .inl st))]) [0, 1] rfl) (q0 := 0) rfl rfl rfl rfl hl.1 rfl (Nat.le_of_ble_eq_true rfl) d_MO_leavesOf_144 ⟨Nat.zero_le _, Nat.zero_le _⟩ ?_
    rcases h_10 : fl lvs lkd lat (st x4.toNatClampNeg) r_8 r_9 with _ | w_10
    · exact op_no hs (by rw [hV, tw_MO_leavesOf_r123, if_neg c_6, if_pos c_7, h_8, ob1_mk, h_9, ob1_mk, h_10, ob3_no])
    refine mt_Vv (As := [.int (st x4.toNatClampNeg), .int r_8, .int r_9]) (rest := []) (wr := []) ⟨hx, hb, hml, hown, hT⟩ (hfl _ lvs lkd lat (st x4.toNatClampNeg) r_8 r_9 w_10 h_10) (cwV 3 hT (gV_of k_1452 k_1454 kp_MO_leavesOf k_12 kc_MO_leavesOf) rfl rfl rfl hd_MO_leavesOf ⟨rl_f (Nat.le_of_ble_eq_true rfl), rl_l (Nat.le_of_ble_eq_true rfl)⟩) hk hP hD hS hA [0, 1, 2, 3] [] rfl rfl rfl (by decide) (by decide) (by decide) (q0 := 0) rfl rfl rfl rfl hl.1 rfl (Nat.le_of_ble_eq_true rfl) d_MO_leavesOf_147 ⟨Nat.zero_le _, Nat.zero_le _⟩ (fun u_10 H locs hw_10 hP hD hS => ?_)
    subst hw_10
    obtain ⟨lvs_10, lkd_10, lat_10⟩ := u_10
    have hP : va_P D vwCl [(aM, .inr (11, [.int thr, .ref aMst, .int tpd, .ref aMdcs, .ref aMtot, .ref aMfrm, .ref aMsiz, .int frs, .int frt, .ref aMffr, .ref aMfsz, .int top, .int bgn, .int mst, .int (b2i ovr), .int (b2i tgr), .int lvs_10, .ref aMlkd, .ref aMlat, .ref aMkkd, .ref aMkat, .ref aModr, .ref aMgrp, .int its, .ref aMikd, .ref aMiat, .long hgh, .long loo, .int (b2i dfl)])), (aMst, .inl (cI, 136400, .inl st)), (aMlkd, .inl (cI, 60000, .inl lkd_10)), (aMlat, .inl (cI, 60000, .inl lat_10))] H := hP.sub [0, 1, 2, 3] rfl
    have hD : va_D A [(aM, .inr (11, [.int thr, .ref aMst, .int tpd, .ref aMdcs, .ref aMtot, .ref aMfrm, .ref aMsiz, .int frs, .int frt, .ref aMffr, .ref aMfsz, .int top, .int bgn, .int mst, .int (b2i ovr), .int (b2i tgr), .int lvs_10, .ref aMlkd, .ref aMlat, .ref aMkkd, .ref aMkat, .ref aModr, .ref aMgrp, .int its, .ref aMikd, .ref aMiat, .long hgh, .long loo, .int (b2i dfl)])), (aMst, .inl (cI, 136400, .inl st)), (aMlkd, .inl (cI, 60000, .inl lkd_10)), (aMlat, .inl (cI, 60000, .inl lat_10))] := hD.sub [0, 1, 2, 3] (by decide) rfl
    exact hKx lvs_10 lkd_10 lat_10 (by rw [hV, tw_MO_leavesOf_r123, if_neg c_6, if_pos c_7, h_8, ob1_mk, h_9, ob1_mk, h_10, ob3_mk]) _ _ hP hD hS ls (lv_sub hl [0, 1, 2] rfl)
set_option maxHeartbeats 4000000 in
set_option maxRecDepth 100000 in
theorem l_MO_leavesOf_r162 {p : Program} {e : Env} {s : State} {m : MethodId} {args : Array Value} {below : List Frame} {meth : Method} {c : Code} {V : Option (Int32 × (Nat → Int32) × (Nat → Int32))} {V0 : Int32 × (Nat → Int32) × (Nat → Int32)} (C0 : lc_C p s m meth c args b_MO_leavesOf 6 none R_MO lw_g) (hs : V = some V0) (l : Launch) (D : va_G) (cB cI : ClassId) (aM aMst aMdcs aMtot aMfrm aMsiz aMffr aMfsz aMlkd aMlat aMkkd aMkat aModr aMgrp aMikd aMiat : Nat) (rF : Nat) (rL : Nat) (fu : Nat) (fl : Int32 → (Nat → Int32) → (Nat → Int32) → Int32 → Int32 → Int32 → Option (Int32 × (Nat → Int32) × (Nat → Int32))) (thr : Int32) (tpd : Int32) (frs : Int32) (frt : Int32) (top : Int32) (bgn : Int32) (mst : Int32) (ovr : Bool) (tgr : Bool) (its : Int32) (hgh : Int64) (loo : Int64) (dfl : Bool) (st : Nat → Int32)  {A : Nat → Prop} (hk : hk_ D cB cI s) (hA : ∀ q : Nat, s.heap.size ≤ q → A q) (x3 : Int32) (x5 : Int32) (lvs : Int32) (lkd : Nat → Int32) (lat : Nat → Int32) (hfl : ∀ (sz : Nat) (lvs : Int32) (lkd : Nat → Int32) (lat : Nat → Int32) (z0 z1 z2 : Int32) (V1 : Int32 × (Nat → Int32) × (Nat → Int32)), fl lvs lkd lat z0 z1 z2 = some V1 → Met l y_MO_leavesOf mw_MO_leavesOf { frames := rF, cells := 0, slots := 0, locals := rL } (va_Pc [.ref aM, .int z0, .int z1, .int z2] (mt_P D cB cI (wd_MO_leavesOf aM aMst aMdcs aMtot aMfrm aMsiz aMffr aMfsz aMlkd aMlat aMkkd aMkat aModr aMgrp aMikd aMiat cB cI thr tpd frs frt top bgn mst ovr tgr its hgh loo dfl st lvs lkd lat) sz)) (va_Qv (fun (u : Int32 × (Nat → Int32) × (Nat → Int32)) => u = V1) (mt_B D (va_A (wd_MO_leavesOf aM aMst aMdcs aMtot aMfrm aMsiz aMffr aMfsz aMlkd aMlat aMkkd aMkat aModr aMgrp aMikd aMiat cB cI thr tpd frs frt top bgn mst ovr tgr its hgh loo dfl st lvs lkd lat) sz) (fun u => wd_MO_leavesOf aM aMst aMdcs aMtot aMfrm aMsiz aMffr aMfsz aMlkd aMlat aMkkd aMkat aModr aMgrp aMikd aMiat cB cI thr tpd frs frt top bgn mst ovr tgr its hgh loo dfl st u.1 u.2.1 u.2.2)) (va_A (wd_MO_leavesOf aM aMst aMdcs aMtot aMfrm aMsiz aMffr aMfsz aMlkd aMlat aMkkd aMkat aModr aMgrp aMikd aMiat cB cI thr tpd frs frt top bgn mst ovr tgr its hgh loo dfl st lvs lkd lat) sz)) 0 0 (va_A (wd_MO_leavesOf aM aMst aMdcs aMtot aMfrm aMsiz aMffr aMfsz aMlkd aMlat aMkkd aMkat aModr aMgrp aMikd aMiat cB cI thr tpd frs frt top bgn mst ovr tgr its hgh loo dfl st lvs lkd lat) sz)) {K : Int32 → (Nat → Int32) → (Nat → Int32) → Option (Int32 × (Nat → Int32) × (Nat → Int32))} (hKx : ∀ (lvs' : Int32) (lkd' : Nat → Int32) (lat' : Nat → Int32), V = K lvs' lkd' lat' → ∀ (H : Heap) (locs : List Loc), va_P D vwCl [(aM, .inr (11, [.int thr, .ref aMst, .int tpd, .ref aMdcs, .ref aMtot, .ref aMfrm, .ref aMsiz, .int frs, .int frt, .ref aMffr, .ref aMfsz, .int top, .int bgn, .int mst, .int (b2i ovr), .int (b2i tgr), .int lvs', .ref aMlkd, .ref aMlat, .ref aMkkd, .ref aMkat, .ref aModr, .ref aMgrp, .int its, .ref aMikd, .ref aMiat, .long hgh, .long loo, .int (b2i dfl)])), (aMst, .inl (cI, 136400, .inl st)), (aMlkd, .inl (cI, 60000, .inl lkd')), (aMlat, .inl (cI, 60000, .inl lat'))] H → va_D A [(aM, .inr (11, [.int thr, .ref aMst, .int tpd, .ref aMdcs, .ref aMtot, .ref aMfrm, .ref aMsiz, .int frs, .int frt, .ref aMffr, .ref aMfsz, .int top, .int bgn, .int mst, .int (b2i ovr), .int (b2i tgr), .int lvs', .ref aMlkd, .ref aMlat, .ref aMkkd, .ref aMkat, .ref aModr, .ref aMgrp, .int its, .ref aMikd, .ref aMiat, .long hgh, .long loo, .int (b2i dfl)])), (aMst, .inl (cI, 136400, .inl st)), (aMlkd, .inl (cI, 60000, .inl lkd')), (aMlat, .inl (cI, 60000, .inl lat'))] → va_S A s.heap H locs → ∀ ls : Array Slot, lv_has ls 6 [(0, .ref aM), (3, .int x3), (5, .int x5)] → W p l e ({ frames := rF + 8, cells := 0, slots := 0, locals := rL + 240 }) s m args below meth c H locs 0 0 (MQ below (va_Qv (fun (u : Int32 × (Nat → Int32) × (Nat → Int32)) => u = V0) (mt_B D A (fun u => wd_MO_leavesOf aM aMst aMdcs aMtot aMfrm aMsiz aMffr aMfsz aMlkd aMlat aMkkd aMkat aModr aMgrp aMikd aMiat cB cI thr tpd frs frt top bgn mst ovr tgr its hgh loo dfl st u.1 u.2.1 u.2.2)) A) args s 0 0 A) (F0 m 185 ls [])) (hV : V = tw_MO_leavesOf_r162 fu fl st K x3 x5 lvs lkd lat) : ∀ (H : Heap) (locs : List Loc), va_P D vwCl [(aM, .inr (11, [.int thr, .ref aMst, .int tpd, .ref aMdcs, .ref aMtot, .ref aMfrm, .ref aMsiz, .int frs, .int frt, .ref aMffr, .ref aMfsz, .int top, .int bgn, .int mst, .int (b2i ovr), .int (b2i tgr), .int lvs, .ref aMlkd, .ref aMlat, .ref aMkkd, .ref aMkat, .ref aModr, .ref aMgrp, .int its, .ref aMikd, .ref aMiat, .long hgh, .long loo, .int (b2i dfl)])), (aMst, .inl (cI, 136400, .inl st)), (aMlkd, .inl (cI, 60000, .inl lkd)), (aMlat, .inl (cI, 60000, .inl lat))] H → va_D A [(aM, .inr (11, [.int thr, .ref aMst, .int tpd, .ref aMdcs, .ref aMtot, .ref aMfrm, .ref aMsiz, .int frs, .int frt, .ref aMffr, .ref aMfsz, .int top, .int bgn, .int mst, .int (b2i ovr), .int (b2i tgr), .int lvs, .ref aMlkd, .ref aMlat, .ref aMkkd, .ref aMkat, .ref aModr, .ref aMgrp, .int its, .ref aMikd, .ref aMiat, .long hgh, .long loo, .int (b2i dfl)])), (aMst, .inl (cI, 136400, .inl st)), (aMlkd, .inl (cI, 60000, .inl lkd)), (aMlat, .inl (cI, 60000, .inl lat))] → va_S A s.heap H locs → ∀ ls : Array Slot, lv_has ls 6 [(0, .ref aM), (3, .int x3), (5, .int x5)] → W p l e ({ frames := rF + 8, cells := 0, slots := 0, locals := rL + 240 }) s m args below meth c H locs 0 0 (MQ below (va_Qv (fun (u : Int32 × (Nat → Int32) × (Nat → Int32)) => u = V0) (mt_B D A (fun u => wd_MO_leavesOf aM aMst aMdcs aMtot aMfrm aMsiz aMffr aMfsz aMlkd aMlat aMkkd aMkat aModr aMgrp aMikd aMiat cB cI thr tpd frs frt top bgn mst ovr tgr its hgh loo dfl st u.1 u.2.1 u.2.2)) A) args s 0 0 A) (F0 m 162 ls []) := by
  obtain ⟨hx, hb, hml, hr, hown, hlocks, hT⟩ := id C0
  have hK := hk.1
  have hN := hk.2.1
  intro H locs hP hD hS ls hl
  refine lv_aload_n hx hb d_MO_leavesOf_162 rfl (lv_at hl 0 rfl) ?_
  refine va_get (D := D) (ci := 11) (v := .ref aMst) (C := R_MO) (T := T_MO) (N := 29) hx hb hT u_MO hown hK hP 0 rfl rfl 1 (by decide) (hT _ k_1044) (fun _ h9 => h9) rfl d_MO_leavesOf_163 ?_
  refine lv_iload hx hb d_MO_leavesOf_166 (lv_at hl 2 rfl) ?_
  by_cases c_14 : 0 ≤ x5 ∧ x5 < 136400
  rotate_left
  · exact op_no hs (by rw [hV, tw_MO_leavesOf_r162, if_neg c_14])
  refine va_iald hx hb hK hP 1 1 rfl rfl (in_pp c_14.1 c_14.2 rfl) d_MO_leavesOf_168 ?_
  refine lv_iconst (v := 3) hx hb d_MO_leavesOf_169 (by decide) ?_
  refine lv_icmp_ne (tgt := 185) hx hb d_MO_leavesOf_170 (by decide) (fun c_15 => ?_) (fun c_15 => ?_)
  · exact hKx lvs lkd lat (by rw [hV, tw_MO_leavesOf_r162, if_pos c_14, if_neg c_15]) _ _ hP hD hS ls (lv_sub hl [0, 1, 2] rfl)
  · refine lv_aload_n hx hb d_MO_leavesOf_173 rfl (lv_at hl 0 rfl) ?_
    refine lv_iconst (v := 3) hx hb d_MO_leavesOf_174 (by decide) ?_
    refine lv_aload_n hx hb d_MO_leavesOf_175 rfl (lv_at hl 0 rfl) ?_
    refine lv_iload hx hb d_MO_leavesOf_176 (lv_at hl 2 rfl) ?_
    rcases h_16 : tw_MO_valueOf fu st x5 with _ | r_16
    · exact op_no hs (by rw [hV, tw_MO_leavesOf_r162, if_pos c_14, if_pos c_15, h_16, ob1_no])
    refine rd_V (val := r_16) (As := [.int x5]) (rest := [.int 3, .ref aM]) ⟨hx, hb, hml, hown, hT⟩ (c_MO_valueOf l D cB cI aM aMst aMdcs aMtot aMfrm aMsiz aMffr aMfsz aMlkd aMlat aMkkd aMkat aModr aMgrp aMikd aMiat fu thr tpd frs frt top bgn mst ovr tgr lvs its hgh loo dfl st x5 r_16 h_16) (cwV 1 hT (gV_of k_1182 k_1184 kp_MO_valueOf k_12 kc_MO_valueOf) rfl rfl rfl hd_MO_valueOf ⟨rl_s (Nat.le_of_ble_eq_true rfl), rl_s (Nat.le_of_ble_eq_true rfl)⟩) hk (hP.sub (ws' := [(aM, .inr (11, [.int thr, .ref aMst, .int tpd, .ref aMdcs, .ref aMtot, .ref aMfrm, .ref aMsiz, .int frs, .int frt, .ref aMffr, .ref aMfsz, .int top, .int bgn, .int mst, .int (b2i ovr), .int (b2i tgr), .int lvs, .ref aMlkd, .ref aMlat, .ref aMkkd, .ref aMkat, .ref aModr, .ref aMgrp, .int its, .ref aMikd, .ref aMiat, .long hgh, .long loo, .int (b2i dfl)])), (aMst, .inl (cI, 136400, .inl st))]) [0, 1] rfl) (q0 := 0) rfl rfl rfl rfl hl.1 rfl (Nat.le_of_ble_eq_true rfl) d_MO_leavesOf_178 ⟨Nat.zero_le _, Nat.zero_le _⟩ ?_
    refine lv_iload_n hx hb d_MO_leavesOf_181 rfl (lv_at hl 1 rfl) ?_
    rcases h_17 : fl lvs lkd lat 3 r_16 x3 with _ | w_17
    · exact op_no hs (by rw [hV, tw_MO_leavesOf_r162, if_pos c_14, if_pos c_15, h_16, ob1_mk, h_17, ob3_no])
    refine mt_Vv (As := [.int 3, .int r_16, .int x3]) (rest := []) (wr := []) ⟨hx, hb, hml, hown, hT⟩ (hfl _ lvs lkd lat 3 r_16 x3 w_17 h_17) (cwV 3 hT (gV_of k_1452 k_1454 kp_MO_leavesOf k_12 kc_MO_leavesOf) rfl rfl rfl hd_MO_leavesOf ⟨rl_f (Nat.le_of_ble_eq_true rfl), rl_l (Nat.le_of_ble_eq_true rfl)⟩) hk hP hD hS hA [0, 1, 2, 3] [] rfl rfl rfl (by decide) (by decide) (by decide) (q0 := 0) rfl rfl rfl rfl hl.1 rfl (Nat.le_of_ble_eq_true rfl) d_MO_leavesOf_182 ⟨Nat.zero_le _, Nat.zero_le _⟩ (fun u_17 H locs hw_17 hP hD hS => ?_)
    subst hw_17
    obtain ⟨lvs_17, lkd_17, lat_17⟩ := u_17
    have hP : va_P D vwCl [(aM, .inr (11, [.int thr, .ref aMst, .int tpd, .ref aMdcs, .ref aMtot, .ref aMfrm, .ref aMsiz, .int frs, .int frt, .ref aMffr, .ref aMfsz, .int top, .int bgn, .int mst, .int (b2i ovr), .int (b2i tgr), .int lvs_17, .ref aMlkd, .ref aMlat, .ref aMkkd, .ref aMkat, .ref aModr, .ref aMgrp, .int its, .ref aMikd, .ref aMiat, .long hgh, .long loo, .int (b2i dfl)])), (aMst, .inl (cI, 136400, .inl st)), (aMlkd, .inl (cI, 60000, .inl lkd_17)), (aMlat, .inl (cI, 60000, .inl lat_17))] H := hP.sub [0, 1, 2, 3] rfl
    have hD : va_D A [(aM, .inr (11, [.int thr, .ref aMst, .int tpd, .ref aMdcs, .ref aMtot, .ref aMfrm, .ref aMsiz, .int frs, .int frt, .ref aMffr, .ref aMfsz, .int top, .int bgn, .int mst, .int (b2i ovr), .int (b2i tgr), .int lvs_17, .ref aMlkd, .ref aMlat, .ref aMkkd, .ref aMkat, .ref aModr, .ref aMgrp, .int its, .ref aMikd, .ref aMiat, .long hgh, .long loo, .int (b2i dfl)])), (aMst, .inl (cI, 136400, .inl st)), (aMlkd, .inl (cI, 60000, .inl lkd_17)), (aMlat, .inl (cI, 60000, .inl lat_17))] := hD.sub [0, 1, 2, 3] (by decide) rfl
    exact hKx lvs_17 lkd_17 lat_17 (by rw [hV, tw_MO_leavesOf_r162, if_pos c_14, if_pos c_15, h_16, ob1_mk, h_17, ob3_mk]) _ _ hP hD hS ls (lv_sub hl [0, 1, 2] rfl)
set_option maxHeartbeats 4000000 in
set_option maxRecDepth 100000 in
theorem l_MO_leavesOf_h157 {p : Program} {e : Env} {s : State} {m : MethodId} {args : Array Value} {below : List Frame} {meth : Method} {c : Code} {V : Option (Int32 × (Nat → Int32) × (Nat → Int32))} {V0 : Int32 × (Nat → Int32) × (Nat → Int32)} (C0 : lc_C p s m meth c args b_MO_leavesOf 6 none R_MO lw_g) (hs : V = some V0) (l : Launch) (D : va_G) (cB cI : ClassId) (aM aMst aMdcs aMtot aMfrm aMsiz aMffr aMfsz aMlkd aMlat aMkkd aMkat aModr aMgrp aMikd aMiat : Nat) (rF : Nat) (rL : Nat) (fu : Nat) (fl : Int32 → (Nat → Int32) → (Nat → Int32) → Int32 → Int32 → Int32 → Option (Int32 × (Nat → Int32) × (Nat → Int32))) (thr : Int32) (tpd : Int32) (frs : Int32) (frt : Int32) (top : Int32) (bgn : Int32) (mst : Int32) (ovr : Bool) (tgr : Bool) (its : Int32) (hgh : Int64) (loo : Int64) (dfl : Bool) (st : Nat → Int32) {A : Nat → Prop} (hk : hk_ D cB cI s) (hA : ∀ q : Nat, s.heap.size ≤ q → A q) (p2 : Int32) (hfl : ∀ (sz : Nat) (lvs : Int32) (lkd : Nat → Int32) (lat : Nat → Int32) (z0 z1 z2 : Int32) (V1 : Int32 × (Nat → Int32) × (Nat → Int32)), fl lvs lkd lat z0 z1 z2 = some V1 → Met l y_MO_leavesOf mw_MO_leavesOf { frames := rF, cells := 0, slots := 0, locals := rL } (va_Pc [.ref aM, .int z0, .int z1, .int z2] (mt_P D cB cI (wd_MO_leavesOf aM aMst aMdcs aMtot aMfrm aMsiz aMffr aMfsz aMlkd aMlat aMkkd aMkat aModr aMgrp aMikd aMiat cB cI thr tpd frs frt top bgn mst ovr tgr its hgh loo dfl st lvs lkd lat) sz)) (va_Qv (fun (u : Int32 × (Nat → Int32) × (Nat → Int32)) => u = V1) (mt_B D (va_A (wd_MO_leavesOf aM aMst aMdcs aMtot aMfrm aMsiz aMffr aMfsz aMlkd aMlat aMkkd aMkat aModr aMgrp aMikd aMiat cB cI thr tpd frs frt top bgn mst ovr tgr its hgh loo dfl st lvs lkd lat) sz) (fun u => wd_MO_leavesOf aM aMst aMdcs aMtot aMfrm aMsiz aMffr aMfsz aMlkd aMlat aMkkd aMkat aModr aMgrp aMikd aMiat cB cI thr tpd frs frt top bgn mst ovr tgr its hgh loo dfl st u.1 u.2.1 u.2.2)) (va_A (wd_MO_leavesOf aM aMst aMdcs aMtot aMfrm aMsiz aMffr aMfsz aMlkd aMlat aMkkd aMkat aModr aMgrp aMikd aMiat cB cI thr tpd frs frt top bgn mst ovr tgr its hgh loo dfl st lvs lkd lat) sz)) 0 0 (va_A (wd_MO_leavesOf aM aMst aMdcs aMtot aMfrm aMsiz aMffr aMfsz aMlkd aMlat aMkkd aMkat aModr aMgrp aMikd aMiat cB cI thr tpd frs frt top bgn mst ovr tgr its hgh loo dfl st lvs lkd lat) sz)) {K : Int32 → Int32 → (Nat → Int32) → (Nat → Int32) → Option (Int32 × (Nat → Int32) × (Nat → Int32))} (hKx : ∀ (x5 : Int32) (lvs : Int32) (lkd : Nat → Int32) (lat : Nat → Int32), V = K x5 lvs lkd lat → ∀ (H : Heap) (locs : List Loc), va_P D vwCl [(aM, .inr (11, [.int thr, .ref aMst, .int tpd, .ref aMdcs, .ref aMtot, .ref aMfrm, .ref aMsiz, .int frs, .int frt, .ref aMffr, .ref aMfsz, .int top, .int bgn, .int mst, .int (b2i ovr), .int (b2i tgr), .int lvs, .ref aMlkd, .ref aMlat, .ref aMkkd, .ref aMkat, .ref aModr, .ref aMgrp, .int its, .ref aMikd, .ref aMiat, .long hgh, .long loo, .int (b2i dfl)])), (aMst, .inl (cI, 136400, .inl st)), (aMlkd, .inl (cI, 60000, .inl lkd)), (aMlat, .inl (cI, 60000, .inl lat))] H → va_D A [(aM, .inr (11, [.int thr, .ref aMst, .int tpd, .ref aMdcs, .ref aMtot, .ref aMfrm, .ref aMsiz, .int frs, .int frt, .ref aMffr, .ref aMfsz, .int top, .int bgn, .int mst, .int (b2i ovr), .int (b2i tgr), .int lvs, .ref aMlkd, .ref aMlat, .ref aMkkd, .ref aMkat, .ref aModr, .ref aMgrp, .int its, .ref aMikd, .ref aMiat, .long hgh, .long loo, .int (b2i dfl)])), (aMst, .inl (cI, 136400, .inl st)), (aMlkd, .inl (cI, 60000, .inl lkd)), (aMlat, .inl (cI, 60000, .inl lat))] → va_S A s.heap H locs → ∀ ls : Array Slot, lv_has ls 6 [] → W p l e ({ frames := rF + 8, cells := 0, slots := 0, locals := rL + 240 }) s m args below meth c H locs 0 0 (MQ below (va_Qv (fun (u : Int32 × (Nat → Int32) × (Nat → Int32)) => u = V0) (mt_B D A (fun u => wd_MO_leavesOf aM aMst aMdcs aMtot aMfrm aMsiz aMffr aMfsz aMlkd aMlat aMkkd aMkat aModr aMgrp aMikd aMiat cB cI thr tpd frs frt top bgn mst ovr tgr its hgh loo dfl st u.1 u.2.1 u.2.2)) A) args s 0 0 A) (F0 m 196 ls [])) : ∀ (n : Nat) (x5 : Int32) (lvs : Int32) (lkd : Nat → Int32) (lat : Nat → Int32), V = tw_MO_leavesOf_h157 fu fl st K p2 n x5 lvs lkd lat → ∀ (H : Heap) (locs : List Loc), va_P D vwCl [(aM, .inr (11, [.int thr, .ref aMst, .int tpd, .ref aMdcs, .ref aMtot, .ref aMfrm, .ref aMsiz, .int frs, .int frt, .ref aMffr, .ref aMfsz, .int top, .int bgn, .int mst, .int (b2i ovr), .int (b2i tgr), .int lvs, .ref aMlkd, .ref aMlat, .ref aMkkd, .ref aMkat, .ref aModr, .ref aMgrp, .int its, .ref aMikd, .ref aMiat, .long hgh, .long loo, .int (b2i dfl)])), (aMst, .inl (cI, 136400, .inl st)), (aMlkd, .inl (cI, 60000, .inl lkd)), (aMlat, .inl (cI, 60000, .inl lat))] H → va_D A [(aM, .inr (11, [.int thr, .ref aMst, .int tpd, .ref aMdcs, .ref aMtot, .ref aMfrm, .ref aMsiz, .int frs, .int frt, .ref aMffr, .ref aMfsz, .int top, .int bgn, .int mst, .int (b2i ovr), .int (b2i tgr), .int lvs, .ref aMlkd, .ref aMlat, .ref aMkkd, .ref aMkat, .ref aModr, .ref aMgrp, .int its, .ref aMikd, .ref aMiat, .long hgh, .long loo, .int (b2i dfl)])), (aMst, .inl (cI, 136400, .inl st)), (aMlkd, .inl (cI, 60000, .inl lkd)), (aMlat, .inl (cI, 60000, .inl lat))] → va_S A s.heap H locs → ∀ ls : Array Slot, lv_has ls 6 [(0, .ref aM), (3, .int p2), (5, .int x5)] → W p l e ({ frames := rF + 8, cells := 0, slots := 0, locals := rL + 240 }) s m args below meth c H locs 0 0 (MQ below (va_Qv (fun (u : Int32 × (Nat → Int32) × (Nat → Int32)) => u = V0) (mt_B D A (fun u => wd_MO_leavesOf aM aMst aMdcs aMtot aMfrm aMsiz aMffr aMfsz aMlkd aMlat aMkkd aMkat aModr aMgrp aMikd aMiat cB cI thr tpd frs frt top bgn mst ovr tgr its hgh loo dfl st u.1 u.2.1 u.2.2)) A) args s 0 0 A) (F0 m 157 ls []) := by
  obtain ⟨hx, hb, hml, hr, hown, hlocks, hT⟩ := id C0
  have hK := hk.1
  have hN := hk.2.1
  intro n
  induction n with
  | zero =>
    intro x5 lvs lkd lat hV
    exact op_no hs (hV.trans rfl)
  | succ n ih =>
    intro x5 lvs lkd lat hV H locs hP hD hS ls hl
    refine lv_iload hx hb d_MO_leavesOf_157 (lv_at hl 2 rfl) ?_
    refine lv_if_le (tgt := 196) hx hb d_MO_leavesOf_159 (by decide) (fun c_13 => ?_) (fun c_13 => ?_)
    · exact hKx x5 lvs lkd lat (by rw [hV, tw_MO_leavesOf_h157, if_pos c_13]) _ _ hP hD hS ls (lv_sub hl [] rfl)
    · refine l_MO_leavesOf_r162 C0 hs l D cB cI aM aMst aMdcs aMtot aMfrm aMsiz aMffr aMfsz aMlkd aMlat aMkkd aMkat aModr aMgrp aMikd aMiat rF rL fu fl thr tpd frs frt top bgn mst ovr tgr its hgh loo dfl st hk hA p2 x5 lvs lkd lat hfl (K := (fun (lvs_18 : Int32) (lkd_18 : Nat → Int32) (lat_18 : Nat → Int32) =>
          ob1 (tw_MO_nextOf fu st x5) (fun r_19 =>
            tw_MO_leavesOf_h157 fu fl st K p2 n r_19 lvs_18 lkd_18 lat_18))) ?_ (by rw [hV, tw_MO_leavesOf_h157, if_neg c_13]) _ _ hP hD hS ls (lv_sub hl [0, 1, 2] rfl)
      intro lvs_18 lkd_18 lat_18 hV_18 H locs hP hD hS ls hl
      refine lv_aload_n hx hb d_MO_leavesOf_185 rfl (lv_at hl 0 rfl) ?_
      refine lv_iload hx hb d_MO_leavesOf_186 (lv_at hl 2 rfl) ?_
      rcases h_19 : tw_MO_nextOf fu st x5 with _ | r_19
      · exact op_no hs (by rw [hV_18, h_19, ob1_no])
      refine rd_V (val := r_19) (As := [.int x5]) (rest := []) ⟨hx, hb, hml, hown, hT⟩ (c_MO_nextOf l D cB cI aM aMst aMdcs aMtot aMfrm aMsiz aMffr aMfsz aMlkd aMlat aMkkd aMkat aModr aMgrp aMikd aMiat fu thr tpd frs frt top bgn mst ovr tgr lvs_18 its hgh loo dfl st x5 r_19 h_19) (cwV 1 hT (gV_of k_1204 k_1206 kp_MO_nextOf k_12 kc_MO_nextOf) rfl rfl rfl hd_MO_nextOf ⟨rl_s (Nat.le_of_ble_eq_true rfl), rl_s (Nat.le_of_ble_eq_true rfl)⟩) hk (hP.sub (ws' := [(aM, .inr (11, [.int thr, .ref aMst, .int tpd, .ref aMdcs, .ref aMtot, .ref aMfrm, .ref aMsiz, .int frs, .int frt, .ref aMffr, .ref aMfsz, .int top, .int bgn, .int mst, .int (b2i ovr), .int (b2i tgr), .int lvs_18, .ref aMlkd, .ref aMlat, .ref aMkkd, .ref aMkat, .ref aModr, .ref aMgrp, .int its, .ref aMikd, .ref aMiat, .long hgh, .long loo, .int (b2i dfl)])), (aMst, .inl (cI, 136400, .inl st))]) [0, 1] rfl) (q0 := 0) rfl rfl rfl rfl hl.1 rfl (Nat.le_of_ble_eq_true rfl) d_MO_leavesOf_188 ⟨Nat.zero_le _, Nat.zero_le _⟩ ?_
      refine lv_istore (lv' := [(5, .int r_19), (0, .ref aM), (3, .int p2)]) hx hb d_MO_leavesOf_191 hl (by decide) rfl (fun ls hl => ?_)
      refine lv_goto (tgt := 157) hx hb d_MO_leavesOf_193 (by decide) ?_
      exact ih r_19 lvs_18 lkd_18 lat_18 (by rw [hV_18, h_19, ob1_mk]) _ _ hP hD hS ls (lv_sub hl [1, 2, 0] rfl)
set_option maxHeartbeats 4000000 in
set_option maxRecDepth 100000 in
theorem l_MO_leavesOf_r71 {p : Program} {e : Env} {s : State} {m : MethodId} {args : Array Value} {below : List Frame} {meth : Method} {c : Code} {V : Option (Int32 × (Nat → Int32) × (Nat → Int32))} {V0 : Int32 × (Nat → Int32) × (Nat → Int32)} (C0 : lc_C p s m meth c args b_MO_leavesOf 6 none R_MO lw_g) (hs : V = some V0) (l : Launch) (D : va_G) (cB cI : ClassId) (aM aMst aMdcs aMtot aMfrm aMsiz aMffr aMfsz aMlkd aMlat aMkkd aMkat aModr aMgrp aMikd aMiat : Nat) (rF : Nat) (rL : Nat) (fu : Nat) (fl : Int32 → (Nat → Int32) → (Nat → Int32) → Int32 → Int32 → Int32 → Option (Int32 × (Nat → Int32) × (Nat → Int32))) (thr : Int32) (tpd : Int32) (frs : Int32) (frt : Int32) (top : Int32) (bgn : Int32) (mst : Int32) (ovr : Bool) (tgr : Bool) (its : Int32) (hgh : Int64) (loo : Int64) (dfl : Bool) (st : Nat → Int32)  {A : Nat → Prop} (hk : hk_ D cB cI s) (hA : ∀ q : Nat, s.heap.size ≤ q → A q) (x3 : Int32) (x4 : Int32) (lvs : Int32) (lkd : Nat → Int32) (lat : Nat → Int32) (hfl : ∀ (sz : Nat) (lvs : Int32) (lkd : Nat → Int32) (lat : Nat → Int32) (z0 z1 z2 : Int32) (V1 : Int32 × (Nat → Int32) × (Nat → Int32)), fl lvs lkd lat z0 z1 z2 = some V1 → Met l y_MO_leavesOf mw_MO_leavesOf { frames := rF, cells := 0, slots := 0, locals := rL } (va_Pc [.ref aM, .int z0, .int z1, .int z2] (mt_P D cB cI (wd_MO_leavesOf aM aMst aMdcs aMtot aMfrm aMsiz aMffr aMfsz aMlkd aMlat aMkkd aMkat aModr aMgrp aMikd aMiat cB cI thr tpd frs frt top bgn mst ovr tgr its hgh loo dfl st lvs lkd lat) sz)) (va_Qv (fun (u : Int32 × (Nat → Int32) × (Nat → Int32)) => u = V1) (mt_B D (va_A (wd_MO_leavesOf aM aMst aMdcs aMtot aMfrm aMsiz aMffr aMfsz aMlkd aMlat aMkkd aMkat aModr aMgrp aMikd aMiat cB cI thr tpd frs frt top bgn mst ovr tgr its hgh loo dfl st lvs lkd lat) sz) (fun u => wd_MO_leavesOf aM aMst aMdcs aMtot aMfrm aMsiz aMffr aMfsz aMlkd aMlat aMkkd aMkat aModr aMgrp aMikd aMiat cB cI thr tpd frs frt top bgn mst ovr tgr its hgh loo dfl st u.1 u.2.1 u.2.2)) (va_A (wd_MO_leavesOf aM aMst aMdcs aMtot aMfrm aMsiz aMffr aMfsz aMlkd aMlat aMkkd aMkat aModr aMgrp aMikd aMiat cB cI thr tpd frs frt top bgn mst ovr tgr its hgh loo dfl st lvs lkd lat) sz)) 0 0 (va_A (wd_MO_leavesOf aM aMst aMdcs aMtot aMfrm aMsiz aMffr aMfsz aMlkd aMlat aMkkd aMkat aModr aMgrp aMikd aMiat cB cI thr tpd frs frt top bgn mst ovr tgr its hgh loo dfl st lvs lkd lat) sz)) {K : Int32 → (Nat → Int32) → (Nat → Int32) → Option (Int32 × (Nat → Int32) × (Nat → Int32))} (hKx : ∀ (lvs' : Int32) (lkd' : Nat → Int32) (lat' : Nat → Int32), V = K lvs' lkd' lat' → ∀ (H : Heap) (locs : List Loc), va_P D vwCl [(aM, .inr (11, [.int thr, .ref aMst, .int tpd, .ref aMdcs, .ref aMtot, .ref aMfrm, .ref aMsiz, .int frs, .int frt, .ref aMffr, .ref aMfsz, .int top, .int bgn, .int mst, .int (b2i ovr), .int (b2i tgr), .int lvs', .ref aMlkd, .ref aMlat, .ref aMkkd, .ref aMkat, .ref aModr, .ref aMgrp, .int its, .ref aMikd, .ref aMiat, .long hgh, .long loo, .int (b2i dfl)])), (aMst, .inl (cI, 136400, .inl st)), (aMlkd, .inl (cI, 60000, .inl lkd')), (aMlat, .inl (cI, 60000, .inl lat'))] H → va_D A [(aM, .inr (11, [.int thr, .ref aMst, .int tpd, .ref aMdcs, .ref aMtot, .ref aMfrm, .ref aMsiz, .int frs, .int frt, .ref aMffr, .ref aMfsz, .int top, .int bgn, .int mst, .int (b2i ovr), .int (b2i tgr), .int lvs', .ref aMlkd, .ref aMlat, .ref aMkkd, .ref aMkat, .ref aModr, .ref aMgrp, .int its, .ref aMikd, .ref aMiat, .long hgh, .long loo, .int (b2i dfl)])), (aMst, .inl (cI, 136400, .inl st)), (aMlkd, .inl (cI, 60000, .inl lkd')), (aMlat, .inl (cI, 60000, .inl lat'))] → va_S A s.heap H locs → ∀ ls : Array Slot, lv_has ls 6 [] → W p l e ({ frames := rF + 8, cells := 0, slots := 0, locals := rL + 240 }) s m args below meth c H locs 0 0 (MQ below (va_Qv (fun (u : Int32 × (Nat → Int32) × (Nat → Int32)) => u = V0) (mt_B D A (fun u => wd_MO_leavesOf aM aMst aMdcs aMtot aMfrm aMsiz aMffr aMfsz aMlkd aMlat aMkkd aMkat aModr aMgrp aMikd aMiat cB cI thr tpd frs frt top bgn mst ovr tgr its hgh loo dfl st u.1 u.2.1 u.2.2)) A) args s 0 0 A) (F0 m 107 ls [])) (hV : V = tw_MO_leavesOf_r71 fu fl st K x3 x4 lvs lkd lat) : ∀ (H : Heap) (locs : List Loc), va_P D vwCl [(aM, .inr (11, [.int thr, .ref aMst, .int tpd, .ref aMdcs, .ref aMtot, .ref aMfrm, .ref aMsiz, .int frs, .int frt, .ref aMffr, .ref aMfsz, .int top, .int bgn, .int mst, .int (b2i ovr), .int (b2i tgr), .int lvs, .ref aMlkd, .ref aMlat, .ref aMkkd, .ref aMkat, .ref aModr, .ref aMgrp, .int its, .ref aMikd, .ref aMiat, .long hgh, .long loo, .int (b2i dfl)])), (aMst, .inl (cI, 136400, .inl st)), (aMlkd, .inl (cI, 60000, .inl lkd)), (aMlat, .inl (cI, 60000, .inl lat))] H → va_D A [(aM, .inr (11, [.int thr, .ref aMst, .int tpd, .ref aMdcs, .ref aMtot, .ref aMfrm, .ref aMsiz, .int frs, .int frt, .ref aMffr, .ref aMfsz, .int top, .int bgn, .int mst, .int (b2i ovr), .int (b2i tgr), .int lvs, .ref aMlkd, .ref aMlat, .ref aMkkd, .ref aMkat, .ref aModr, .ref aMgrp, .int its, .ref aMikd, .ref aMiat, .long hgh, .long loo, .int (b2i dfl)])), (aMst, .inl (cI, 136400, .inl st)), (aMlkd, .inl (cI, 60000, .inl lkd)), (aMlat, .inl (cI, 60000, .inl lat))] → va_S A s.heap H locs → ∀ ls : Array Slot, lv_has ls 6 [(0, .ref aM), (3, .int x3), (4, .int x4)] → W p l e ({ frames := rF + 8, cells := 0, slots := 0, locals := rL + 240 }) s m args below meth c H locs 0 0 (MQ below (va_Qv (fun (u : Int32 × (Nat → Int32) × (Nat → Int32)) => u = V0) (mt_B D A (fun u => wd_MO_leavesOf aM aMst aMdcs aMtot aMfrm aMsiz aMffr aMfsz aMlkd aMlat aMkkd aMkat aModr aMgrp aMikd aMiat cB cI thr tpd frs frt top bgn mst ovr tgr its hgh loo dfl st u.1 u.2.1 u.2.2)) A) args s 0 0 A) (F0 m 71 ls []) := by
  obtain ⟨hx, hb, hml, hr, hown, hlocks, hT⟩ := id C0
  have hK := hk.1
  have hN := hk.2.1
  intro H locs hP hD hS ls hl
  refine lv_iload hx hb d_MO_leavesOf_71 (lv_at hl 2 rfl) ?_
  refine lv_if_le (tgt := 101) hx hb d_MO_leavesOf_73 (by decide) (fun c_22 => ?_) (fun c_22 => ?_)
  · refine lv_aload_n hx hb d_MO_leavesOf_101 rfl (lv_at hl 0 rfl) ?_
    refine lv_iconst (v := 0) hx hb d_MO_leavesOf_102 (by decide) ?_
    refine lv_iconst (v := 0) hx hb d_MO_leavesOf_103 (by decide) ?_
    rcases h_23 : tw_MO_leaf fu lvs lkd lat 0 0 with _ | w_23
    · exact op_no hs (by rw [hV, tw_MO_leavesOf_r71, if_pos c_22, h_23, ob3_no])
    refine mt_Vv (As := [.int 0, .int 0]) (rest := []) (wr := [(aMst, .inl (cI, 136400, .inl st))]) ⟨hx, hb, hml, hown, hT⟩ (c_MO_leaf l D cB cI aM aMst aMdcs aMtot aMfrm aMsiz aMffr aMfsz aMlkd aMlat aMkkd aMkat aModr aMgrp aMikd aMiat fu thr tpd frs frt top bgn mst ovr tgr its hgh loo dfl _ lvs lkd lat 0 0 w_23 h_23) (cwV 2 hT (gV_of k_1456 k_1458 kp_MO_leaf k_12 kc_MO_leaf) rfl rfl rfl hd_MO_leaf ⟨rl_s (Nat.le_of_ble_eq_true rfl), rl_s (Nat.le_of_ble_eq_true rfl)⟩) hk hP hD hS hA [0, 2, 3] [1] rfl rfl rfl (by decide) (by decide) (by decide) (q0 := 0) rfl rfl rfl rfl hl.1 rfl (Nat.le_of_ble_eq_true rfl) d_MO_leavesOf_104 ⟨Nat.zero_le _, Nat.zero_le _⟩ (fun u_23 H locs hw_23 hP hD hS => ?_)
    subst hw_23
    obtain ⟨lvs_23, lkd_23, lat_23⟩ := u_23
    have hP : va_P D vwCl [(aM, .inr (11, [.int thr, .ref aMst, .int tpd, .ref aMdcs, .ref aMtot, .ref aMfrm, .ref aMsiz, .int frs, .int frt, .ref aMffr, .ref aMfsz, .int top, .int bgn, .int mst, .int (b2i ovr), .int (b2i tgr), .int lvs_23, .ref aMlkd, .ref aMlat, .ref aMkkd, .ref aMkat, .ref aModr, .ref aMgrp, .int its, .ref aMikd, .ref aMiat, .long hgh, .long loo, .int (b2i dfl)])), (aMst, .inl (cI, 136400, .inl st)), (aMlkd, .inl (cI, 60000, .inl lkd_23)), (aMlat, .inl (cI, 60000, .inl lat_23))] H := hP.sub [1, 0, 2, 3] rfl
    have hD : va_D A [(aM, .inr (11, [.int thr, .ref aMst, .int tpd, .ref aMdcs, .ref aMtot, .ref aMfrm, .ref aMsiz, .int frs, .int frt, .ref aMffr, .ref aMfsz, .int top, .int bgn, .int mst, .int (b2i ovr), .int (b2i tgr), .int lvs_23, .ref aMlkd, .ref aMlat, .ref aMkkd, .ref aMkat, .ref aModr, .ref aMgrp, .int its, .ref aMikd, .ref aMiat, .long hgh, .long loo, .int (b2i dfl)])), (aMst, .inl (cI, 136400, .inl st)), (aMlkd, .inl (cI, 60000, .inl lkd_23)), (aMlat, .inl (cI, 60000, .inl lat_23))] := hD.sub [1, 0, 2, 3] (by decide) rfl
    exact hKx lvs_23 lkd_23 lat_23 (by rw [hV, tw_MO_leavesOf_r71, if_pos c_22, h_23, ob3_mk]) _ _ hP hD hS ls (lv_sub hl [] rfl)
  · refine lv_aload_n hx hb d_MO_leavesOf_76 rfl (lv_at hl 0 rfl) ?_
    refine lv_aload_n hx hb d_MO_leavesOf_77 rfl (lv_at hl 0 rfl) ?_
    refine va_get (D := D) (ci := 11) (v := .ref aMst) (C := R_MO) (T := T_MO) (N := 29) hx hb hT u_MO hown hK hP 0 rfl rfl 1 (by decide) (hT _ k_1044) (fun _ h9 => h9) rfl d_MO_leavesOf_78 ?_
    refine lv_iload hx hb d_MO_leavesOf_81 (lv_at hl 2 rfl) ?_
    by_cases c_24 : 0 ≤ x4 ∧ x4 < 136400
    rotate_left
    · exact op_no hs (by rw [hV, tw_MO_leavesOf_r71, if_neg c_22, if_neg c_24])
    refine va_iald hx hb hK hP 1 1 rfl rfl (in_pp c_24.1 c_24.2 rfl) d_MO_leavesOf_83 ?_
    refine lv_aload_n hx hb d_MO_leavesOf_84 rfl (lv_at hl 0 rfl) ?_
    refine lv_iload hx hb d_MO_leavesOf_85 (lv_at hl 2 rfl) ?_
    rcases h_25 : tw_MO_valueOf fu st x4 with _ | r_25
    · exact op_no hs (by rw [hV, tw_MO_leavesOf_r71, if_neg c_22, if_pos c_24, h_25, ob1_no])
    refine rd_V (val := r_25) (As := [.int x4]) (rest := [.int (st x4.toNatClampNeg), .ref aM]) ⟨hx, hb, hml, hown, hT⟩ (c_MO_valueOf l D cB cI aM aMst aMdcs aMtot aMfrm aMsiz aMffr aMfsz aMlkd aMlat aMkkd aMkat aModr aMgrp aMikd aMiat fu thr tpd frs frt top bgn mst ovr tgr lvs its hgh loo dfl st x4 r_25 h_25) (cwV 1 hT (gV_of k_1182 k_1184 kp_MO_valueOf k_12 kc_MO_valueOf) rfl rfl rfl hd_MO_valueOf ⟨rl_s (Nat.le_of_ble_eq_true rfl), rl_s (Nat.le_of_ble_eq_true rfl)⟩) hk (hP.sub (ws' := [(aM, .inr (11, [.int thr, .ref aMst, .int tpd, .ref aMdcs, .ref aMtot, .ref aMfrm, .ref aMsiz, .int frs, .int frt, .ref aMffr, .ref aMfsz, .int top, .int bgn, .int mst, .int (b2i ovr), .int (b2i tgr), .int lvs, .ref aMlkd, .ref aMlat, .ref aMkkd, .ref aMkat, .ref aModr, .ref aMgrp, .int its, .ref aMikd, .ref aMiat, .long hgh, .long loo, .int (b2i dfl)])), (aMst, .inl (cI, 136400, .inl st))]) [0, 1] rfl) (q0 := 0) rfl rfl rfl rfl hl.1 rfl (Nat.le_of_ble_eq_true rfl) d_MO_leavesOf_87 ⟨Nat.zero_le _, Nat.zero_le _⟩ ?_
    refine lv_aload_n hx hb d_MO_leavesOf_90 rfl (lv_at hl 0 rfl) ?_
    refine lv_iload_n hx hb d_MO_leavesOf_91 rfl (lv_at hl 1 rfl) ?_
    rcases h_26 : tw_MO_nextStep fu st x3 with _ | r_26
    · exact op_no hs (by rw [hV, tw_MO_leavesOf_r71, if_neg c_22, if_pos c_24, h_25, ob1_mk, h_26, ob1_no])
    refine rd_V (val := r_26) (As := [.int x3]) (rest := [.int r_25, .int (st x4.toNatClampNeg), .ref aM]) ⟨hx, hb, hml, hown, hT⟩ (c_MO_nextStep l D cB cI aM aMst aMdcs aMtot aMfrm aMsiz aMffr aMfsz aMlkd aMlat aMkkd aMkat aModr aMgrp aMikd aMiat fu thr tpd frs frt top bgn mst ovr tgr lvs its hgh loo dfl st x3 r_26 h_26) (cwV 1 hT (gV_of k_1363 k_1365 kp_MO_nextStep k_12 kc_MO_nextStep) rfl rfl rfl hd_MO_nextStep ⟨rl_s (Nat.le_of_ble_eq_true rfl), rl_s (Nat.le_of_ble_eq_true rfl)⟩) hk (hP.sub (ws' := [(aM, .inr (11, [.int thr, .ref aMst, .int tpd, .ref aMdcs, .ref aMtot, .ref aMfrm, .ref aMsiz, .int frs, .int frt, .ref aMffr, .ref aMfsz, .int top, .int bgn, .int mst, .int (b2i ovr), .int (b2i tgr), .int lvs, .ref aMlkd, .ref aMlat, .ref aMkkd, .ref aMkat, .ref aModr, .ref aMgrp, .int its, .ref aMikd, .ref aMiat, .long hgh, .long loo, .int (b2i dfl)])), (aMst, .inl (cI, 136400, .inl st))]) [0, 1] rfl) (q0 := 0) rfl rfl rfl rfl hl.1 rfl (Nat.le_of_ble_eq_true rfl) d_MO_leavesOf_92 ⟨Nat.zero_le _, Nat.zero_le _⟩ ?_
    rcases h_27 : fl lvs lkd lat (st x4.toNatClampNeg) r_25 r_26 with _ | w_27
    · exact op_no hs (by rw [hV, tw_MO_leavesOf_r71, if_neg c_22, if_pos c_24, h_25, ob1_mk, h_26, ob1_mk, h_27, ob3_no])
    refine mt_Vv (As := [.int (st x4.toNatClampNeg), .int r_25, .int r_26]) (rest := []) (wr := []) ⟨hx, hb, hml, hown, hT⟩ (hfl _ lvs lkd lat (st x4.toNatClampNeg) r_25 r_26 w_27 h_27) (cwV 3 hT (gV_of k_1452 k_1454 kp_MO_leavesOf k_12 kc_MO_leavesOf) rfl rfl rfl hd_MO_leavesOf ⟨rl_f (Nat.le_of_ble_eq_true rfl), rl_l (Nat.le_of_ble_eq_true rfl)⟩) hk hP hD hS hA [0, 1, 2, 3] [] rfl rfl rfl (by decide) (by decide) (by decide) (q0 := 0) rfl rfl rfl rfl hl.1 rfl (Nat.le_of_ble_eq_true rfl) d_MO_leavesOf_95 ⟨Nat.zero_le _, Nat.zero_le _⟩ (fun u_27 H locs hw_27 hP hD hS => ?_)
    subst hw_27
    obtain ⟨lvs_27, lkd_27, lat_27⟩ := u_27
    have hP : va_P D vwCl [(aM, .inr (11, [.int thr, .ref aMst, .int tpd, .ref aMdcs, .ref aMtot, .ref aMfrm, .ref aMsiz, .int frs, .int frt, .ref aMffr, .ref aMfsz, .int top, .int bgn, .int mst, .int (b2i ovr), .int (b2i tgr), .int lvs_27, .ref aMlkd, .ref aMlat, .ref aMkkd, .ref aMkat, .ref aModr, .ref aMgrp, .int its, .ref aMikd, .ref aMiat, .long hgh, .long loo, .int (b2i dfl)])), (aMst, .inl (cI, 136400, .inl st)), (aMlkd, .inl (cI, 60000, .inl lkd_27)), (aMlat, .inl (cI, 60000, .inl lat_27))] H := hP.sub [0, 1, 2, 3] rfl
    have hD : va_D A [(aM, .inr (11, [.int thr, .ref aMst, .int tpd, .ref aMdcs, .ref aMtot, .ref aMfrm, .ref aMsiz, .int frs, .int frt, .ref aMffr, .ref aMfsz, .int top, .int bgn, .int mst, .int (b2i ovr), .int (b2i tgr), .int lvs_27, .ref aMlkd, .ref aMlat, .ref aMkkd, .ref aMkat, .ref aModr, .ref aMgrp, .int its, .ref aMikd, .ref aMiat, .long hgh, .long loo, .int (b2i dfl)])), (aMst, .inl (cI, 136400, .inl st)), (aMlkd, .inl (cI, 60000, .inl lkd_27)), (aMlat, .inl (cI, 60000, .inl lat_27))] := hD.sub [0, 1, 2, 3] (by decide) rfl
    refine lv_goto (tgt := 107) hx hb d_MO_leavesOf_98 (by decide) ?_
    exact hKx lvs_27 lkd_27 lat_27 (by rw [hV, tw_MO_leavesOf_r71, if_neg c_22, if_pos c_24, h_25, ob1_mk, h_26, ob1_mk, h_27, ob3_mk]) _ _ hP hD hS ls (lv_sub hl [] rfl)
set_option maxHeartbeats 4000000 in
set_option maxRecDepth 100000 in
theorem l_MO_leavesOf_h22 {p : Program} {e : Env} {s : State} {m : MethodId} {args : Array Value} {below : List Frame} {meth : Method} {c : Code} {V : Option (Int32 × (Nat → Int32) × (Nat → Int32))} {V0 : Int32 × (Nat → Int32) × (Nat → Int32)} (C0 : lc_C p s m meth c args b_MO_leavesOf 6 none R_MO lw_g) (hs : V = some V0) (l : Launch) (D : va_G) (cB cI : ClassId) (aM aMst aMdcs aMtot aMfrm aMsiz aMffr aMfsz aMlkd aMlat aMkkd aMkat aModr aMgrp aMikd aMiat : Nat) (rF : Nat) (rL : Nat) (fu : Nat) (fl : Int32 → (Nat → Int32) → (Nat → Int32) → Int32 → Int32 → Int32 → Option (Int32 × (Nat → Int32) × (Nat → Int32))) (thr : Int32) (tpd : Int32) (frs : Int32) (frt : Int32) (top : Int32) (bgn : Int32) (mst : Int32) (ovr : Bool) (tgr : Bool) (its : Int32) (hgh : Int64) (loo : Int64) (dfl : Bool) (st : Nat → Int32) {A : Nat → Prop} (hk : hk_ D cB cI s) (hA : ∀ q : Nat, s.heap.size ≤ q → A q)  (hfl : ∀ (sz : Nat) (lvs : Int32) (lkd : Nat → Int32) (lat : Nat → Int32) (z0 z1 z2 : Int32) (V1 : Int32 × (Nat → Int32) × (Nat → Int32)), fl lvs lkd lat z0 z1 z2 = some V1 → Met l y_MO_leavesOf mw_MO_leavesOf { frames := rF, cells := 0, slots := 0, locals := rL } (va_Pc [.ref aM, .int z0, .int z1, .int z2] (mt_P D cB cI (wd_MO_leavesOf aM aMst aMdcs aMtot aMfrm aMsiz aMffr aMfsz aMlkd aMlat aMkkd aMkat aModr aMgrp aMikd aMiat cB cI thr tpd frs frt top bgn mst ovr tgr its hgh loo dfl st lvs lkd lat) sz)) (va_Qv (fun (u : Int32 × (Nat → Int32) × (Nat → Int32)) => u = V1) (mt_B D (va_A (wd_MO_leavesOf aM aMst aMdcs aMtot aMfrm aMsiz aMffr aMfsz aMlkd aMlat aMkkd aMkat aModr aMgrp aMikd aMiat cB cI thr tpd frs frt top bgn mst ovr tgr its hgh loo dfl st lvs lkd lat) sz) (fun u => wd_MO_leavesOf aM aMst aMdcs aMtot aMfrm aMsiz aMffr aMfsz aMlkd aMlat aMkkd aMkat aModr aMgrp aMikd aMiat cB cI thr tpd frs frt top bgn mst ovr tgr its hgh loo dfl st u.1 u.2.1 u.2.2)) (va_A (wd_MO_leavesOf aM aMst aMdcs aMtot aMfrm aMsiz aMffr aMfsz aMlkd aMlat aMkkd aMkat aModr aMgrp aMikd aMiat cB cI thr tpd frs frt top bgn mst ovr tgr its hgh loo dfl st lvs lkd lat) sz)) 0 0 (va_A (wd_MO_leavesOf aM aMst aMdcs aMtot aMfrm aMsiz aMffr aMfsz aMlkd aMlat aMkkd aMkat aModr aMgrp aMikd aMiat cB cI thr tpd frs frt top bgn mst ovr tgr its hgh loo dfl st lvs lkd lat) sz)) {K : Int32 → Int32 → (Nat → Int32) → (Nat → Int32) → Option (Int32 × (Nat → Int32) × (Nat → Int32))} (hKx : ∀ (x4 : Int32) (lvs : Int32) (lkd : Nat → Int32) (lat : Nat → Int32), V = K x4 lvs lkd lat → ∀ (H : Heap) (locs : List Loc), va_P D vwCl [(aM, .inr (11, [.int thr, .ref aMst, .int tpd, .ref aMdcs, .ref aMtot, .ref aMfrm, .ref aMsiz, .int frs, .int frt, .ref aMffr, .ref aMfsz, .int top, .int bgn, .int mst, .int (b2i ovr), .int (b2i tgr), .int lvs, .ref aMlkd, .ref aMlat, .ref aMkkd, .ref aMkat, .ref aModr, .ref aMgrp, .int its, .ref aMikd, .ref aMiat, .long hgh, .long loo, .int (b2i dfl)])), (aMst, .inl (cI, 136400, .inl st)), (aMlkd, .inl (cI, 60000, .inl lkd)), (aMlat, .inl (cI, 60000, .inl lat))] H → va_D A [(aM, .inr (11, [.int thr, .ref aMst, .int tpd, .ref aMdcs, .ref aMtot, .ref aMfrm, .ref aMsiz, .int frs, .int frt, .ref aMffr, .ref aMfsz, .int top, .int bgn, .int mst, .int (b2i ovr), .int (b2i tgr), .int lvs, .ref aMlkd, .ref aMlat, .ref aMkkd, .ref aMkat, .ref aModr, .ref aMgrp, .int its, .ref aMikd, .ref aMiat, .long hgh, .long loo, .int (b2i dfl)])), (aMst, .inl (cI, 136400, .inl st)), (aMlkd, .inl (cI, 60000, .inl lkd)), (aMlat, .inl (cI, 60000, .inl lat))] → va_S A s.heap H locs → ∀ ls : Array Slot, lv_has ls 6 [] → W p l e ({ frames := rF + 8, cells := 0, slots := 0, locals := rL + 240 }) s m args below meth c H locs 0 0 (MQ below (va_Qv (fun (u : Int32 × (Nat → Int32) × (Nat → Int32)) => u = V0) (mt_B D A (fun u => wd_MO_leavesOf aM aMst aMdcs aMtot aMfrm aMsiz aMffr aMfsz aMlkd aMlat aMkkd aMkat aModr aMgrp aMikd aMiat cB cI thr tpd frs frt top bgn mst ovr tgr its hgh loo dfl st u.1 u.2.1 u.2.2)) A) args s 0 0 A) (F0 m 55 ls [])) : ∀ (n : Nat) (x4 : Int32) (lvs : Int32) (lkd : Nat → Int32) (lat : Nat → Int32), V = tw_MO_leavesOf_h22 fu fl st K n x4 lvs lkd lat → ∀ (H : Heap) (locs : List Loc), va_P D vwCl [(aM, .inr (11, [.int thr, .ref aMst, .int tpd, .ref aMdcs, .ref aMtot, .ref aMfrm, .ref aMsiz, .int frs, .int frt, .ref aMffr, .ref aMfsz, .int top, .int bgn, .int mst, .int (b2i ovr), .int (b2i tgr), .int lvs, .ref aMlkd, .ref aMlat, .ref aMkkd, .ref aMkat, .ref aModr, .ref aMgrp, .int its, .ref aMikd, .ref aMiat, .long hgh, .long loo, .int (b2i dfl)])), (aMst, .inl (cI, 136400, .inl st)), (aMlkd, .inl (cI, 60000, .inl lkd)), (aMlat, .inl (cI, 60000, .inl lat))] H → va_D A [(aM, .inr (11, [.int thr, .ref aMst, .int tpd, .ref aMdcs, .ref aMtot, .ref aMfrm, .ref aMsiz, .int frs, .int frt, .ref aMffr, .ref aMfsz, .int top, .int bgn, .int mst, .int (b2i ovr), .int (b2i tgr), .int lvs, .ref aMlkd, .ref aMlat, .ref aMkkd, .ref aMkat, .ref aModr, .ref aMgrp, .int its, .ref aMikd, .ref aMiat, .long hgh, .long loo, .int (b2i dfl)])), (aMst, .inl (cI, 136400, .inl st)), (aMlkd, .inl (cI, 60000, .inl lkd)), (aMlat, .inl (cI, 60000, .inl lat))] → va_S A s.heap H locs → ∀ ls : Array Slot, lv_has ls 6 [(0, .ref aM), (4, .int x4)] → W p l e ({ frames := rF + 8, cells := 0, slots := 0, locals := rL + 240 }) s m args below meth c H locs 0 0 (MQ below (va_Qv (fun (u : Int32 × (Nat → Int32) × (Nat → Int32)) => u = V0) (mt_B D A (fun u => wd_MO_leavesOf aM aMst aMdcs aMtot aMfrm aMsiz aMffr aMfsz aMlkd aMlat aMkkd aMkat aModr aMgrp aMikd aMiat cB cI thr tpd frs frt top bgn mst ovr tgr its hgh loo dfl st u.1 u.2.1 u.2.2)) A) args s 0 0 A) (F0 m 22 ls []) := by
  obtain ⟨hx, hb, hml, hr, hown, hlocks, hT⟩ := id C0
  have hK := hk.1
  have hN := hk.2.1
  intro n
  induction n with
  | zero =>
    intro x4 lvs lkd lat hV
    exact op_no hs (hV.trans rfl)
  | succ n ih =>
    intro x4 lvs lkd lat hV H locs hP hD hS ls hl
    refine lv_iload hx hb d_MO_leavesOf_22 (lv_at hl 1 rfl) ?_
    refine lv_if_le (tgt := 55) hx hb d_MO_leavesOf_24 (by decide) (fun c_32 => ?_) (fun c_32 => ?_)
    · exact hKx x4 lvs lkd lat (by rw [hV, tw_MO_leavesOf_h22, if_pos c_32]) _ _ hP hD hS ls (lv_sub hl [] rfl)
    · refine lv_aload_n hx hb d_MO_leavesOf_27 rfl (lv_at hl 0 rfl) ?_
      refine lv_aload_n hx hb d_MO_leavesOf_28 rfl (lv_at hl 0 rfl) ?_
      refine va_get (D := D) (ci := 11) (v := .ref aMst) (C := R_MO) (T := T_MO) (N := 29) hx hb hT u_MO hown hK hP 0 rfl rfl 1 (by decide) (hT _ k_1044) (fun _ h9 => h9) rfl d_MO_leavesOf_29 ?_
      refine lv_iload hx hb d_MO_leavesOf_32 (lv_at hl 1 rfl) ?_
      by_cases c_33 : 0 ≤ x4 ∧ x4 < 136400
      rotate_left
      · exact op_no hs (by rw [hV, tw_MO_leavesOf_h22, if_neg c_32, if_neg c_33])
      refine va_iald hx hb hK hP 1 1 rfl rfl (in_pp c_33.1 c_33.2 rfl) d_MO_leavesOf_34 ?_
      refine lv_aload_n hx hb d_MO_leavesOf_35 rfl (lv_at hl 0 rfl) ?_
      refine lv_iload hx hb d_MO_leavesOf_36 (lv_at hl 1 rfl) ?_
      rcases h_34 : tw_MO_valueOf fu st x4 with _ | r_34
      · exact op_no hs (by rw [hV, tw_MO_leavesOf_h22, if_neg c_32, if_pos c_33, h_34, ob1_no])
      refine rd_V (val := r_34) (As := [.int x4]) (rest := [.int (st x4.toNatClampNeg), .ref aM]) ⟨hx, hb, hml, hown, hT⟩ (c_MO_valueOf l D cB cI aM aMst aMdcs aMtot aMfrm aMsiz aMffr aMfsz aMlkd aMlat aMkkd aMkat aModr aMgrp aMikd aMiat fu thr tpd frs frt top bgn mst ovr tgr lvs its hgh loo dfl st x4 r_34 h_34) (cwV 1 hT (gV_of k_1182 k_1184 kp_MO_valueOf k_12 kc_MO_valueOf) rfl rfl rfl hd_MO_valueOf ⟨rl_s (Nat.le_of_ble_eq_true rfl), rl_s (Nat.le_of_ble_eq_true rfl)⟩) hk (hP.sub (ws' := [(aM, .inr (11, [.int thr, .ref aMst, .int tpd, .ref aMdcs, .ref aMtot, .ref aMfrm, .ref aMsiz, .int frs, .int frt, .ref aMffr, .ref aMfsz, .int top, .int bgn, .int mst, .int (b2i ovr), .int (b2i tgr), .int lvs, .ref aMlkd, .ref aMlat, .ref aMkkd, .ref aMkat, .ref aModr, .ref aMgrp, .int its, .ref aMikd, .ref aMiat, .long hgh, .long loo, .int (b2i dfl)])), (aMst, .inl (cI, 136400, .inl st))]) [0, 1] rfl) (q0 := 0) rfl rfl rfl rfl hl.1 rfl (Nat.le_of_ble_eq_true rfl) d_MO_leavesOf_38 ⟨Nat.zero_le _, Nat.zero_le _⟩ ?_
      rcases h_35 : tw_MO_leaf fu lvs lkd lat (st x4.toNatClampNeg) r_34 with _ | w_35
      · exact op_no hs (by rw [hV, tw_MO_leavesOf_h22, if_neg c_32, if_pos c_33, h_34, ob1_mk, h_35, ob3_no])
      refine mt_Vv (As := [.int (st x4.toNatClampNeg), .int r_34]) (rest := []) (wr := [(aMst, .inl (cI, 136400, .inl st))]) ⟨hx, hb, hml, hown, hT⟩ (c_MO_leaf l D cB cI aM aMst aMdcs aMtot aMfrm aMsiz aMffr aMfsz aMlkd aMlat aMkkd aMkat aModr aMgrp aMikd aMiat fu thr tpd frs frt top bgn mst ovr tgr its hgh loo dfl _ lvs lkd lat (st x4.toNatClampNeg) r_34 w_35 h_35) (cwV 2 hT (gV_of k_1456 k_1458 kp_MO_leaf k_12 kc_MO_leaf) rfl rfl rfl hd_MO_leaf ⟨rl_s (Nat.le_of_ble_eq_true rfl), rl_s (Nat.le_of_ble_eq_true rfl)⟩) hk hP hD hS hA [0, 2, 3] [1] rfl rfl rfl (by decide) (by decide) (by decide) (q0 := 0) rfl rfl rfl rfl hl.1 rfl (Nat.le_of_ble_eq_true rfl) d_MO_leavesOf_41 ⟨Nat.zero_le _, Nat.zero_le _⟩ (fun u_35 H locs hw_35 hP hD hS => ?_)
      subst hw_35
      obtain ⟨lvs_35, lkd_35, lat_35⟩ := u_35
      have hP : va_P D vwCl [(aM, .inr (11, [.int thr, .ref aMst, .int tpd, .ref aMdcs, .ref aMtot, .ref aMfrm, .ref aMsiz, .int frs, .int frt, .ref aMffr, .ref aMfsz, .int top, .int bgn, .int mst, .int (b2i ovr), .int (b2i tgr), .int lvs_35, .ref aMlkd, .ref aMlat, .ref aMkkd, .ref aMkat, .ref aModr, .ref aMgrp, .int its, .ref aMikd, .ref aMiat, .long hgh, .long loo, .int (b2i dfl)])), (aMst, .inl (cI, 136400, .inl st)), (aMlkd, .inl (cI, 60000, .inl lkd_35)), (aMlat, .inl (cI, 60000, .inl lat_35))] H := hP.sub [1, 0, 2, 3] rfl
      have hD : va_D A [(aM, .inr (11, [.int thr, .ref aMst, .int tpd, .ref aMdcs, .ref aMtot, .ref aMfrm, .ref aMsiz, .int frs, .int frt, .ref aMffr, .ref aMfsz, .int top, .int bgn, .int mst, .int (b2i ovr), .int (b2i tgr), .int lvs_35, .ref aMlkd, .ref aMlat, .ref aMkkd, .ref aMkat, .ref aModr, .ref aMgrp, .int its, .ref aMikd, .ref aMiat, .long hgh, .long loo, .int (b2i dfl)])), (aMst, .inl (cI, 136400, .inl st)), (aMlkd, .inl (cI, 60000, .inl lkd_35)), (aMlat, .inl (cI, 60000, .inl lat_35))] := hD.sub [1, 0, 2, 3] (by decide) rfl
      refine lv_aload_n hx hb d_MO_leavesOf_44 rfl (lv_at hl 0 rfl) ?_
      refine lv_iload hx hb d_MO_leavesOf_45 (lv_at hl 1 rfl) ?_
      rcases h_36 : tw_MO_nextOf fu st x4 with _ | r_36
      · exact op_no hs (by rw [hV, tw_MO_leavesOf_h22, if_neg c_32, if_pos c_33, h_34, ob1_mk, h_35, ob3_mk, h_36, ob1_no])
      refine rd_V (val := r_36) (As := [.int x4]) (rest := []) ⟨hx, hb, hml, hown, hT⟩ (c_MO_nextOf l D cB cI aM aMst aMdcs aMtot aMfrm aMsiz aMffr aMfsz aMlkd aMlat aMkkd aMkat aModr aMgrp aMikd aMiat fu thr tpd frs frt top bgn mst ovr tgr lvs_35 its hgh loo dfl st x4 r_36 h_36) (cwV 1 hT (gV_of k_1204 k_1206 kp_MO_nextOf k_12 kc_MO_nextOf) rfl rfl rfl hd_MO_nextOf ⟨rl_s (Nat.le_of_ble_eq_true rfl), rl_s (Nat.le_of_ble_eq_true rfl)⟩) hk (hP.sub (ws' := [(aM, .inr (11, [.int thr, .ref aMst, .int tpd, .ref aMdcs, .ref aMtot, .ref aMfrm, .ref aMsiz, .int frs, .int frt, .ref aMffr, .ref aMfsz, .int top, .int bgn, .int mst, .int (b2i ovr), .int (b2i tgr), .int lvs_35, .ref aMlkd, .ref aMlat, .ref aMkkd, .ref aMkat, .ref aModr, .ref aMgrp, .int its, .ref aMikd, .ref aMiat, .long hgh, .long loo, .int (b2i dfl)])), (aMst, .inl (cI, 136400, .inl st))]) [0, 1] rfl) (q0 := 0) rfl rfl rfl rfl hl.1 rfl (Nat.le_of_ble_eq_true rfl) d_MO_leavesOf_47 ⟨Nat.zero_le _, Nat.zero_le _⟩ ?_
      refine lv_istore (lv' := [(4, .int r_36), (0, .ref aM)]) hx hb d_MO_leavesOf_50 hl (by decide) rfl (fun ls hl => ?_)
      refine lv_goto (tgt := 22) hx hb d_MO_leavesOf_52 (by decide) ?_
      exact ih r_36 lvs_35 lkd_35 lat_35 (by rw [hV, tw_MO_leavesOf_h22, if_neg c_32, if_pos c_33, h_34, ob1_mk, h_35, ob3_mk, h_36, ob1_mk]) _ _ hP hD hS ls (lv_sub hl [1, 0] rfl)
set_option maxHeartbeats 4000000 in
set_option maxRecDepth 100000 in
theorem c_MO_leavesOf (l : Launch) (D : va_G) (cB cI : ClassId) (aM aMst aMdcs aMtot aMfrm aMsiz aMffr aMfsz aMlkd aMlat aMkkd aMkat aModr aMgrp aMikd aMiat : Nat) (rF : Nat) (rL : Nat) (fu : Nat) (fl : Int32 → (Nat → Int32) → (Nat → Int32) → Int32 → Int32 → Int32 → Option (Int32 × (Nat → Int32) × (Nat → Int32))) (thr : Int32) (tpd : Int32) (frs : Int32) (frt : Int32) (top : Int32) (bgn : Int32) (mst : Int32) (ovr : Bool) (tgr : Bool) (its : Int32) (hgh : Int64) (loo : Int64) (dfl : Bool) (st : Nat → Int32) (sz : Nat) (lvs : Int32) (lkd : Nat → Int32) (lat : Nat → Int32) (p0 : Int32) (p1 : Int32) (p2 : Int32) (hfl : ∀ (sz : Nat) (lvs : Int32) (lkd : Nat → Int32) (lat : Nat → Int32) (z0 z1 z2 : Int32) (V1 : Int32 × (Nat → Int32) × (Nat → Int32)), fl lvs lkd lat z0 z1 z2 = some V1 → Met l y_MO_leavesOf mw_MO_leavesOf { frames := rF, cells := 0, slots := 0, locals := rL } (va_Pc [.ref aM, .int z0, .int z1, .int z2] (mt_P D cB cI (wd_MO_leavesOf aM aMst aMdcs aMtot aMfrm aMsiz aMffr aMfsz aMlkd aMlat aMkkd aMkat aModr aMgrp aMikd aMiat cB cI thr tpd frs frt top bgn mst ovr tgr its hgh loo dfl st lvs lkd lat) sz)) (va_Qv (fun (u : Int32 × (Nat → Int32) × (Nat → Int32)) => u = V1) (mt_B D (va_A (wd_MO_leavesOf aM aMst aMdcs aMtot aMfrm aMsiz aMffr aMfsz aMlkd aMlat aMkkd aMkat aModr aMgrp aMikd aMiat cB cI thr tpd frs frt top bgn mst ovr tgr its hgh loo dfl st lvs lkd lat) sz) (fun u => wd_MO_leavesOf aM aMst aMdcs aMtot aMfrm aMsiz aMffr aMfsz aMlkd aMlat aMkkd aMkat aModr aMgrp aMikd aMiat cB cI thr tpd frs frt top bgn mst ovr tgr its hgh loo dfl st u.1 u.2.1 u.2.2)) (va_A (wd_MO_leavesOf aM aMst aMdcs aMtot aMfrm aMsiz aMffr aMfsz aMlkd aMlat aMkkd aMkat aModr aMgrp aMikd aMiat cB cI thr tpd frs frt top bgn mst ovr tgr its hgh loo dfl st lvs lkd lat) sz)) 0 0 (va_A (wd_MO_leavesOf aM aMst aMdcs aMtot aMfrm aMsiz aMffr aMfsz aMlkd aMlat aMkkd aMkat aModr aMgrp aMikd aMiat cB cI thr tpd frs frt top bgn mst ovr tgr its hgh loo dfl st lvs lkd lat) sz)) (V0 : Int32 × (Nat → Int32) × (Nat → Int32)) (hs : tw_MO_leavesOf fu fl st lvs lkd lat p0 p1 p2 = some V0) : Met l y_MO_leavesOf mw_MO_leavesOf { frames := rF + 8, cells := 0, slots := 0, locals := rL + 240 } (va_Pc [.ref aM, .int p0, .int p1, .int p2] (mt_P D cB cI (wd_MO_leavesOf aM aMst aMdcs aMtot aMfrm aMsiz aMffr aMfsz aMlkd aMlat aMkkd aMkat aModr aMgrp aMikd aMiat cB cI thr tpd frs frt top bgn mst ovr tgr its hgh loo dfl st lvs lkd lat) sz)) (va_Qv (fun (u : Int32 × (Nat → Int32) × (Nat → Int32)) => u = V0) (mt_B D (va_A (wd_MO_leavesOf aM aMst aMdcs aMtot aMfrm aMsiz aMffr aMfsz aMlkd aMlat aMkkd aMkat aModr aMgrp aMikd aMiat cB cI thr tpd frs frt top bgn mst ovr tgr its hgh loo dfl st lvs lkd lat) sz) (fun u => wd_MO_leavesOf aM aMst aMdcs aMtot aMfrm aMsiz aMffr aMfsz aMlkd aMlat aMkkd aMkat aModr aMgrp aMikd aMiat cB cI thr tpd frs frt top bgn mst ovr tgr its hgh loo dfl st u.1 u.2.1 u.2.2)) (va_A (wd_MO_leavesOf aM aMst aMdcs aMtot aMfrm aMsiz aMffr aMfsz aMlkd aMlat aMkkd aMkat aModr aMgrp aMikd aMiat cB cI thr tpd frs frt top bgn mst ovr tgr its hgh loo dfl st lvs lkd lat) sz)) 0 0 (va_A (wd_MO_leavesOf aM aMst aMdcs aMtot aMfrm aMsiz aMffr aMfsz aMlkd aMlat aMkkd aMkat aModr aMgrp aMikd aMiat cB cI thr tpd frs frt top bgn mst ovr tgr its hgh loo dfl st lvs lkd lat) sz) := by
  refine Met.ofW (cc := b_MO_leavesOf) (maxL := 6) (ret := none) (by decide) rfl ?_
  intro p e s m args below meth c s₁ B0 hml hv
  obtain ⟨rfl, hsz, hP, hk, hD0⟩ := hv
  have hK := hk.1
  have hN := hk.2.1
  have hx := B0.exec
  have hb := B0.bytes
  have hr := B0.returns
  have hT : ∀ w ∈ lw_g, w.before _ s = true := fun w h => atoms_spec (ws := mw_MO_leavesOf) B0.pre w (List.mem_cons_of_mem _ h)
  have hown : s.vm.findClass R_MO = some m.cls := findClass_of_methodNamed B0.named
  have hlocks := B0.notSynchronized
  subst hsz
  have hD := hD0.self (sz := s.heap.size)
  generalize hAe : va_A [(aM, .inr (11, [.int thr, .ref aMst, .int tpd, .ref aMdcs, .ref aMtot, .ref aMfrm, .ref aMsiz, .int frs, .int frt, .ref aMffr, .ref aMfsz, .int top, .int bgn, .int mst, .int (b2i ovr), .int (b2i tgr), .int lvs, .ref aMlkd, .ref aMlat, .ref aMkkd, .ref aMkat, .ref aModr, .ref aMgrp, .int its, .ref aMikd, .ref aMiat, .long hgh, .long loo, .int (b2i dfl)])), (aMst, .inl (cI, 136400, .inl st)), (aMlkd, .inl (cI, 60000, .inl lkd)), (aMlat, .inl (cI, 60000, .inl lat))] s.heap.size = A at hD ⊢
  have hA : ∀ q : Nat, s.heap.size ≤ q → A q := fun q h => by rw [← hAe]; exact Or.inr h
  have hS : va_S A s.heap s.heap [] := va_S.rf
  have hl := lv_entry ([.ref aM, .int p0, .int p1, .int p2]) (n := 6) (Nat.le_of_ble_eq_true rfl)
  rw [lg_entry_eq]
  generalize (lg_sl ([.ref aM, .int p0, .int p1, .int p2]) ++ List.replicate (6 - (lg_sl ([.ref aM, .int p0, .int p1, .int p2])).length) Slot.unset).toArray = ls at hl ⊢
  have hl : lv_has ls 6 [(0, .ref aM), (1, .int p0), (2, .int p1), (3, .int p2)] := hl
  have C0 : lc_C p s m meth c _ b_MO_leavesOf 6 none R_MO lw_g := ⟨hx, hb, hml, hr, hown, hlocks, hT⟩
  refine lv_iload_n hx hb d_MO_leavesOf_0 rfl (lv_at hl 3 rfl) ?_
  refine lv_if_ne (tgt := 58) hx hb d_MO_leavesOf_1 (by decide) (fun c_1 => ?_) (fun c_1 => ?_)
  · refine lv_iload_n hx hb d_MO_leavesOf_58 rfl (lv_at hl 1 rfl) ?_
    refine lv_iconst (v := 3) hx hb d_MO_leavesOf_59 (by decide) ?_
    refine lv_icmp_ne (tgt := 110) hx hb d_MO_leavesOf_60 (by decide) (fun c_2 => ?_) (fun c_2 => ?_)
    · refine lv_iload_n hx hb d_MO_leavesOf_110 rfl (lv_at hl 1 rfl) ?_
      refine lv_iconst (v := 4) hx hb d_MO_leavesOf_111 (by decide) ?_
      refine lv_icmp_ne (tgt := 199) hx hb d_MO_leavesOf_112 (by decide) (fun c_3 => ?_) (fun c_3 => ?_)
      · refine lv_aload_n hx hb d_MO_leavesOf_199 rfl (lv_at hl 0 rfl) ?_
        refine lv_iconst (v := 0) hx hb d_MO_leavesOf_200 (by decide) ?_
        refine lv_iconst (v := 0) hx hb d_MO_leavesOf_201 (by decide) ?_
        rcases h_4 : tw_MO_leaf fu lvs lkd lat 0 0 with _ | w_4
        · exact op_no hs (by rw [tw_MO_leavesOf, if_neg c_1, if_neg c_2, if_neg c_3, h_4, ob3_no])
        refine mt_Vv (As := [.int 0, .int 0]) (rest := []) (wr := [(aMst, .inl (cI, 136400, .inl st))]) ⟨hx, hb, hml, hown, hT⟩ (c_MO_leaf l D cB cI aM aMst aMdcs aMtot aMfrm aMsiz aMffr aMfsz aMlkd aMlat aMkkd aMkat aModr aMgrp aMikd aMiat fu thr tpd frs frt top bgn mst ovr tgr its hgh loo dfl _ lvs lkd lat 0 0 w_4 h_4) (cwV 2 hT (gV_of k_1456 k_1458 kp_MO_leaf k_12 kc_MO_leaf) rfl rfl rfl hd_MO_leaf ⟨rl_s (Nat.le_of_ble_eq_true rfl), rl_s (Nat.le_of_ble_eq_true rfl)⟩) hk hP hD hS hA [0, 2, 3] [1] rfl rfl rfl (by decide) (by decide) (by decide) (q0 := 0) rfl rfl rfl rfl hl.1 rfl (Nat.le_of_ble_eq_true rfl) d_MO_leavesOf_202 ⟨Nat.zero_le _, Nat.zero_le _⟩ (fun u_4 H locs hw_4 hP hD hS => ?_)
        subst hw_4
        obtain ⟨lvs_4, lkd_4, lat_4⟩ := u_4
        have hP : va_P D vwCl [(aM, .inr (11, [.int thr, .ref aMst, .int tpd, .ref aMdcs, .ref aMtot, .ref aMfrm, .ref aMsiz, .int frs, .int frt, .ref aMffr, .ref aMfsz, .int top, .int bgn, .int mst, .int (b2i ovr), .int (b2i tgr), .int lvs_4, .ref aMlkd, .ref aMlat, .ref aMkkd, .ref aMkat, .ref aModr, .ref aMgrp, .int its, .ref aMikd, .ref aMiat, .long hgh, .long loo, .int (b2i dfl)])), (aMst, .inl (cI, 136400, .inl st)), (aMlkd, .inl (cI, 60000, .inl lkd_4)), (aMlat, .inl (cI, 60000, .inl lat_4))] H := hP.sub [1, 0, 2, 3] rfl
        have hD : va_D A [(aM, .inr (11, [.int thr, .ref aMst, .int tpd, .ref aMdcs, .ref aMtot, .ref aMfrm, .ref aMsiz, .int frs, .int frt, .ref aMffr, .ref aMfsz, .int top, .int bgn, .int mst, .int (b2i ovr), .int (b2i tgr), .int lvs_4, .ref aMlkd, .ref aMlat, .ref aMkkd, .ref aMkat, .ref aModr, .ref aMgrp, .int its, .ref aMikd, .ref aMiat, .long hgh, .long loo, .int (b2i dfl)])), (aMst, .inl (cI, 136400, .inl st)), (aMlkd, .inl (cI, 60000, .inl lkd_4)), (aMlat, .inl (cI, 60000, .inl lat_4))] := hD.sub [1, 0, 2, 3] (by decide) rfl
        exact W.vret hx hb hr (fun t ht hW => ⟨⟨(lvs_4, lkd_4, lat_4), rfl, (op_eq hs (by rw [tw_MO_leavesOf, if_neg c_1, if_neg c_2, if_neg c_3, h_4, ob3_mk])), by rw [ht]; exact hP, hD⟩, hS.F ht⟩) hS.2.2 d_MO_leavesOf_205
      · refine lv_aload_n hx hb d_MO_leavesOf_115 rfl (lv_at hl 0 rfl) ?_
        refine lv_iload_n hx hb d_MO_leavesOf_116 rfl (lv_at hl 2 rfl) ?_
        refine lv_iload_n hx hb d_MO_leavesOf_117 rfl (lv_at hl 3 rfl) ?_
        rcases h_5 : tw_MO_met fu st p1 p2 with _ | r_5
        · exact op_no hs (by rw [tw_MO_leavesOf, if_neg c_1, if_neg c_2, if_pos c_3, h_5, ob1_no])
        refine rd_V (val := r_5) (As := [.int p1, .int p2]) (rest := []) ⟨hx, hb, hml, hown, hT⟩ (c_MO_met l D cB cI aM aMst aMdcs aMtot aMfrm aMsiz aMffr aMfsz aMlkd aMlat aMkkd aMkat aModr aMgrp aMikd aMiat fu thr tpd frs frt top bgn mst ovr tgr lvs its hgh loo dfl st p1 p2 r_5 h_5) (cwV 2 hT (gV_of k_1355 k_1357 kp_MO_met k_12 kc_MO_met) rfl rfl rfl hd_MO_met ⟨rl_s (Nat.le_of_ble_eq_true rfl), rl_s (Nat.le_of_ble_eq_true rfl)⟩) hk (hP.sub (ws' := [(aM, .inr (11, [.int thr, .ref aMst, .int tpd, .ref aMdcs, .ref aMtot, .ref aMfrm, .ref aMsiz, .int frs, .int frt, .ref aMffr, .ref aMfsz, .int top, .int bgn, .int mst, .int (b2i ovr), .int (b2i tgr), .int lvs, .ref aMlkd, .ref aMlat, .ref aMkkd, .ref aMkat, .ref aModr, .ref aMgrp, .int its, .ref aMikd, .ref aMiat, .long hgh, .long loo, .int (b2i dfl)])), (aMst, .inl (cI, 136400, .inl st))]) [0, 1] rfl) (q0 := 0) rfl rfl rfl rfl hl.1 rfl (Nat.le_of_ble_eq_true rfl) d_MO_leavesOf_118 ⟨Nat.zero_le _, Nat.zero_le _⟩ ?_
        refine lv_istore (lv' := [(4, .int r_5), (0, .ref aM), (1, .int p0), (2, .int p1), (3, .int p2)]) hx hb d_MO_leavesOf_121 hl (by decide) rfl (fun ls hl => ?_)
        refine l_MO_leavesOf_r123 C0 hs l D cB cI aM aMst aMdcs aMtot aMfrm aMsiz aMffr aMfsz aMlkd aMlat aMkkd aMkat aModr aMgrp aMikd aMiat rF rL fu fl thr tpd frs frt top bgn mst ovr tgr its hgh loo dfl st hk hA p1 p2 r_5 lvs lkd lat hfl (K := (fun (lvs_11 : Int32) (lkd_11 : Nat → Int32) (lat_11 : Nat → Int32) =>
            ob1 (tw_MO_firstOf fu st p1) (fun r_12 =>
              tw_MO_leavesOf_h157 fu fl st (fun (x5_20 : Int32) (lvs_20 : Int32) (lkd_20 : Nat → Int32) (lat_20 : Nat → Int32) =>
            some (lvs_20, lkd_20, lat_20)) p2 fu r_12 lvs_11 lkd_11 lat_11))) ?_ (by rw [tw_MO_leavesOf, if_neg c_1, if_neg c_2, if_pos c_3, h_5, ob1_mk]) _ _ hP hD hS ls (lv_sub hl [1, 3, 4, 0] rfl)
        intro lvs_11 lkd_11 lat_11 hV_11 H locs hP hD hS ls hl
        refine lv_aload_n hx hb d_MO_leavesOf_150 rfl (lv_at hl 0 rfl) ?_
        refine lv_iload_n hx hb d_MO_leavesOf_151 rfl (lv_at hl 1 rfl) ?_
        rcases h_12 : tw_MO_firstOf fu st p1 with _ | r_12
        · exact op_no hs (by rw [hV_11, h_12, ob1_no])
        refine rd_V (val := r_12) (As := [.int p1]) (rest := []) ⟨hx, hb, hml, hown, hT⟩ (c_MO_firstOf l D cB cI aM aMst aMdcs aMtot aMfrm aMsiz aMffr aMfsz aMlkd aMlat aMkkd aMkat aModr aMgrp aMikd aMiat fu thr tpd frs frt top bgn mst ovr tgr lvs_11 its hgh loo dfl st p1 r_12 h_12) (cwV 1 hT (gV_of k_1196 k_1198 kp_MO_firstOf k_12 kc_MO_firstOf) rfl rfl rfl hd_MO_firstOf ⟨rl_s (Nat.le_of_ble_eq_true rfl), rl_s (Nat.le_of_ble_eq_true rfl)⟩) hk (hP.sub (ws' := [(aM, .inr (11, [.int thr, .ref aMst, .int tpd, .ref aMdcs, .ref aMtot, .ref aMfrm, .ref aMsiz, .int frs, .int frt, .ref aMffr, .ref aMfsz, .int top, .int bgn, .int mst, .int (b2i ovr), .int (b2i tgr), .int lvs_11, .ref aMlkd, .ref aMlat, .ref aMkkd, .ref aMkat, .ref aModr, .ref aMgrp, .int its, .ref aMikd, .ref aMiat, .long hgh, .long loo, .int (b2i dfl)])), (aMst, .inl (cI, 136400, .inl st))]) [0, 1] rfl) (q0 := 0) rfl rfl rfl rfl hl.1 rfl (Nat.le_of_ble_eq_true rfl) d_MO_leavesOf_152 ⟨Nat.zero_le _, Nat.zero_le _⟩ ?_
        refine lv_istore (lv' := [(5, .int r_12), (0, .ref aM), (2, .int p1), (3, .int p2)]) hx hb d_MO_leavesOf_155 hl (by decide) rfl (fun ls hl => ?_)
        refine l_MO_leavesOf_h157 C0 hs l D cB cI aM aMst aMdcs aMtot aMfrm aMsiz aMffr aMfsz aMlkd aMlat aMkkd aMkat aModr aMgrp aMikd aMiat rF rL fu fl thr tpd frs frt top bgn mst ovr tgr its hgh loo dfl st hk hA p2 hfl  (K := (fun (x5_20 : Int32) (lvs_20 : Int32) (lkd_20 : Nat → Int32) (lat_20 : Nat → Int32) =>
            some (lvs_20, lkd_20, lat_20))) ?_ fu r_12 lvs_11 lkd_11 lat_11  (by rw [hV_11, h_12, ob1_mk]) _ _ hP hD hS ls (lv_sub hl [1, 3, 0] rfl)
        intro x5_20 lvs_20 lkd_20 lat_20 hV_20 H locs hP hD hS ls hl
        refine lv_goto (tgt := 205) hx hb d_MO_leavesOf_196 (by decide) ?_
        exact W.vret hx hb hr (fun t ht hW => ⟨⟨(lvs_20, lkd_20, lat_20), rfl, (op_eq hs (by rw [hV_20])), by rw [ht]; exact hP, hD⟩, hS.F ht⟩) hS.2.2 d_MO_leavesOf_205
    · refine lv_aload_n hx hb d_MO_leavesOf_63 rfl (lv_at hl 0 rfl) ?_
      refine lv_iload_n hx hb d_MO_leavesOf_64 rfl (lv_at hl 2 rfl) ?_
      refine lv_iload_n hx hb d_MO_leavesOf_65 rfl (lv_at hl 3 rfl) ?_
      rcases h_21 : tw_MO_met fu st p1 p2 with _ | r_21
      · exact op_no hs (by rw [tw_MO_leavesOf, if_neg c_1, if_pos c_2, h_21, ob1_no])
      refine rd_V (val := r_21) (As := [.int p1, .int p2]) (rest := []) ⟨hx, hb, hml, hown, hT⟩ (c_MO_met l D cB cI aM aMst aMdcs aMtot aMfrm aMsiz aMffr aMfsz aMlkd aMlat aMkkd aMkat aModr aMgrp aMikd aMiat fu thr tpd frs frt top bgn mst ovr tgr lvs its hgh loo dfl st p1 p2 r_21 h_21) (cwV 2 hT (gV_of k_1355 k_1357 kp_MO_met k_12 kc_MO_met) rfl rfl rfl hd_MO_met ⟨rl_s (Nat.le_of_ble_eq_true rfl), rl_s (Nat.le_of_ble_eq_true rfl)⟩) hk (hP.sub (ws' := [(aM, .inr (11, [.int thr, .ref aMst, .int tpd, .ref aMdcs, .ref aMtot, .ref aMfrm, .ref aMsiz, .int frs, .int frt, .ref aMffr, .ref aMfsz, .int top, .int bgn, .int mst, .int (b2i ovr), .int (b2i tgr), .int lvs, .ref aMlkd, .ref aMlat, .ref aMkkd, .ref aMkat, .ref aModr, .ref aMgrp, .int its, .ref aMikd, .ref aMiat, .long hgh, .long loo, .int (b2i dfl)])), (aMst, .inl (cI, 136400, .inl st))]) [0, 1] rfl) (q0 := 0) rfl rfl rfl rfl hl.1 rfl (Nat.le_of_ble_eq_true rfl) d_MO_leavesOf_66 ⟨Nat.zero_le _, Nat.zero_le _⟩ ?_
      refine lv_istore (lv' := [(4, .int r_21), (0, .ref aM), (1, .int p0), (2, .int p1), (3, .int p2)]) hx hb d_MO_leavesOf_69 hl (by decide) rfl (fun ls hl => ?_)
      refine l_MO_leavesOf_r71 C0 hs l D cB cI aM aMst aMdcs aMtot aMfrm aMsiz aMffr aMfsz aMlkd aMlat aMkkd aMkat aModr aMgrp aMikd aMiat rF rL fu fl thr tpd frs frt top bgn mst ovr tgr its hgh loo dfl st hk hA p2 r_21 lvs lkd lat hfl (K := (fun (lvs_28 : Int32) (lkd_28 : Nat → Int32) (lat_28 : Nat → Int32) =>
          some (lvs_28, lkd_28, lat_28))) ?_ (by rw [tw_MO_leavesOf, if_neg c_1, if_pos c_2, h_21, ob1_mk]) _ _ hP hD hS ls (lv_sub hl [1, 4, 0] rfl)
      intro lvs_28 lkd_28 lat_28 hV_28 H locs hP hD hS ls hl
      refine lv_goto (tgt := 205) hx hb d_MO_leavesOf_107 (by decide) ?_
      exact W.vret hx hb hr (fun t ht hW => ⟨⟨(lvs_28, lkd_28, lat_28), rfl, (op_eq hs (by rw [hV_28])), by rw [ht]; exact hP, hD⟩, hS.F ht⟩) hS.2.2 d_MO_leavesOf_205
  · refine lv_aload_n hx hb d_MO_leavesOf_4 rfl (lv_at hl 0 rfl) ?_
    refine lv_iload_n hx hb d_MO_leavesOf_5 rfl (lv_at hl 1 rfl) ?_
    refine lv_iload_n hx hb d_MO_leavesOf_6 rfl (lv_at hl 2 rfl) ?_
    rcases h_29 : tw_MO_leaf fu lvs lkd lat p0 p1 with _ | w_29
    · exact op_no hs (by rw [tw_MO_leavesOf, if_pos c_1, h_29, ob3_no])
    refine mt_Vv (As := [.int p0, .int p1]) (rest := []) (wr := [(aMst, .inl (cI, 136400, .inl st))]) ⟨hx, hb, hml, hown, hT⟩ (c_MO_leaf l D cB cI aM aMst aMdcs aMtot aMfrm aMsiz aMffr aMfsz aMlkd aMlat aMkkd aMkat aModr aMgrp aMikd aMiat fu thr tpd frs frt top bgn mst ovr tgr its hgh loo dfl _ lvs lkd lat p0 p1 w_29 h_29) (cwV 2 hT (gV_of k_1456 k_1458 kp_MO_leaf k_12 kc_MO_leaf) rfl rfl rfl hd_MO_leaf ⟨rl_s (Nat.le_of_ble_eq_true rfl), rl_s (Nat.le_of_ble_eq_true rfl)⟩) hk hP hD hS hA [0, 2, 3] [1] rfl rfl rfl (by decide) (by decide) (by decide) (q0 := 0) rfl rfl rfl rfl hl.1 rfl (Nat.le_of_ble_eq_true rfl) d_MO_leavesOf_7 ⟨Nat.zero_le _, Nat.zero_le _⟩ (fun u_29 H locs hw_29 hP hD hS => ?_)
    subst hw_29
    obtain ⟨lvs_29, lkd_29, lat_29⟩ := u_29
    have hP : va_P D vwCl [(aM, .inr (11, [.int thr, .ref aMst, .int tpd, .ref aMdcs, .ref aMtot, .ref aMfrm, .ref aMsiz, .int frs, .int frt, .ref aMffr, .ref aMfsz, .int top, .int bgn, .int mst, .int (b2i ovr), .int (b2i tgr), .int lvs_29, .ref aMlkd, .ref aMlat, .ref aMkkd, .ref aMkat, .ref aModr, .ref aMgrp, .int its, .ref aMikd, .ref aMiat, .long hgh, .long loo, .int (b2i dfl)])), (aMst, .inl (cI, 136400, .inl st)), (aMlkd, .inl (cI, 60000, .inl lkd_29)), (aMlat, .inl (cI, 60000, .inl lat_29))] H := hP.sub [1, 0, 2, 3] rfl
    have hD : va_D A [(aM, .inr (11, [.int thr, .ref aMst, .int tpd, .ref aMdcs, .ref aMtot, .ref aMfrm, .ref aMsiz, .int frs, .int frt, .ref aMffr, .ref aMfsz, .int top, .int bgn, .int mst, .int (b2i ovr), .int (b2i tgr), .int lvs_29, .ref aMlkd, .ref aMlat, .ref aMkkd, .ref aMkat, .ref aModr, .ref aMgrp, .int its, .ref aMikd, .ref aMiat, .long hgh, .long loo, .int (b2i dfl)])), (aMst, .inl (cI, 136400, .inl st)), (aMlkd, .inl (cI, 60000, .inl lkd_29)), (aMlat, .inl (cI, 60000, .inl lat_29))] := hD.sub [1, 0, 2, 3] (by decide) rfl
    refine lv_iload_n hx hb d_MO_leavesOf_10 rfl (lv_at hl 1 rfl) ?_
    refine lv_iconst (v := 4) hx hb d_MO_leavesOf_11 (by decide) ?_
    refine lv_icmp_ne (tgt := 205) hx hb d_MO_leavesOf_12 (by decide) (fun c_30 => ?_) (fun c_30 => ?_)
    · exact W.vret hx hb hr (fun t ht hW => ⟨⟨(lvs_29, lkd_29, lat_29), rfl, (op_eq hs (by rw [tw_MO_leavesOf, if_pos c_1, h_29, ob3_mk, if_neg c_30])), by rw [ht]; exact hP, hD⟩, hS.F ht⟩) hS.2.2 d_MO_leavesOf_205
    · refine lv_aload_n hx hb d_MO_leavesOf_15 rfl (lv_at hl 0 rfl) ?_
      refine lv_iload_n hx hb d_MO_leavesOf_16 rfl (lv_at hl 2 rfl) ?_
      rcases h_31 : tw_MO_firstOf fu st p1 with _ | r_31
      · exact op_no hs (by rw [tw_MO_leavesOf, if_pos c_1, h_29, ob3_mk, if_pos c_30, h_31, ob1_no])
      refine rd_V (val := r_31) (As := [.int p1]) (rest := []) ⟨hx, hb, hml, hown, hT⟩ (c_MO_firstOf l D cB cI aM aMst aMdcs aMtot aMfrm aMsiz aMffr aMfsz aMlkd aMlat aMkkd aMkat aModr aMgrp aMikd aMiat fu thr tpd frs frt top bgn mst ovr tgr lvs_29 its hgh loo dfl st p1 r_31 h_31) (cwV 1 hT (gV_of k_1196 k_1198 kp_MO_firstOf k_12 kc_MO_firstOf) rfl rfl rfl hd_MO_firstOf ⟨rl_s (Nat.le_of_ble_eq_true rfl), rl_s (Nat.le_of_ble_eq_true rfl)⟩) hk (hP.sub (ws' := [(aM, .inr (11, [.int thr, .ref aMst, .int tpd, .ref aMdcs, .ref aMtot, .ref aMfrm, .ref aMsiz, .int frs, .int frt, .ref aMffr, .ref aMfsz, .int top, .int bgn, .int mst, .int (b2i ovr), .int (b2i tgr), .int lvs_29, .ref aMlkd, .ref aMlat, .ref aMkkd, .ref aMkat, .ref aModr, .ref aMgrp, .int its, .ref aMikd, .ref aMiat, .long hgh, .long loo, .int (b2i dfl)])), (aMst, .inl (cI, 136400, .inl st))]) [0, 1] rfl) (q0 := 0) rfl rfl rfl rfl hl.1 rfl (Nat.le_of_ble_eq_true rfl) d_MO_leavesOf_17 ⟨Nat.zero_le _, Nat.zero_le _⟩ ?_
      refine lv_istore (lv' := [(4, .int r_31), (0, .ref aM), (1, .int p0), (2, .int p1), (3, .int p2)]) hx hb d_MO_leavesOf_20 hl (by decide) rfl (fun ls hl => ?_)
      refine l_MO_leavesOf_h22 C0 hs l D cB cI aM aMst aMdcs aMtot aMfrm aMsiz aMffr aMfsz aMlkd aMlat aMkkd aMkat aModr aMgrp aMikd aMiat rF rL fu fl thr tpd frs frt top bgn mst ovr tgr its hgh loo dfl st hk hA  hfl  (K := (fun (x4_37 : Int32) (lvs_37 : Int32) (lkd_37 : Nat → Int32) (lat_37 : Nat → Int32) =>
          some (lvs_37, lkd_37, lat_37))) ?_ fu r_31 lvs_29 lkd_29 lat_29  (by rw [tw_MO_leavesOf, if_pos c_1, h_29, ob3_mk, if_pos c_30, h_31, ob1_mk]) _ _ hP hD hS ls (lv_sub hl [1, 0] rfl)
      intro x4_37 lvs_37 lkd_37 lat_37 hV_37 H locs hP hD hS ls hl
      refine lv_goto (tgt := 205) hx hb d_MO_leavesOf_55 (by decide) ?_
      exact W.vret hx hb hr (fun t ht hW => ⟨⟨(lvs_37, lkd_37, lat_37), rfl, (op_eq hs (by rw [hV_37])), by rw [ht]; exact hP, hD⟩, hS.F ht⟩) hS.2.2 d_MO_leavesOf_205
set_option maxHeartbeats 4000000 in
set_option maxRecDepth 100000 in
theorem c_tw_MO_lvs (l : Launch) (D : va_G) (cB cI : ClassId) (aM aMst aMdcs aMtot aMfrm aMsiz aMffr aMfsz aMlkd aMlat aMkkd aMkat aModr aMgrp aMikd aMiat : Nat) (fu : Nat) (thr : Int32) (tpd : Int32) (frs : Int32) (frt : Int32) (top : Int32) (bgn : Int32) (mst : Int32) (ovr : Bool) (tgr : Bool) (its : Int32) (hgh : Int64) (loo : Int64) (dfl : Bool) (st : Nat → Int32) : ∀ (k : Nat) (sz : Nat) (lvs : Int32) (lkd : Nat → Int32) (lat : Nat → Int32) (z0 z1 z2 : Int32) (V1 : Int32 × (Nat → Int32) × (Nat → Int32)), tw_MO_lvs fu st k lvs lkd lat z0 z1 z2 = some V1 → Met l y_MO_leavesOf mw_MO_leavesOf { frames := 8 * k, cells := 0, slots := 0, locals := 240 * k } (va_Pc [.ref aM, .int z0, .int z1, .int z2] (mt_P D cB cI (wd_MO_leavesOf aM aMst aMdcs aMtot aMfrm aMsiz aMffr aMfsz aMlkd aMlat aMkkd aMkat aModr aMgrp aMikd aMiat cB cI thr tpd frs frt top bgn mst ovr tgr its hgh loo dfl st lvs lkd lat) sz)) (va_Qv (fun (u : Int32 × (Nat → Int32) × (Nat → Int32)) => u = V1) (mt_B D (va_A (wd_MO_leavesOf aM aMst aMdcs aMtot aMfrm aMsiz aMffr aMfsz aMlkd aMlat aMkkd aMkat aModr aMgrp aMikd aMiat cB cI thr tpd frs frt top bgn mst ovr tgr its hgh loo dfl st lvs lkd lat) sz) (fun u => wd_MO_leavesOf aM aMst aMdcs aMtot aMfrm aMsiz aMffr aMfsz aMlkd aMlat aMkkd aMkat aModr aMgrp aMikd aMiat cB cI thr tpd frs frt top bgn mst ovr tgr its hgh loo dfl st u.1 u.2.1 u.2.2)) (va_A (wd_MO_leavesOf aM aMst aMdcs aMtot aMfrm aMsiz aMffr aMfsz aMlkd aMlat aMkkd aMkat aModr aMgrp aMikd aMiat cB cI thr tpd frs frt top bgn mst ovr tgr its hgh loo dfl st lvs lkd lat) sz)) 0 0 (va_A (wd_MO_leavesOf aM aMst aMdcs aMtot aMfrm aMsiz aMffr aMfsz aMlkd aMlat aMkkd aMkat aModr aMgrp aMikd aMiat cB cI thr tpd frs frt top bgn mst ovr tgr its hgh loo dfl st lvs lkd lat) sz) := by
  intro k
  induction k with
  | zero =>
    intro sz lvs lkd lat z0 z1 z2 V1 hs
    cases hs
  | succ k ih =>
    intro sz lvs lkd lat z0 z1 z2 V1 hs
    exact c_MO_leavesOf l D cB cI aM aMst aMdcs aMtot aMfrm aMsiz aMffr aMfsz aMlkd aMlat aMkkd aMkat aModr aMgrp aMikd aMiat (8 * k) (240 * k) fu _ thr tpd frs frt top bgn mst ovr tgr its hgh loo dfl st sz lvs lkd lat z0 z1 z2 (fun sz2 lvs2 lkd2 lat2 z02 z12 z22 V2 h2 => ih sz2 lvs2 lkd2 lat2 z02 z12 z22 V2 h2) V1 hs
set_option maxHeartbeats 4000000 in
set_option maxRecDepth 100000 in
theorem c_tw_MO_lvs0 (l : Launch) (D : va_G) (cB cI : ClassId) (aM aMst aMdcs aMtot aMfrm aMsiz aMffr aMfsz aMlkd aMlat aMkkd aMkat aModr aMgrp aMikd aMiat : Nat) (fu : Nat) (thr : Int32) (tpd : Int32) (frs : Int32) (frt : Int32) (top : Int32) (bgn : Int32) (mst : Int32) (ovr : Bool) (tgr : Bool) (its : Int32) (hgh : Int64) (loo : Int64) (dfl : Bool) (st : Nat → Int32) (sz : Nat) (lvs : Int32) (lkd : Nat → Int32) (lat : Nat → Int32) (z0 z1 z2 : Int32) (V1 : Int32 × (Nat → Int32) × (Nat → Int32)) (hs : tw_MO_lvs0 fu st lvs lkd lat z0 z1 z2 = some V1) : Met l y_MO_leavesOf mw_MO_leavesOf { frames := 208, cells := 0, slots := 0, locals := 6240 } (va_Pc [.ref aM, .int z0, .int z1, .int z2] (mt_P D cB cI (wd_MO_leavesOf aM aMst aMdcs aMtot aMfrm aMsiz aMffr aMfsz aMlkd aMlat aMkkd aMkat aModr aMgrp aMikd aMiat cB cI thr tpd frs frt top bgn mst ovr tgr its hgh loo dfl st lvs lkd lat) sz)) (va_Qv (fun (u : Int32 × (Nat → Int32) × (Nat → Int32)) => u = V1) (mt_B D (va_A (wd_MO_leavesOf aM aMst aMdcs aMtot aMfrm aMsiz aMffr aMfsz aMlkd aMlat aMkkd aMkat aModr aMgrp aMikd aMiat cB cI thr tpd frs frt top bgn mst ovr tgr its hgh loo dfl st lvs lkd lat) sz) (fun u => wd_MO_leavesOf aM aMst aMdcs aMtot aMfrm aMsiz aMffr aMfsz aMlkd aMlat aMkkd aMkat aModr aMgrp aMikd aMiat cB cI thr tpd frs frt top bgn mst ovr tgr its hgh loo dfl st u.1 u.2.1 u.2.2)) (va_A (wd_MO_leavesOf aM aMst aMdcs aMtot aMfrm aMsiz aMffr aMfsz aMlkd aMlat aMkkd aMkat aModr aMgrp aMikd aMiat cB cI thr tpd frs frt top bgn mst ovr tgr its hgh loo dfl st lvs lkd lat) sz)) 0 0 (va_A (wd_MO_leavesOf aM aMst aMdcs aMtot aMfrm aMsiz aMffr aMfsz aMlkd aMlat aMkkd aMkat aModr aMgrp aMikd aMiat cB cI thr tpd frs frt top bgn mst ovr tgr its hgh loo dfl st lvs lkd lat) sz) := c_tw_MO_lvs l D cB cI aM aMst aMdcs aMtot aMfrm aMsiz aMffr aMfsz aMlkd aMlat aMkkd aMkat aModr aMgrp aMikd aMiat fu thr tpd frs frt top bgn mst ovr tgr its hgh loo dfl st 26 sz lvs lkd lat z0 z1 z2 V1 hs

abbrev wd_MO_emit (aM aMst aMdcs aMtot aMfrm aMsiz aMffr aMfsz aMlkd aMlat aMkkd aMkat aModr aMgrp aMikd aMiat : Nat) (cB cI : ClassId) (thr : Int32) (tpd : Int32) (frs : Int32) (frt : Int32) (bgn : Int32) (mst : Int32) (tgr : Bool) (lvs : Int32) (its : Int32) (hgh : Int64) (loo : Int64) (dfl : Bool) (top : Int32) (ovr : Bool) (st : Nat → Int32) : va_W := [(aM, .inr (11, [.int thr, .ref aMst, .int tpd, .ref aMdcs, .ref aMtot, .ref aMfrm, .ref aMsiz, .int frs, .int frt, .ref aMffr, .ref aMfsz, .int top, .int bgn, .int mst, .int (b2i ovr), .int (b2i tgr), .int lvs, .ref aMlkd, .ref aMlat, .ref aMkkd, .ref aMkat, .ref aModr, .ref aMgrp, .int its, .ref aMikd, .ref aMiat, .long hgh, .long loo, .int (b2i dfl)])), (aMst, .inl (cI, 136400, .inl st))]
set_option maxHeartbeats 4000000 in
set_option maxRecDepth 100000 in
theorem l_MO_emit_r135 {p : Program} {e : Env} {s : State} {m : MethodId} {args : Array Value} {below : List Frame} {meth : Method} {c : Code} {V : Option (Int32 × Int32 × Bool × (Nat → Int32))} {V0 : Int32 × Int32 × Bool × (Nat → Int32)} (C0 : lc_C p s m meth c args b_MO_emit 9 (some .int) R_MO lw_g) (hs : V = some V0) (l : Launch) (D : va_G) (cB cI : ClassId) (aM aMst aMdcs aMtot aMfrm aMsiz aMffr aMfsz aMlkd aMlat aMkkd aMkat aModr aMgrp aMikd aMiat : Nat) (rF : Nat) (rL : Nat) (fu : Nat) (fm : Int32 → Bool → (Nat → Int32) → Int32 → Int32 → Int32 → Option (Int32 × Int32 × Bool × (Nat → Int32))) (thr : Int32) (tpd : Int32) (frs : Int32) (frt : Int32) (bgn : Int32) (mst : Int32) (tgr : Bool) (lvs : Int32) (its : Int32) (hgh : Int64) (loo : Int64) (dfl : Bool)  {A : Nat → Prop} (hk : hk_ D cB cI s) (hA : ∀ q : Nat, s.heap.size ≤ q → A q) (x3 : Int32) (x4 : Int32) (x5 : Int32) (x6 : Int32) (x7 : Int32) (x8 : Int32) (top : Int32) (ovr : Bool) (st : Nat → Int32) (hfm : ∀ (sz : Nat) (top : Int32) (ovr : Bool) (st : Nat → Int32) (z0 z1 z2 : Int32) (V1 : Int32 × Int32 × Bool × (Nat → Int32)), fm top ovr st z0 z1 z2 = some V1 → Met l y_MO_emit mw_MO_emit { frames := rF, cells := 0, slots := 0, locals := rL } (va_Pc [.ref aM, .int z0, .int z1, .int z2] (mt_P D cB cI (wd_MO_emit aM aMst aMdcs aMtot aMfrm aMsiz aMffr aMfsz aMlkd aMlat aMkkd aMkat aModr aMgrp aMikd aMiat cB cI thr tpd frs frt bgn mst tgr lvs its hgh loo dfl top ovr st) sz)) (va_Qi (fun (r : Int32) (u : Int32 × Bool × (Nat → Int32)) => (r, u) = V1) (mt_B D (va_A (wd_MO_emit aM aMst aMdcs aMtot aMfrm aMsiz aMffr aMfsz aMlkd aMlat aMkkd aMkat aModr aMgrp aMikd aMiat cB cI thr tpd frs frt bgn mst tgr lvs its hgh loo dfl top ovr st) sz) (fun u => wd_MO_emit aM aMst aMdcs aMtot aMfrm aMsiz aMffr aMfsz aMlkd aMlat aMkkd aMkat aModr aMgrp aMikd aMiat cB cI thr tpd frs frt bgn mst tgr lvs its hgh loo dfl u.1 u.2.1 u.2.2)) (va_A (wd_MO_emit aM aMst aMdcs aMtot aMfrm aMsiz aMffr aMfsz aMlkd aMlat aMkkd aMkat aModr aMgrp aMikd aMiat cB cI thr tpd frs frt bgn mst tgr lvs its hgh loo dfl top ovr st) sz)) 0 0 (va_A (wd_MO_emit aM aMst aMdcs aMtot aMfrm aMsiz aMffr aMfsz aMlkd aMlat aMkkd aMkat aModr aMgrp aMikd aMiat cB cI thr tpd frs frt bgn mst tgr lvs its hgh loo dfl top ovr st) sz)) {K : Int32 → Bool → (Nat → Int32) → Option (Int32 × Int32 × Bool × (Nat → Int32))} (hKx : ∀ (top' : Int32) (ovr' : Bool) (st' : Nat → Int32), V = K top' ovr' st' → ∀ (H : Heap) (locs : List Loc), va_P D vwCl [(aM, .inr (11, [.int thr, .ref aMst, .int tpd, .ref aMdcs, .ref aMtot, .ref aMfrm, .ref aMsiz, .int frs, .int frt, .ref aMffr, .ref aMfsz, .int top', .int bgn, .int mst, .int (b2i ovr'), .int (b2i tgr), .int lvs, .ref aMlkd, .ref aMlat, .ref aMkkd, .ref aMkat, .ref aModr, .ref aMgrp, .int its, .ref aMikd, .ref aMiat, .long hgh, .long loo, .int (b2i dfl)])), (aMst, .inl (cI, 136400, .inl st'))] H → va_D A [(aM, .inr (11, [.int thr, .ref aMst, .int tpd, .ref aMdcs, .ref aMtot, .ref aMfrm, .ref aMsiz, .int frs, .int frt, .ref aMffr, .ref aMfsz, .int top', .int bgn, .int mst, .int (b2i ovr'), .int (b2i tgr), .int lvs, .ref aMlkd, .ref aMlat, .ref aMkkd, .ref aMkat, .ref aModr, .ref aMgrp, .int its, .ref aMikd, .ref aMiat, .long hgh, .long loo, .int (b2i dfl)])), (aMst, .inl (cI, 136400, .inl st'))] → va_S A s.heap H locs → ∀ ls : Array Slot, lv_has ls 9 [(0, .ref aM), (3, .int x3), (4, .int x4), (5, .int x5), (6, .int x6), (8, .int x8)] → W p l e ({ frames := rF + 8, cells := 0, slots := 0, locals := rL + 240 }) s m args below meth c H locs 0 0 (MQ below (va_Qi (fun (r : Int32) (u : Int32 × Bool × (Nat → Int32)) => (r, u) = V0) (mt_B D A (fun u => wd_MO_emit aM aMst aMdcs aMtot aMfrm aMsiz aMffr aMfsz aMlkd aMlat aMkkd aMkat aModr aMgrp aMikd aMiat cB cI thr tpd frs frt bgn mst tgr lvs its hgh loo dfl u.1 u.2.1 u.2.2)) A) args s 0 0 A) (F0 m 158 ls [])) (hV : V = tw_MO_emit_r135 fu fm bgn mst K x3 x4 x5 x6 x7 x8 top ovr st) : ∀ (H : Heap) (locs : List Loc), va_P D vwCl [(aM, .inr (11, [.int thr, .ref aMst, .int tpd, .ref aMdcs, .ref aMtot, .ref aMfrm, .ref aMsiz, .int frs, .int frt, .ref aMffr, .ref aMfsz, .int top, .int bgn, .int mst, .int (b2i ovr), .int (b2i tgr), .int lvs, .ref aMlkd, .ref aMlat, .ref aMkkd, .ref aMkat, .ref aModr, .ref aMgrp, .int its, .ref aMikd, .ref aMiat, .long hgh, .long loo, .int (b2i dfl)])), (aMst, .inl (cI, 136400, .inl st))] H → va_D A [(aM, .inr (11, [.int thr, .ref aMst, .int tpd, .ref aMdcs, .ref aMtot, .ref aMfrm, .ref aMsiz, .int frs, .int frt, .ref aMffr, .ref aMfsz, .int top, .int bgn, .int mst, .int (b2i ovr), .int (b2i tgr), .int lvs, .ref aMlkd, .ref aMlat, .ref aMkkd, .ref aMkat, .ref aModr, .ref aMgrp, .int its, .ref aMikd, .ref aMiat, .long hgh, .long loo, .int (b2i dfl)])), (aMst, .inl (cI, 136400, .inl st))] → va_S A s.heap H locs → ∀ ls : Array Slot, lv_has ls 9 [(0, .ref aM), (3, .int x3), (4, .int x4), (5, .int x5), (6, .int x6), (7, .int x7), (8, .int x8)] → W p l e ({ frames := rF + 8, cells := 0, slots := 0, locals := rL + 240 }) s m args below meth c H locs 0 0 (MQ below (va_Qi (fun (r : Int32) (u : Int32 × Bool × (Nat → Int32)) => (r, u) = V0) (mt_B D A (fun u => wd_MO_emit aM aMst aMdcs aMtot aMfrm aMsiz aMffr aMfsz aMlkd aMlat aMkkd aMkat aModr aMgrp aMikd aMiat cB cI thr tpd frs frt bgn mst tgr lvs its hgh loo dfl u.1 u.2.1 u.2.2)) A) args s 0 0 A) (F0 m 135 ls []) := by
  obtain ⟨hx, hb, hml, hr, hown, hlocks, hT⟩ := id C0
  have hK := hk.1
  have hN := hk.2.1
  intro H locs hP hD hS ls hl
  refine lv_iload hx hb d_MO_emit_135 (lv_at hl 6 rfl) ?_
  refine lv_if_ne (tgt := 149) hx hb d_MO_emit_137 (by decide) (fun c_13 => ?_) (fun c_13 => ?_)
  · refine lv_aload_n hx hb d_MO_emit_149 rfl (lv_at hl 0 rfl) ?_
    refine va_get (D := D) (ci := 11) (v := .ref aMst) (C := R_MO) (T := T_MO) (N := 29) hx hb hT u_MO hown hK hP 0 rfl rfl 1 (by decide) (hT _ k_1044) (fun _ h9 => h9) rfl d_MO_emit_150 ?_
    refine lv_iload hx hb d_MO_emit_153 (lv_at hl 5 rfl) ?_
    refine lv_iload hx hb d_MO_emit_155 (lv_at hl 6 rfl) ?_
    by_cases c_14 : 0 ≤ x7 ∧ x7 < 136400
    rotate_left
    · exact op_no hs (by rw [hV, tw_MO_emit_r135, if_neg c_13, if_neg c_14])
    refine va_iast hx hb hK hP hD hS 1 1 rfl rfl (in_pp c_14.1 c_14.2 rfl) d_MO_emit_157 (fun H locs hP hD hS => ?_)
    have hP : va_P D vwCl [(aM, .inr (11, [.int thr, .ref aMst, .int tpd, .ref aMdcs, .ref aMtot, .ref aMfrm, .ref aMsiz, .int frs, .int frt, .ref aMffr, .ref aMfsz, .int top, .int bgn, .int mst, .int (b2i ovr), .int (b2i tgr), .int lvs, .ref aMlkd, .ref aMlat, .ref aMkkd, .ref aMkat, .ref aModr, .ref aMgrp, .int its, .ref aMikd, .ref aMiat, .long hgh, .long loo, .int (b2i dfl)])), (aMst, .inl (cI, 136400, .inl (upd st x7.toNatClampNeg x8)))] H := hP
    have hD : va_D A [(aM, .inr (11, [.int thr, .ref aMst, .int tpd, .ref aMdcs, .ref aMtot, .ref aMfrm, .ref aMsiz, .int frs, .int frt, .ref aMffr, .ref aMfsz, .int top, .int bgn, .int mst, .int (b2i ovr), .int (b2i tgr), .int lvs, .ref aMlkd, .ref aMlat, .ref aMkkd, .ref aMkat, .ref aModr, .ref aMgrp, .int its, .ref aMikd, .ref aMiat, .long hgh, .long loo, .int (b2i dfl)])), (aMst, .inl (cI, 136400, .inl (upd st x7.toNatClampNeg x8)))] := hD
    exact hKx top ovr (upd st x7.toNatClampNeg x8) (by rw [hV, tw_MO_emit_r135, if_neg c_13, if_pos c_14]) _ _ hP hD hS ls (lv_sub hl [0, 1, 2, 3, 4, 6] rfl)
  · refine lv_aload_n hx hb d_MO_emit_140 rfl (lv_at hl 0 rfl) ?_
    refine lv_iload hx hb d_MO_emit_141 (lv_at hl 5 rfl) ?_
    refine va_put (D := D) (ci := 11) (v := .int x7) (ty := .int) (C := R_MO) (T := T_MO) (N := 29) hx hb hT u_MO ty_MO tyok_MO nm_MO hown hK hP hD hS 0 rfl rfl 11 (by decide) (hT _ k_1054) (fun _ h9 => h9) rfl (by decide +kernel) (rfl) (rfl) (Nat.le_of_ble_eq_true rfl) d_MO_emit_143 (fun H locs hP hD hS => ?_)
    have hP : va_P D vwCl [(aM, .inr (11, [.int thr, .ref aMst, .int tpd, .ref aMdcs, .ref aMtot, .ref aMfrm, .ref aMsiz, .int frs, .int frt, .ref aMffr, .ref aMfsz, .int x7, .int bgn, .int mst, .int (b2i ovr), .int (b2i tgr), .int lvs, .ref aMlkd, .ref aMlat, .ref aMkkd, .ref aMkat, .ref aModr, .ref aMgrp, .int its, .ref aMikd, .ref aMiat, .long hgh, .long loo, .int (b2i dfl)])), (aMst, .inl (cI, 136400, .inl st))] H := hP
    have hD : va_D A [(aM, .inr (11, [.int thr, .ref aMst, .int tpd, .ref aMdcs, .ref aMtot, .ref aMfrm, .ref aMsiz, .int frs, .int frt, .ref aMffr, .ref aMfsz, .int x7, .int bgn, .int mst, .int (b2i ovr), .int (b2i tgr), .int lvs, .ref aMlkd, .ref aMlat, .ref aMkkd, .ref aMkat, .ref aModr, .ref aMgrp, .int its, .ref aMikd, .ref aMiat, .long hgh, .long loo, .int (b2i dfl)])), (aMst, .inl (cI, 136400, .inl st))] := hD
    refine lv_goto (tgt := 158) hx hb d_MO_emit_146 (by decide) ?_
    exact hKx x7 ovr st (by rw [hV, tw_MO_emit_r135, if_pos c_13]) _ _ hP hD hS ls (lv_sub hl [0, 1, 2, 3, 4, 6] rfl)
set_option maxHeartbeats 4000000 in
set_option maxRecDepth 100000 in
theorem l_MO_emit_r90 {p : Program} {e : Env} {s : State} {m : MethodId} {args : Array Value} {below : List Frame} {meth : Method} {c : Code} {V : Option (Int32 × Int32 × Bool × (Nat → Int32))} {V0 : Int32 × Int32 × Bool × (Nat → Int32)} (C0 : lc_C p s m meth c args b_MO_emit 9 (some .int) R_MO lw_g) (hs : V = some V0) (l : Launch) (D : va_G) (cB cI : ClassId) (aM aMst aMdcs aMtot aMfrm aMsiz aMffr aMfsz aMlkd aMlat aMkkd aMkat aModr aMgrp aMikd aMiat : Nat) (rF : Nat) (rL : Nat) (fu : Nat) (fm : Int32 → Bool → (Nat → Int32) → Int32 → Int32 → Int32 → Option (Int32 × Int32 × Bool × (Nat → Int32))) (thr : Int32) (tpd : Int32) (frs : Int32) (frt : Int32) (bgn : Int32) (mst : Int32) (tgr : Bool) (lvs : Int32) (its : Int32) (hgh : Int64) (loo : Int64) (dfl : Bool)  {A : Nat → Prop} (hk : hk_ D cB cI s) (hA : ∀ q : Nat, s.heap.size ≤ q → A q) (x3 : Int32) (x4 : Int32) (x5 : Int32) (x6 : Int32) (top : Int32) (ovr : Bool) (st : Nat → Int32) (hfm : ∀ (sz : Nat) (top : Int32) (ovr : Bool) (st : Nat → Int32) (z0 z1 z2 : Int32) (V1 : Int32 × Int32 × Bool × (Nat → Int32)), fm top ovr st z0 z1 z2 = some V1 → Met l y_MO_emit mw_MO_emit { frames := rF, cells := 0, slots := 0, locals := rL } (va_Pc [.ref aM, .int z0, .int z1, .int z2] (mt_P D cB cI (wd_MO_emit aM aMst aMdcs aMtot aMfrm aMsiz aMffr aMfsz aMlkd aMlat aMkkd aMkat aModr aMgrp aMikd aMiat cB cI thr tpd frs frt bgn mst tgr lvs its hgh loo dfl top ovr st) sz)) (va_Qi (fun (r : Int32) (u : Int32 × Bool × (Nat → Int32)) => (r, u) = V1) (mt_B D (va_A (wd_MO_emit aM aMst aMdcs aMtot aMfrm aMsiz aMffr aMfsz aMlkd aMlat aMkkd aMkat aModr aMgrp aMikd aMiat cB cI thr tpd frs frt bgn mst tgr lvs its hgh loo dfl top ovr st) sz) (fun u => wd_MO_emit aM aMst aMdcs aMtot aMfrm aMsiz aMffr aMfsz aMlkd aMlat aMkkd aMkat aModr aMgrp aMikd aMiat cB cI thr tpd frs frt bgn mst tgr lvs its hgh loo dfl u.1 u.2.1 u.2.2)) (va_A (wd_MO_emit aM aMst aMdcs aMtot aMfrm aMsiz aMffr aMfsz aMlkd aMlat aMkkd aMkat aModr aMgrp aMikd aMiat cB cI thr tpd frs frt bgn mst tgr lvs its hgh loo dfl top ovr st) sz)) 0 0 (va_A (wd_MO_emit aM aMst aMdcs aMtot aMfrm aMsiz aMffr aMfsz aMlkd aMlat aMkkd aMkat aModr aMgrp aMikd aMiat cB cI thr tpd frs frt bgn mst tgr lvs its hgh loo dfl top ovr st) sz)) {K : Int32 → Int32 → Bool → (Nat → Int32) → Option (Int32 × Int32 × Bool × (Nat → Int32))} (hKx : ∀ (y5 : Int32) (top' : Int32) (ovr' : Bool) (st' : Nat → Int32), V = K y5 top' ovr' st' → ∀ (H : Heap) (locs : List Loc), va_P D vwCl [(aM, .inr (11, [.int thr, .ref aMst, .int tpd, .ref aMdcs, .ref aMtot, .ref aMfrm, .ref aMsiz, .int frs, .int frt, .ref aMffr, .ref aMfsz, .int top', .int bgn, .int mst, .int (b2i ovr'), .int (b2i tgr), .int lvs, .ref aMlkd, .ref aMlat, .ref aMkkd, .ref aMkat, .ref aModr, .ref aMgrp, .int its, .ref aMikd, .ref aMiat, .long hgh, .long loo, .int (b2i dfl)])), (aMst, .inl (cI, 136400, .inl st'))] H → va_D A [(aM, .inr (11, [.int thr, .ref aMst, .int tpd, .ref aMdcs, .ref aMtot, .ref aMfrm, .ref aMsiz, .int frs, .int frt, .ref aMffr, .ref aMfsz, .int top', .int bgn, .int mst, .int (b2i ovr'), .int (b2i tgr), .int lvs, .ref aMlkd, .ref aMlat, .ref aMkkd, .ref aMkat, .ref aModr, .ref aMgrp, .int its, .ref aMikd, .ref aMiat, .long hgh, .long loo, .int (b2i dfl)])), (aMst, .inl (cI, 136400, .inl st'))] → va_S A s.heap H locs → ∀ ls : Array Slot, lv_has ls 9 [(0, .ref aM), (3, .int x3), (4, .int x4), (5, .int y5), (6, .int x6)] → W p l e ({ frames := rF + 8, cells := 0, slots := 0, locals := rL + 240 }) s m args below meth c H locs 0 0 (MQ below (va_Qi (fun (r : Int32) (u : Int32 × Bool × (Nat → Int32)) => (r, u) = V0) (mt_B D A (fun u => wd_MO_emit aM aMst aMdcs aMtot aMfrm aMsiz aMffr aMfsz aMlkd aMlat aMkkd aMkat aModr aMgrp aMikd aMiat cB cI thr tpd frs frt bgn mst tgr lvs its hgh loo dfl u.1 u.2.1 u.2.2)) A) args s 0 0 A) (F0 m 173 ls [])) (hV : V = tw_MO_emit_r90 fu fm bgn mst K x3 x4 x5 x6 top ovr st) : ∀ (H : Heap) (locs : List Loc), va_P D vwCl [(aM, .inr (11, [.int thr, .ref aMst, .int tpd, .ref aMdcs, .ref aMtot, .ref aMfrm, .ref aMsiz, .int frs, .int frt, .ref aMffr, .ref aMfsz, .int top, .int bgn, .int mst, .int (b2i ovr), .int (b2i tgr), .int lvs, .ref aMlkd, .ref aMlat, .ref aMkkd, .ref aMkat, .ref aModr, .ref aMgrp, .int its, .ref aMikd, .ref aMiat, .long hgh, .long loo, .int (b2i dfl)])), (aMst, .inl (cI, 136400, .inl st))] H → va_D A [(aM, .inr (11, [.int thr, .ref aMst, .int tpd, .ref aMdcs, .ref aMtot, .ref aMfrm, .ref aMsiz, .int frs, .int frt, .ref aMffr, .ref aMfsz, .int top, .int bgn, .int mst, .int (b2i ovr), .int (b2i tgr), .int lvs, .ref aMlkd, .ref aMlat, .ref aMkkd, .ref aMkat, .ref aModr, .ref aMgrp, .int its, .ref aMikd, .ref aMiat, .long hgh, .long loo, .int (b2i dfl)])), (aMst, .inl (cI, 136400, .inl st))] → va_S A s.heap H locs → ∀ ls : Array Slot, lv_has ls 9 [(0, .ref aM), (3, .int x3), (4, .int x4), (5, .int x5), (6, .int x6)] → W p l e ({ frames := rF + 8, cells := 0, slots := 0, locals := rL + 240 }) s m args below meth c H locs 0 0 (MQ below (va_Qi (fun (r : Int32) (u : Int32 × Bool × (Nat → Int32)) => (r, u) = V0) (mt_B D A (fun u => wd_MO_emit aM aMst aMdcs aMtot aMfrm aMsiz aMffr aMfsz aMlkd aMlat aMkkd aMkat aModr aMgrp aMikd aMiat cB cI thr tpd frs frt bgn mst tgr lvs its hgh loo dfl u.1 u.2.1 u.2.2)) A) args s 0 0 A) (F0 m 90 ls []) := by
  obtain ⟨hx, hb, hml, hr, hown, hlocks, hT⟩ := id C0
  have hK := hk.1
  have hN := hk.2.1
  intro H locs hP hD hS ls hl
  refine lv_aload_n hx hb d_MO_emit_90 rfl (lv_at hl 0 rfl) ?_
  refine va_get (D := D) (ci := 11) (v := .ref aMst) (C := R_MO) (T := T_MO) (N := 29) hx hb hT u_MO hown hK hP 0 rfl rfl 1 (by decide) (hT _ k_1044) (fun _ h9 => h9) rfl d_MO_emit_91 ?_
  refine lv_iload hx hb d_MO_emit_94 (lv_at hl 4 rfl) ?_
  by_cases c_7 : 0 ≤ x6 ∧ x6 < 136400
  rotate_left
  · exact op_no hs (by rw [hV, tw_MO_emit_r90, if_neg c_7])
  refine va_iald hx hb hK hP 1 1 rfl rfl (in_pp c_7.1 c_7.2 rfl) d_MO_emit_96 ?_
  refine lv_iconst (v := 3) hx hb d_MO_emit_97 (by decide) ?_
  refine lv_icmp_eq (tgt := 104) hx hb d_MO_emit_98 (by decide) (fun c_8 => ?_) (fun c_8 => ?_)
  · refine lv_aload_n hx hb d_MO_emit_104 rfl (lv_at hl 0 rfl) ?_
    refine va_get (D := D) (ci := 11) (v := .int top) (C := R_MO) (T := T_MO) (N := 29) hx hb hT u_MO hown hK hP 0 rfl rfl 11 (by decide) (hT _ k_1054) (fun _ h9 => h9) rfl d_MO_emit_105 ?_
    refine lv_istore (lv' := [(7, .int top), (0, .ref aM), (3, .int x3), (4, .int x4), (5, .int x5), (6, .int x6)]) hx hb d_MO_emit_108 hl (by decide) rfl (fun ls hl => ?_)
    refine lv_aload_n hx hb d_MO_emit_110 rfl (lv_at hl 1 rfl) ?_
    refine lv_iconst (v := 0) hx hb d_MO_emit_111 (by decide) ?_
    rcases h_9 : tw_MO_write fu bgn mst top ovr st 0 with _ | w_9
    · exact op_no hs (by rw [hV, tw_MO_emit_r90, if_pos c_7, if_pos c_8, h_9, ob3_no])
    refine mt_Vv (As := [.int 0]) (rest := []) (wr := []) ⟨hx, hb, hml, hown, hT⟩ (c_MO_write l D cB cI aM aMst aMdcs aMtot aMfrm aMsiz aMffr aMfsz aMlkd aMlat aMkkd aMkat aModr aMgrp aMikd aMiat fu thr tpd frs frt bgn mst tgr lvs its hgh loo dfl _ top ovr st 0 w_9 h_9) (cwV 1 hT (gV_of k_1326 k_1328 kp_MO_write k_12 kc_MO_write) rfl rfl rfl hd_MO_write ⟨rl_s (Nat.le_of_ble_eq_true rfl), rl_s (Nat.le_of_ble_eq_true rfl)⟩) hk hP hD hS hA [0, 1] [] rfl rfl rfl (by decide) (by decide) (by decide) (q0 := 0) rfl rfl rfl rfl hl.1 rfl (Nat.le_of_ble_eq_true rfl) d_MO_emit_112 ⟨Nat.zero_le _, Nat.zero_le _⟩ (fun u_9 H locs hw_9 hP hD hS => ?_)
    subst hw_9
    obtain ⟨top_9, ovr_9, st_9⟩ := u_9
    have hP : va_P D vwCl [(aM, .inr (11, [.int thr, .ref aMst, .int tpd, .ref aMdcs, .ref aMtot, .ref aMfrm, .ref aMsiz, .int frs, .int frt, .ref aMffr, .ref aMfsz, .int top_9, .int bgn, .int mst, .int (b2i ovr_9), .int (b2i tgr), .int lvs, .ref aMlkd, .ref aMlat, .ref aMkkd, .ref aMkat, .ref aModr, .ref aMgrp, .int its, .ref aMikd, .ref aMiat, .long hgh, .long loo, .int (b2i dfl)])), (aMst, .inl (cI, 136400, .inl st_9))] H := hP.sub [0, 1] rfl
    have hD : va_D A [(aM, .inr (11, [.int thr, .ref aMst, .int tpd, .ref aMdcs, .ref aMtot, .ref aMfrm, .ref aMsiz, .int frs, .int frt, .ref aMffr, .ref aMfsz, .int top_9, .int bgn, .int mst, .int (b2i ovr_9), .int (b2i tgr), .int lvs, .ref aMlkd, .ref aMlat, .ref aMkkd, .ref aMkat, .ref aModr, .ref aMgrp, .int its, .ref aMikd, .ref aMiat, .long hgh, .long loo, .int (b2i dfl)])), (aMst, .inl (cI, 136400, .inl st_9))] := hD.sub [0, 1] (by decide) rfl
    refine lv_aload_n hx hb d_MO_emit_115 rfl (lv_at hl 1 rfl) ?_
    refine lv_iload hx hb d_MO_emit_116 (lv_at hl 4 rfl) ?_
    rcases h_10 : tw_MO_putDigits fu bgn mst top_9 ovr_9 st_9 x5 with _ | w_10
    · exact op_no hs (by rw [hV, tw_MO_emit_r90, if_pos c_7, if_pos c_8, h_9, ob3_mk, h_10, ob3_no])
    refine mt_Vv (As := [.int x5]) (rest := []) (wr := []) ⟨hx, hb, hml, hown, hT⟩ (c_MO_putDigits l D cB cI aM aMst aMdcs aMtot aMfrm aMsiz aMffr aMfsz aMlkd aMlat aMkkd aMkat aModr aMgrp aMikd aMiat fu thr tpd frs frt bgn mst tgr lvs its hgh loo dfl _ top_9 ovr_9 st_9 x5 w_10 h_10) (cwV 1 hT (gV_of k_1367 k_1369 kp_MO_putDigits k_12 kc_MO_putDigits) rfl rfl rfl hd_MO_putDigits ⟨rl_s (Nat.le_of_ble_eq_true rfl), rl_s (Nat.le_of_ble_eq_true rfl)⟩) hk hP hD hS hA [0, 1] [] rfl rfl rfl (by decide) (by decide) (by decide) (q0 := 0) rfl rfl rfl rfl hl.1 rfl (Nat.le_of_ble_eq_true rfl) d_MO_emit_118 ⟨Nat.zero_le _, Nat.zero_le _⟩ (fun u_10 H locs hw_10 hP hD hS => ?_)
    subst hw_10
    obtain ⟨top_10, ovr_10, st_10⟩ := u_10
    have hP : va_P D vwCl [(aM, .inr (11, [.int thr, .ref aMst, .int tpd, .ref aMdcs, .ref aMtot, .ref aMfrm, .ref aMsiz, .int frs, .int frt, .ref aMffr, .ref aMfsz, .int top_10, .int bgn, .int mst, .int (b2i ovr_10), .int (b2i tgr), .int lvs, .ref aMlkd, .ref aMlat, .ref aMkkd, .ref aMkat, .ref aModr, .ref aMgrp, .int its, .ref aMikd, .ref aMiat, .long hgh, .long loo, .int (b2i dfl)])), (aMst, .inl (cI, 136400, .inl st_10))] H := hP.sub [0, 1] rfl
    have hD : va_D A [(aM, .inr (11, [.int thr, .ref aMst, .int tpd, .ref aMdcs, .ref aMtot, .ref aMfrm, .ref aMsiz, .int frs, .int frt, .ref aMffr, .ref aMfsz, .int top_10, .int bgn, .int mst, .int (b2i ovr_10), .int (b2i tgr), .int lvs, .ref aMlkd, .ref aMlat, .ref aMkkd, .ref aMkat, .ref aModr, .ref aMgrp, .int its, .ref aMikd, .ref aMiat, .long hgh, .long loo, .int (b2i dfl)])), (aMst, .inl (cI, 136400, .inl st_10))] := hD.sub [0, 1] (by decide) rfl
    refine lv_aload_n hx hb d_MO_emit_121 rfl (lv_at hl 1 rfl) ?_
    refine lv_iconst (v := 3) hx hb d_MO_emit_122 (by decide) ?_
    refine lv_aload_n hx hb d_MO_emit_123 rfl (lv_at hl 1 rfl) ?_
    refine lv_iload hx hb d_MO_emit_124 (lv_at hl 5 rfl) ?_
    rcases h_11 : tw_MO_valueOf fu st_10 x6 with _ | r_11
    · exact op_no hs (by rw [hV, tw_MO_emit_r90, if_pos c_7, if_pos c_8, h_9, ob3_mk, h_10, ob3_mk, h_11, ob1_no])
    refine rd_V (val := r_11) (As := [.int x6]) (rest := [.int 3, .ref aM]) ⟨hx, hb, hml, hown, hT⟩ (c_MO_valueOf l D cB cI aM aMst aMdcs aMtot aMfrm aMsiz aMffr aMfsz aMlkd aMlat aMkkd aMkat aModr aMgrp aMikd aMiat fu thr tpd frs frt top_10 bgn mst ovr_10 tgr lvs its hgh loo dfl st_10 x6 r_11 h_11) (cwV 1 hT (gV_of k_1182 k_1184 kp_MO_valueOf k_12 kc_MO_valueOf) rfl rfl rfl hd_MO_valueOf ⟨rl_s (Nat.le_of_ble_eq_true rfl), rl_s (Nat.le_of_ble_eq_true rfl)⟩) hk hP (q0 := 0) rfl rfl rfl rfl hl.1 rfl (Nat.le_of_ble_eq_true rfl) d_MO_emit_126 ⟨Nat.zero_le _, Nat.zero_le _⟩ ?_
    refine lv_iload_n hx hb d_MO_emit_129 rfl (lv_at hl 2 rfl) ?_
    rcases h_12 : fm top_10 ovr_10 st_10 3 r_11 x3 with _ | w_12
    · exact op_no hs (by rw [hV, tw_MO_emit_r90, if_pos c_7, if_pos c_8, h_9, ob3_mk, h_10, ob3_mk, h_11, ob1_mk, h_12, ob4_no])
    refine mt_Vi (As := [.int 3, .int r_11, .int x3]) (rest := []) (wr := []) ⟨hx, hb, hml, hown, hT⟩ (hfm _ top_10 ovr_10 st_10 3 r_11 x3 w_12 h_12) (cwV 3 hT (gV_of k_1351 k_1353 kp_MO_emit k_12 kc_MO_emit) rfl rfl rfl hd_MO_emit ⟨rl_f (Nat.le_of_ble_eq_true rfl), rl_l (Nat.le_of_ble_eq_true rfl)⟩) hk hP hD hS hA [0, 1] [] rfl rfl rfl (by decide) (by decide) (by decide) (q0 := 0) rfl rfl rfl rfl hl.1 rfl (Nat.le_of_ble_eq_true rfl) d_MO_emit_130 ⟨Nat.zero_le _, Nat.zero_le _⟩ (fun r_12 u_12 H locs hw_12 hP hD hS => ?_)
    subst hw_12
    obtain ⟨top_12, ovr_12, st_12⟩ := u_12
    have hP : va_P D vwCl [(aM, .inr (11, [.int thr, .ref aMst, .int tpd, .ref aMdcs, .ref aMtot, .ref aMfrm, .ref aMsiz, .int frs, .int frt, .ref aMffr, .ref aMfsz, .int top_12, .int bgn, .int mst, .int (b2i ovr_12), .int (b2i tgr), .int lvs, .ref aMlkd, .ref aMlat, .ref aMkkd, .ref aMkat, .ref aModr, .ref aMgrp, .int its, .ref aMikd, .ref aMiat, .long hgh, .long loo, .int (b2i dfl)])), (aMst, .inl (cI, 136400, .inl st_12))] H := hP.sub [0, 1] rfl
    have hD : va_D A [(aM, .inr (11, [.int thr, .ref aMst, .int tpd, .ref aMdcs, .ref aMtot, .ref aMfrm, .ref aMsiz, .int frs, .int frt, .ref aMffr, .ref aMfsz, .int top_12, .int bgn, .int mst, .int (b2i ovr_12), .int (b2i tgr), .int lvs, .ref aMlkd, .ref aMlat, .ref aMkkd, .ref aMkat, .ref aModr, .ref aMgrp, .int its, .ref aMikd, .ref aMiat, .long hgh, .long loo, .int (b2i dfl)])), (aMst, .inl (cI, 136400, .inl st_12))] := hD.sub [0, 1] (by decide) rfl
    refine lv_istore (lv' := [(8, .int r_12), (7, .int top), (0, .ref aM), (3, .int x3), (4, .int x4), (5, .int x5), (6, .int x6)]) hx hb d_MO_emit_133 hl (by decide) rfl (fun ls hl => ?_)
    refine l_MO_emit_r135 C0 hs l D cB cI aM aMst aMdcs aMtot aMfrm aMsiz aMffr aMfsz aMlkd aMlat aMkkd aMkat aModr aMgrp aMikd aMiat rF rL fu fm thr tpd frs frt bgn mst tgr lvs its hgh loo dfl hk hA x3 x4 x5 x6 top r_12 top_12 ovr_12 st_12 hfm (K := (fun (top_15 : Int32) (ovr_15 : Bool) (st_15 : Nat → Int32) =>
        if r_12 = 0 then
          K (x5 + 0) top_15 ovr_15 st_15
        else
          K (x5 + 1) top_15 ovr_15 st_15)) ?_ (by rw [hV, tw_MO_emit_r90, if_pos c_7, if_pos c_8, h_9, ob3_mk, h_10, ob3_mk, h_11, ob1_mk, h_12, ob4_mk]) _ _ hP hD hS ls (lv_sub hl [2, 3, 4, 5, 6, 1, 0] rfl)
    intro top_15 ovr_15 st_15 hV_15 H locs hP hD hS ls hl
    refine lv_iload hx hb d_MO_emit_158 (lv_at hl 3 rfl) ?_
    refine lv_iload hx hb d_MO_emit_160 (lv_at hl 5 rfl) ?_
    refine lv_if_ne (tgt := 169) hx hb d_MO_emit_162 (by decide) (fun c_16 => ?_) (fun c_16 => ?_)
    · refine lv_iconst (v := 1) hx hb d_MO_emit_169 (by decide) ?_
      refine lv_iadd hx hb d_MO_emit_170 ?_
      refine lv_istore (lv' := [(5, .int (x5 + 1)), (0, .ref aM), (3, .int x3), (4, .int x4), (6, .int x6), (8, .int r_12)]) hx hb d_MO_emit_171 hl (by decide) rfl (fun ls hl => ?_)
      exact hKx (x5 + 1) top_15 ovr_15 st_15 (by rw [hV_15, if_neg c_16]) _ _ hP hD hS ls (lv_sub hl [1, 2, 3, 0, 4] rfl)
    · refine lv_iconst (v := 0) hx hb d_MO_emit_165 (by decide) ?_
      refine lv_goto (tgt := 170) hx hb d_MO_emit_166 (by decide) ?_
      refine lv_iadd hx hb d_MO_emit_170 ?_
      refine lv_istore (lv' := [(5, .int (x5 + 0)), (0, .ref aM), (3, .int x3), (4, .int x4), (6, .int x6), (8, .int r_12)]) hx hb d_MO_emit_171 hl (by decide) rfl (fun ls hl => ?_)
      exact hKx (x5 + 0) top_15 ovr_15 st_15 (by rw [hV_15, if_pos c_16]) _ _ hP hD hS ls (lv_sub hl [1, 2, 3, 0, 4] rfl)
  · refine lv_goto (tgt := 173) hx hb d_MO_emit_101 (by decide) ?_
    exact hKx x5 top ovr st (by rw [hV, tw_MO_emit_r90, if_pos c_7, if_neg c_8]) _ _ hP hD hS ls (lv_sub hl [0, 1, 2, 3, 4] rfl)
set_option maxHeartbeats 4000000 in
set_option maxRecDepth 100000 in
theorem l_MO_emit_h85 {p : Program} {e : Env} {s : State} {m : MethodId} {args : Array Value} {below : List Frame} {meth : Method} {c : Code} {V : Option (Int32 × Int32 × Bool × (Nat → Int32))} {V0 : Int32 × Int32 × Bool × (Nat → Int32)} (C0 : lc_C p s m meth c args b_MO_emit 9 (some .int) R_MO lw_g) (hs : V = some V0) (l : Launch) (D : va_G) (cB cI : ClassId) (aM aMst aMdcs aMtot aMfrm aMsiz aMffr aMfsz aMlkd aMlat aMkkd aMkat aModr aMgrp aMikd aMiat : Nat) (rF : Nat) (rL : Nat) (fu : Nat) (fm : Int32 → Bool → (Nat → Int32) → Int32 → Int32 → Int32 → Option (Int32 × Int32 × Bool × (Nat → Int32))) (thr : Int32) (tpd : Int32) (frs : Int32) (frt : Int32) (bgn : Int32) (mst : Int32) (tgr : Bool) (lvs : Int32) (its : Int32) (hgh : Int64) (loo : Int64) (dfl : Bool) {A : Nat → Prop} (hk : hk_ D cB cI s) (hA : ∀ q : Nat, s.heap.size ≤ q → A q) (p2 : Int32) (x4 : Int32) (hfm : ∀ (sz : Nat) (top : Int32) (ovr : Bool) (st : Nat → Int32) (z0 z1 z2 : Int32) (V1 : Int32 × Int32 × Bool × (Nat → Int32)), fm top ovr st z0 z1 z2 = some V1 → Met l y_MO_emit mw_MO_emit { frames := rF, cells := 0, slots := 0, locals := rL } (va_Pc [.ref aM, .int z0, .int z1, .int z2] (mt_P D cB cI (wd_MO_emit aM aMst aMdcs aMtot aMfrm aMsiz aMffr aMfsz aMlkd aMlat aMkkd aMkat aModr aMgrp aMikd aMiat cB cI thr tpd frs frt bgn mst tgr lvs its hgh loo dfl top ovr st) sz)) (va_Qi (fun (r : Int32) (u : Int32 × Bool × (Nat → Int32)) => (r, u) = V1) (mt_B D (va_A (wd_MO_emit aM aMst aMdcs aMtot aMfrm aMsiz aMffr aMfsz aMlkd aMlat aMkkd aMkat aModr aMgrp aMikd aMiat cB cI thr tpd frs frt bgn mst tgr lvs its hgh loo dfl top ovr st) sz) (fun u => wd_MO_emit aM aMst aMdcs aMtot aMfrm aMsiz aMffr aMfsz aMlkd aMlat aMkkd aMkat aModr aMgrp aMikd aMiat cB cI thr tpd frs frt bgn mst tgr lvs its hgh loo dfl u.1 u.2.1 u.2.2)) (va_A (wd_MO_emit aM aMst aMdcs aMtot aMfrm aMsiz aMffr aMfsz aMlkd aMlat aMkkd aMkat aModr aMgrp aMikd aMiat cB cI thr tpd frs frt bgn mst tgr lvs its hgh loo dfl top ovr st) sz)) 0 0 (va_A (wd_MO_emit aM aMst aMdcs aMtot aMfrm aMsiz aMffr aMfsz aMlkd aMlat aMkkd aMkat aModr aMgrp aMikd aMiat cB cI thr tpd frs frt bgn mst tgr lvs its hgh loo dfl top ovr st) sz)) {K : Int32 → Int32 → Int32 → Bool → (Nat → Int32) → Option (Int32 × Int32 × Bool × (Nat → Int32))} (hKx : ∀ (x5 : Int32) (x6 : Int32) (top : Int32) (ovr : Bool) (st : Nat → Int32), V = K x5 x6 top ovr st → ∀ (H : Heap) (locs : List Loc), va_P D vwCl [(aM, .inr (11, [.int thr, .ref aMst, .int tpd, .ref aMdcs, .ref aMtot, .ref aMfrm, .ref aMsiz, .int frs, .int frt, .ref aMffr, .ref aMfsz, .int top, .int bgn, .int mst, .int (b2i ovr), .int (b2i tgr), .int lvs, .ref aMlkd, .ref aMlat, .ref aMkkd, .ref aMkat, .ref aModr, .ref aMgrp, .int its, .ref aMikd, .ref aMiat, .long hgh, .long loo, .int (b2i dfl)])), (aMst, .inl (cI, 136400, .inl st))] H → va_D A [(aM, .inr (11, [.int thr, .ref aMst, .int tpd, .ref aMdcs, .ref aMtot, .ref aMfrm, .ref aMsiz, .int frs, .int frt, .ref aMffr, .ref aMfsz, .int top, .int bgn, .int mst, .int (b2i ovr), .int (b2i tgr), .int lvs, .ref aMlkd, .ref aMlat, .ref aMkkd, .ref aMkat, .ref aModr, .ref aMgrp, .int its, .ref aMikd, .ref aMiat, .long hgh, .long loo, .int (b2i dfl)])), (aMst, .inl (cI, 136400, .inl st))] → va_S A s.heap H locs → ∀ ls : Array Slot, lv_has ls 9 [(0, .ref aM), (4, .int x4)] → W p l e ({ frames := rF + 8, cells := 0, slots := 0, locals := rL + 240 }) s m args below meth c H locs 0 0 (MQ below (va_Qi (fun (r : Int32) (u : Int32 × Bool × (Nat → Int32)) => (r, u) = V0) (mt_B D A (fun u => wd_MO_emit aM aMst aMdcs aMtot aMfrm aMsiz aMffr aMfsz aMlkd aMlat aMkkd aMkat aModr aMgrp aMikd aMiat cB cI thr tpd frs frt bgn mst tgr lvs its hgh loo dfl u.1 u.2.1 u.2.2)) A) args s 0 0 A) (F0 m 184 ls [])) : ∀ (n : Nat) (x5 : Int32) (x6 : Int32) (top : Int32) (ovr : Bool) (st : Nat → Int32), V = tw_MO_emit_h85 fu fm bgn mst K p2 x4 n x5 x6 top ovr st → ∀ (H : Heap) (locs : List Loc), va_P D vwCl [(aM, .inr (11, [.int thr, .ref aMst, .int tpd, .ref aMdcs, .ref aMtot, .ref aMfrm, .ref aMsiz, .int frs, .int frt, .ref aMffr, .ref aMfsz, .int top, .int bgn, .int mst, .int (b2i ovr), .int (b2i tgr), .int lvs, .ref aMlkd, .ref aMlat, .ref aMkkd, .ref aMkat, .ref aModr, .ref aMgrp, .int its, .ref aMikd, .ref aMiat, .long hgh, .long loo, .int (b2i dfl)])), (aMst, .inl (cI, 136400, .inl st))] H → va_D A [(aM, .inr (11, [.int thr, .ref aMst, .int tpd, .ref aMdcs, .ref aMtot, .ref aMfrm, .ref aMsiz, .int frs, .int frt, .ref aMffr, .ref aMfsz, .int top, .int bgn, .int mst, .int (b2i ovr), .int (b2i tgr), .int lvs, .ref aMlkd, .ref aMlat, .ref aMkkd, .ref aMkat, .ref aModr, .ref aMgrp, .int its, .ref aMikd, .ref aMiat, .long hgh, .long loo, .int (b2i dfl)])), (aMst, .inl (cI, 136400, .inl st))] → va_S A s.heap H locs → ∀ ls : Array Slot, lv_has ls 9 [(0, .ref aM), (3, .int p2), (4, .int x4), (5, .int x5), (6, .int x6)] → W p l e ({ frames := rF + 8, cells := 0, slots := 0, locals := rL + 240 }) s m args below meth c H locs 0 0 (MQ below (va_Qi (fun (r : Int32) (u : Int32 × Bool × (Nat → Int32)) => (r, u) = V0) (mt_B D A (fun u => wd_MO_emit aM aMst aMdcs aMtot aMfrm aMsiz aMffr aMfsz aMlkd aMlat aMkkd aMkat aModr aMgrp aMikd aMiat cB cI thr tpd frs frt bgn mst tgr lvs its hgh loo dfl u.1 u.2.1 u.2.2)) A) args s 0 0 A) (F0 m 85 ls []) := by
  obtain ⟨hx, hb, hml, hr, hown, hlocks, hT⟩ := id C0
  have hK := hk.1
  have hN := hk.2.1
  intro n
  induction n with
  | zero =>
    intro x5 x6 top ovr st hV
    exact op_no hs (hV.trans rfl)
  | succ n ih =>
    intro x5 x6 top ovr st hV H locs hP hD hS ls hl
    refine lv_iload hx hb d_MO_emit_85 (lv_at hl 4 rfl) ?_
    refine lv_if_le (tgt := 184) hx hb d_MO_emit_87 (by decide) (fun c_6 => ?_) (fun c_6 => ?_)
    · exact hKx x5 x6 top ovr st (by rw [hV, tw_MO_emit_h85, if_pos c_6]) _ _ hP hD hS ls (lv_sub hl [0, 2] rfl)
    · refine l_MO_emit_r90 C0 hs l D cB cI aM aMst aMdcs aMtot aMfrm aMsiz aMffr aMfsz aMlkd aMlat aMkkd aMkat aModr aMgrp aMikd aMiat rF rL fu fm thr tpd frs frt bgn mst tgr lvs its hgh loo dfl hk hA p2 x4 x5 x6 top ovr st hfm (K := (fun (y5_17 : Int32) (top_17 : Int32) (ovr_17 : Bool) (st_17 : Nat → Int32) =>
          ob1 (tw_MO_nextOf fu st_17 x6) (fun r_18 =>
            tw_MO_emit_h85 fu fm bgn mst K p2 x4 n y5_17 r_18 top_17 ovr_17 st_17))) ?_ (by rw [hV, tw_MO_emit_h85, if_neg c_6]) _ _ hP hD hS ls (lv_sub hl [0, 1, 2, 3, 4] rfl)
      intro y5_17 top_17 ovr_17 st_17 hV_17 H locs hP hD hS ls hl
      refine lv_aload_n hx hb d_MO_emit_173 rfl (lv_at hl 0 rfl) ?_
      refine lv_iload hx hb d_MO_emit_174 (lv_at hl 4 rfl) ?_
      rcases h_18 : tw_MO_nextOf fu st_17 x6 with _ | r_18
      · exact op_no hs (by rw [hV_17, h_18, ob1_no])
      refine rd_V (val := r_18) (As := [.int x6]) (rest := []) ⟨hx, hb, hml, hown, hT⟩ (c_MO_nextOf l D cB cI aM aMst aMdcs aMtot aMfrm aMsiz aMffr aMfsz aMlkd aMlat aMkkd aMkat aModr aMgrp aMikd aMiat fu thr tpd frs frt top_17 bgn mst ovr_17 tgr lvs its hgh loo dfl st_17 x6 r_18 h_18) (cwV 1 hT (gV_of k_1204 k_1206 kp_MO_nextOf k_12 kc_MO_nextOf) rfl rfl rfl hd_MO_nextOf ⟨rl_s (Nat.le_of_ble_eq_true rfl), rl_s (Nat.le_of_ble_eq_true rfl)⟩) hk hP (q0 := 0) rfl rfl rfl rfl hl.1 rfl (Nat.le_of_ble_eq_true rfl) d_MO_emit_176 ⟨Nat.zero_le _, Nat.zero_le _⟩ ?_
      refine lv_istore (lv' := [(6, .int r_18), (0, .ref aM), (3, .int p2), (4, .int x4), (5, .int y5_17)]) hx hb d_MO_emit_179 hl (by decide) rfl (fun ls hl => ?_)
      refine lv_goto (tgt := 85) hx hb d_MO_emit_181 (by decide) ?_
      exact ih y5_17 r_18 top_17 ovr_17 st_17 (by rw [hV_17, h_18, ob1_mk]) _ _ hP hD hS ls (lv_sub hl [1, 2, 3, 4, 0] rfl)
set_option maxHeartbeats 4000000 in
set_option maxRecDepth 100000 in
theorem c_MO_emit (l : Launch) (D : va_G) (cB cI : ClassId) (aM aMst aMdcs aMtot aMfrm aMsiz aMffr aMfsz aMlkd aMlat aMkkd aMkat aModr aMgrp aMikd aMiat : Nat) (rF : Nat) (rL : Nat) (fu : Nat) (fm : Int32 → Bool → (Nat → Int32) → Int32 → Int32 → Int32 → Option (Int32 × Int32 × Bool × (Nat → Int32))) (thr : Int32) (tpd : Int32) (frs : Int32) (frt : Int32) (bgn : Int32) (mst : Int32) (tgr : Bool) (lvs : Int32) (its : Int32) (hgh : Int64) (loo : Int64) (dfl : Bool) (sz : Nat) (top : Int32) (ovr : Bool) (st : Nat → Int32) (p0 : Int32) (p1 : Int32) (p2 : Int32) (hfm : ∀ (sz : Nat) (top : Int32) (ovr : Bool) (st : Nat → Int32) (z0 z1 z2 : Int32) (V1 : Int32 × Int32 × Bool × (Nat → Int32)), fm top ovr st z0 z1 z2 = some V1 → Met l y_MO_emit mw_MO_emit { frames := rF, cells := 0, slots := 0, locals := rL } (va_Pc [.ref aM, .int z0, .int z1, .int z2] (mt_P D cB cI (wd_MO_emit aM aMst aMdcs aMtot aMfrm aMsiz aMffr aMfsz aMlkd aMlat aMkkd aMkat aModr aMgrp aMikd aMiat cB cI thr tpd frs frt bgn mst tgr lvs its hgh loo dfl top ovr st) sz)) (va_Qi (fun (r : Int32) (u : Int32 × Bool × (Nat → Int32)) => (r, u) = V1) (mt_B D (va_A (wd_MO_emit aM aMst aMdcs aMtot aMfrm aMsiz aMffr aMfsz aMlkd aMlat aMkkd aMkat aModr aMgrp aMikd aMiat cB cI thr tpd frs frt bgn mst tgr lvs its hgh loo dfl top ovr st) sz) (fun u => wd_MO_emit aM aMst aMdcs aMtot aMfrm aMsiz aMffr aMfsz aMlkd aMlat aMkkd aMkat aModr aMgrp aMikd aMiat cB cI thr tpd frs frt bgn mst tgr lvs its hgh loo dfl u.1 u.2.1 u.2.2)) (va_A (wd_MO_emit aM aMst aMdcs aMtot aMfrm aMsiz aMffr aMfsz aMlkd aMlat aMkkd aMkat aModr aMgrp aMikd aMiat cB cI thr tpd frs frt bgn mst tgr lvs its hgh loo dfl top ovr st) sz)) 0 0 (va_A (wd_MO_emit aM aMst aMdcs aMtot aMfrm aMsiz aMffr aMfsz aMlkd aMlat aMkkd aMkat aModr aMgrp aMikd aMiat cB cI thr tpd frs frt bgn mst tgr lvs its hgh loo dfl top ovr st) sz)) (V0 : Int32 × Int32 × Bool × (Nat → Int32)) (hs : tw_MO_emit fu fm bgn mst top ovr st p0 p1 p2 = some V0) : Met l y_MO_emit mw_MO_emit { frames := rF + 8, cells := 0, slots := 0, locals := rL + 240 } (va_Pc [.ref aM, .int p0, .int p1, .int p2] (mt_P D cB cI (wd_MO_emit aM aMst aMdcs aMtot aMfrm aMsiz aMffr aMfsz aMlkd aMlat aMkkd aMkat aModr aMgrp aMikd aMiat cB cI thr tpd frs frt bgn mst tgr lvs its hgh loo dfl top ovr st) sz)) (va_Qi (fun (r : Int32) (u : Int32 × Bool × (Nat → Int32)) => (r, u) = V0) (mt_B D (va_A (wd_MO_emit aM aMst aMdcs aMtot aMfrm aMsiz aMffr aMfsz aMlkd aMlat aMkkd aMkat aModr aMgrp aMikd aMiat cB cI thr tpd frs frt bgn mst tgr lvs its hgh loo dfl top ovr st) sz) (fun u => wd_MO_emit aM aMst aMdcs aMtot aMfrm aMsiz aMffr aMfsz aMlkd aMlat aMkkd aMkat aModr aMgrp aMikd aMiat cB cI thr tpd frs frt bgn mst tgr lvs its hgh loo dfl u.1 u.2.1 u.2.2)) (va_A (wd_MO_emit aM aMst aMdcs aMtot aMfrm aMsiz aMffr aMfsz aMlkd aMlat aMkkd aMkat aModr aMgrp aMikd aMiat cB cI thr tpd frs frt bgn mst tgr lvs its hgh loo dfl top ovr st) sz)) 0 0 (va_A (wd_MO_emit aM aMst aMdcs aMtot aMfrm aMsiz aMffr aMfsz aMlkd aMlat aMkkd aMkat aModr aMgrp aMikd aMiat cB cI thr tpd frs frt bgn mst tgr lvs its hgh loo dfl top ovr st) sz) := by
  refine Met.ofW (cc := b_MO_emit) (maxL := 9) (ret := (some .int)) (by decide) rfl ?_
  intro p e s m args below meth c s₁ B0 hml hv
  obtain ⟨rfl, hsz, hP, hk, hD0⟩ := hv
  have hK := hk.1
  have hN := hk.2.1
  have hx := B0.exec
  have hb := B0.bytes
  have hr := B0.returns
  have hT : ∀ w ∈ lw_g, w.before _ s = true := fun w h => atoms_spec (ws := mw_MO_emit) B0.pre w (List.mem_cons_of_mem _ h)
  have hown : s.vm.findClass R_MO = some m.cls := findClass_of_methodNamed B0.named
  have hlocks := B0.notSynchronized
  subst hsz
  have hD := hD0.self (sz := s.heap.size)
  generalize hAe : va_A [(aM, .inr (11, [.int thr, .ref aMst, .int tpd, .ref aMdcs, .ref aMtot, .ref aMfrm, .ref aMsiz, .int frs, .int frt, .ref aMffr, .ref aMfsz, .int top, .int bgn, .int mst, .int (b2i ovr), .int (b2i tgr), .int lvs, .ref aMlkd, .ref aMlat, .ref aMkkd, .ref aMkat, .ref aModr, .ref aMgrp, .int its, .ref aMikd, .ref aMiat, .long hgh, .long loo, .int (b2i dfl)])), (aMst, .inl (cI, 136400, .inl st))] s.heap.size = A at hD ⊢
  have hA : ∀ q : Nat, s.heap.size ≤ q → A q := fun q h => by rw [← hAe]; exact Or.inr h
  have hS : va_S A s.heap s.heap [] := va_S.rf
  have hl := lv_entry ([.ref aM, .int p0, .int p1, .int p2]) (n := 9) (Nat.le_of_ble_eq_true rfl)
  rw [lg_entry_eq]
  generalize (lg_sl ([.ref aM, .int p0, .int p1, .int p2]) ++ List.replicate (9 - (lg_sl ([.ref aM, .int p0, .int p1, .int p2])).length) Slot.unset).toArray = ls at hl ⊢
  have hl : lv_has ls 9 [(0, .ref aM), (1, .int p0), (2, .int p1), (3, .int p2)] := hl
  have C0 : lc_C p s m meth c _ b_MO_emit 9 (some .int) R_MO lw_g := ⟨hx, hb, hml, hr, hown, hlocks, hT⟩
  refine lv_iload_n hx hb d_MO_emit_0 rfl (lv_at hl 3 rfl) ?_
  refine lv_if_ne (tgt := 17) hx hb d_MO_emit_1 (by decide) (fun c_1 => ?_) (fun c_1 => ?_)
  · refine lv_iload_n hx hb d_MO_emit_17 rfl (lv_at hl 1 rfl) ?_
    refine lv_iconst (v := 3) hx hb d_MO_emit_18 (by decide) ?_
    refine lv_icmp_ne (tgt := 62) hx hb d_MO_emit_19 (by decide) (fun c_2 => ?_) (fun c_2 => ?_)
    · refine lv_iload_n hx hb d_MO_emit_62 rfl (lv_at hl 1 rfl) ?_
      refine lv_iconst (v := 4) hx hb d_MO_emit_63 (by decide) ?_
      refine lv_icmp_eq (tgt := 69) hx hb d_MO_emit_64 (by decide) (fun c_3 => ?_) (fun c_3 => ?_)
      · refine lv_aload_n hx hb d_MO_emit_69 rfl (lv_at hl 0 rfl) ?_
        rcases h_4 : tw_MO_open fu bgn mst top ovr st with _ | w_4
        · exact op_no hs (by rw [tw_MO_emit, if_neg c_1, if_neg c_2, if_pos c_3, h_4, ob4_no])
        refine mt_Vi (As := []) (rest := []) (wr := []) ⟨hx, hb, hml, hown, hT⟩ (c_MO_open l D cB cI aM aMst aMdcs aMtot aMfrm aMsiz aMffr aMfsz aMlkd aMlat aMkkd aMkat aModr aMgrp aMikd aMiat fu thr tpd frs frt bgn mst tgr lvs its hgh loo dfl _ top ovr st w_4 h_4) (cwV 0 hT (gV_of k_1318 k_1320 kp_MO_open k_12 kc_MO_open) rfl rfl rfl hd_MO_open ⟨rl_s (Nat.le_of_ble_eq_true rfl), rl_s (Nat.le_of_ble_eq_true rfl)⟩) hk hP hD hS hA [0, 1] [] rfl rfl rfl (by decide) (by decide) (by decide) (q0 := 0) rfl rfl rfl rfl hl.1 rfl (Nat.le_of_ble_eq_true rfl) d_MO_emit_70 ⟨Nat.zero_le _, Nat.zero_le _⟩ (fun r_4 u_4 H locs hw_4 hP hD hS => ?_)
        subst hw_4
        obtain ⟨top_4, ovr_4, st_4⟩ := u_4
        have hP : va_P D vwCl [(aM, .inr (11, [.int thr, .ref aMst, .int tpd, .ref aMdcs, .ref aMtot, .ref aMfrm, .ref aMsiz, .int frs, .int frt, .ref aMffr, .ref aMfsz, .int top_4, .int bgn, .int mst, .int (b2i ovr_4), .int (b2i tgr), .int lvs, .ref aMlkd, .ref aMlat, .ref aMkkd, .ref aMkat, .ref aModr, .ref aMgrp, .int its, .ref aMikd, .ref aMiat, .long hgh, .long loo, .int (b2i dfl)])), (aMst, .inl (cI, 136400, .inl st_4))] H := hP.sub [0, 1] rfl
        have hD : va_D A [(aM, .inr (11, [.int thr, .ref aMst, .int tpd, .ref aMdcs, .ref aMtot, .ref aMfrm, .ref aMsiz, .int frs, .int frt, .ref aMffr, .ref aMfsz, .int top_4, .int bgn, .int mst, .int (b2i ovr_4), .int (b2i tgr), .int lvs, .ref aMlkd, .ref aMlat, .ref aMkkd, .ref aMkat, .ref aModr, .ref aMgrp, .int its, .ref aMikd, .ref aMiat, .long hgh, .long loo, .int (b2i dfl)])), (aMst, .inl (cI, 136400, .inl st_4))] := hD.sub [0, 1] (by decide) rfl
        refine lv_istore (lv' := [(4, .int r_4), (0, .ref aM), (1, .int p0), (2, .int p1), (3, .int p2)]) hx hb d_MO_emit_73 hl (by decide) rfl (fun ls hl => ?_)
        refine lv_iconst (v := 0) hx hb d_MO_emit_75 (by decide) ?_
        refine lv_istore (lv' := [(5, .int 0), (4, .int r_4), (0, .ref aM), (1, .int p0), (2, .int p1), (3, .int p2)]) hx hb d_MO_emit_76 hl (by decide) rfl (fun ls hl => ?_)
        refine lv_aload_n hx hb d_MO_emit_78 rfl (lv_at hl 2 rfl) ?_
        refine lv_iload_n hx hb d_MO_emit_79 rfl (lv_at hl 4 rfl) ?_
        rcases h_5 : tw_MO_firstOf fu st_4 p1 with _ | r_5
        · exact op_no hs (by rw [tw_MO_emit, if_neg c_1, if_neg c_2, if_pos c_3, h_4, ob4_mk, h_5, ob1_no])
        refine rd_V (val := r_5) (As := [.int p1]) (rest := []) ⟨hx, hb, hml, hown, hT⟩ (c_MO_firstOf l D cB cI aM aMst aMdcs aMtot aMfrm aMsiz aMffr aMfsz aMlkd aMlat aMkkd aMkat aModr aMgrp aMikd aMiat fu thr tpd frs frt top_4 bgn mst ovr_4 tgr lvs its hgh loo dfl st_4 p1 r_5 h_5) (cwV 1 hT (gV_of k_1196 k_1198 kp_MO_firstOf k_12 kc_MO_firstOf) rfl rfl rfl hd_MO_firstOf ⟨rl_s (Nat.le_of_ble_eq_true rfl), rl_s (Nat.le_of_ble_eq_true rfl)⟩) hk hP (q0 := 0) rfl rfl rfl rfl hl.1 rfl (Nat.le_of_ble_eq_true rfl) d_MO_emit_80 ⟨Nat.zero_le _, Nat.zero_le _⟩ ?_
        refine lv_istore (lv' := [(6, .int r_5), (5, .int 0), (4, .int r_4), (0, .ref aM), (1, .int p0), (2, .int p1), (3, .int p2)]) hx hb d_MO_emit_83 hl (by decide) rfl (fun ls hl => ?_)
        refine l_MO_emit_h85 C0 hs l D cB cI aM aMst aMdcs aMtot aMfrm aMsiz aMffr aMfsz aMlkd aMlat aMkkd aMkat aModr aMgrp aMikd aMiat rF rL fu fm thr tpd frs frt bgn mst tgr lvs its hgh loo dfl hk hA p2 r_4 hfm  (K := (fun (x5_19 : Int32) (x6_19 : Int32) (top_19 : Int32) (ovr_19 : Bool) (st_19 : Nat → Int32) =>
            ob3 (tw_MO_close fu bgn mst top_19 ovr_19 st_19 r_4) (fun top_20 ovr_20 st_20 =>
              some (4, top_20, ovr_20, st_20)))) ?_ fu 0 r_5 top_4 ovr_4 st_4  (by rw [tw_MO_emit, if_neg c_1, if_neg c_2, if_pos c_3, h_4, ob4_mk, h_5, ob1_mk]) _ _ hP hD hS ls (lv_sub hl [3, 6, 2, 1, 0] rfl)
        intro x5_19 x6_19 top_19 ovr_19 st_19 hV_19 H locs hP hD hS ls hl
        refine lv_aload_n hx hb d_MO_emit_184 rfl (lv_at hl 0 rfl) ?_
        refine lv_iload hx hb d_MO_emit_185 (lv_at hl 1 rfl) ?_
        rcases h_20 : tw_MO_close fu bgn mst top_19 ovr_19 st_19 r_4 with _ | w_20
        · exact op_no hs (by rw [hV_19, h_20, ob3_no])
        refine mt_Vv (As := [.int r_4]) (rest := []) (wr := []) ⟨hx, hb, hml, hown, hT⟩ (c_MO_close l D cB cI aM aMst aMdcs aMtot aMfrm aMsiz aMffr aMfsz aMlkd aMlat aMkkd aMkat aModr aMgrp aMikd aMiat fu thr tpd frs frt bgn mst tgr lvs its hgh loo dfl _ top_19 ovr_19 st_19 r_4 w_20 h_20) (cwV 1 hT (gV_of k_1371 k_1373 kp_MO_close k_12 kc_MO_close) rfl rfl rfl hd_MO_close ⟨rl_s (Nat.le_of_ble_eq_true rfl), rl_s (Nat.le_of_ble_eq_true rfl)⟩) hk hP hD hS hA [0, 1] [] rfl rfl rfl (by decide) (by decide) (by decide) (q0 := 0) rfl rfl rfl rfl hl.1 rfl (Nat.le_of_ble_eq_true rfl) d_MO_emit_187 ⟨Nat.zero_le _, Nat.zero_le _⟩ (fun u_20 H locs hw_20 hP hD hS => ?_)
        subst hw_20
        obtain ⟨top_20, ovr_20, st_20⟩ := u_20
        have hP : va_P D vwCl [(aM, .inr (11, [.int thr, .ref aMst, .int tpd, .ref aMdcs, .ref aMtot, .ref aMfrm, .ref aMsiz, .int frs, .int frt, .ref aMffr, .ref aMfsz, .int top_20, .int bgn, .int mst, .int (b2i ovr_20), .int (b2i tgr), .int lvs, .ref aMlkd, .ref aMlat, .ref aMkkd, .ref aMkat, .ref aModr, .ref aMgrp, .int its, .ref aMikd, .ref aMiat, .long hgh, .long loo, .int (b2i dfl)])), (aMst, .inl (cI, 136400, .inl st_20))] H := hP.sub [0, 1] rfl
        have hD : va_D A [(aM, .inr (11, [.int thr, .ref aMst, .int tpd, .ref aMdcs, .ref aMtot, .ref aMfrm, .ref aMsiz, .int frs, .int frt, .ref aMffr, .ref aMfsz, .int top_20, .int bgn, .int mst, .int (b2i ovr_20), .int (b2i tgr), .int lvs, .ref aMlkd, .ref aMlat, .ref aMkkd, .ref aMkat, .ref aModr, .ref aMgrp, .int its, .ref aMikd, .ref aMiat, .long hgh, .long loo, .int (b2i dfl)])), (aMst, .inl (cI, 136400, .inl st_20))] := hD.sub [0, 1] (by decide) rfl
        refine lv_iconst (v := 4) hx hb d_MO_emit_190 (by decide) ?_
        exact W.iret (v := 4) hx hb hr (fun t ht hW => ⟨⟨4, (top_20, ovr_20, st_20), rfl, (op_eq hs (by rw [hV_19, h_20, ob3_mk])), by rw [ht]; exact hP, hD⟩, hS.F ht⟩) hS.2.2 d_MO_emit_191
      · refine lv_iconst (v := 0) hx hb d_MO_emit_67 (by decide) ?_
        exact W.iret (v := 0) hx hb hr (fun t ht hW => ⟨⟨0, (top, ovr, st), rfl, (op_eq hs (by rw [tw_MO_emit, if_neg c_1, if_neg c_2, if_neg c_3])), by rw [ht]; exact hP, hD⟩, hS.F ht⟩) hS.2.2 d_MO_emit_68
    · refine lv_aload_n hx hb d_MO_emit_22 rfl (lv_at hl 0 rfl) ?_
      refine lv_iload_n hx hb d_MO_emit_23 rfl (lv_at hl 2 rfl) ?_
      refine lv_iload_n hx hb d_MO_emit_24 rfl (lv_at hl 3 rfl) ?_
      rcases h_21 : tw_MO_met fu st p1 p2 with _ | r_21
      · exact op_no hs (by rw [tw_MO_emit, if_neg c_1, if_pos c_2, h_21, ob1_no])
      refine rd_V (val := r_21) (As := [.int p1, .int p2]) (rest := []) ⟨hx, hb, hml, hown, hT⟩ (c_MO_met l D cB cI aM aMst aMdcs aMtot aMfrm aMsiz aMffr aMfsz aMlkd aMlat aMkkd aMkat aModr aMgrp aMikd aMiat fu thr tpd frs frt top bgn mst ovr tgr lvs its hgh loo dfl st p1 p2 r_21 h_21) (cwV 2 hT (gV_of k_1355 k_1357 kp_MO_met k_12 kc_MO_met) rfl rfl rfl hd_MO_met ⟨rl_s (Nat.le_of_ble_eq_true rfl), rl_s (Nat.le_of_ble_eq_true rfl)⟩) hk hP (q0 := 0) rfl rfl rfl rfl hl.1 rfl (Nat.le_of_ble_eq_true rfl) d_MO_emit_25 ⟨Nat.zero_le _, Nat.zero_le _⟩ ?_
      refine lv_istore (lv' := [(4, .int r_21), (0, .ref aM), (1, .int p0), (2, .int p1), (3, .int p2)]) hx hb d_MO_emit_28 hl (by decide) rfl (fun ls hl => ?_)
      refine lv_iload hx hb d_MO_emit_30 (lv_at hl 0 rfl) ?_
      refine lv_if_le (tgt := 60) hx hb d_MO_emit_32 (by decide) (fun c_22 => ?_) (fun c_22 => ?_)
      · refine lv_iconst (v := 0) hx hb d_MO_emit_60 (by decide) ?_
        exact W.iret (v := 0) hx hb hr (fun t ht hW => ⟨⟨0, (top, ovr, st), rfl, (op_eq hs (by rw [tw_MO_emit, if_neg c_1, if_pos c_2, h_21, ob1_mk, if_pos c_22])), by rw [ht]; exact hP, hD⟩, hS.F ht⟩) hS.2.2 d_MO_emit_61
      · refine lv_aload_n hx hb d_MO_emit_35 rfl (lv_at hl 1 rfl) ?_
        refine lv_aload_n hx hb d_MO_emit_36 rfl (lv_at hl 1 rfl) ?_
        refine va_get (D := D) (ci := 11) (v := .ref aMst) (C := R_MO) (T := T_MO) (N := 29) hx hb hT u_MO hown hK hP 0 rfl rfl 1 (by decide) (hT _ k_1044) (fun _ h9 => h9) rfl d_MO_emit_37 ?_
        refine lv_iload hx hb d_MO_emit_40 (lv_at hl 0 rfl) ?_
        by_cases c_23 : 0 ≤ r_21 ∧ r_21 < 136400
        rotate_left
        · exact op_no hs (by rw [tw_MO_emit, if_neg c_1, if_pos c_2, h_21, ob1_mk, if_neg c_22, if_neg c_23])
        refine va_iald hx hb hK hP 1 1 rfl rfl (in_pp c_23.1 c_23.2 rfl) d_MO_emit_42 ?_
        refine lv_aload_n hx hb d_MO_emit_43 rfl (lv_at hl 1 rfl) ?_
        refine lv_iload hx hb d_MO_emit_44 (lv_at hl 0 rfl) ?_
        rcases h_24 : tw_MO_valueOf fu st r_21 with _ | r_24
        · exact op_no hs (by rw [tw_MO_emit, if_neg c_1, if_pos c_2, h_21, ob1_mk, if_neg c_22, if_pos c_23, h_24, ob1_no])
        refine rd_V (val := r_24) (As := [.int r_21]) (rest := [.int (st r_21.toNatClampNeg), .ref aM]) ⟨hx, hb, hml, hown, hT⟩ (c_MO_valueOf l D cB cI aM aMst aMdcs aMtot aMfrm aMsiz aMffr aMfsz aMlkd aMlat aMkkd aMkat aModr aMgrp aMikd aMiat fu thr tpd frs frt top bgn mst ovr tgr lvs its hgh loo dfl st r_21 r_24 h_24) (cwV 1 hT (gV_of k_1182 k_1184 kp_MO_valueOf k_12 kc_MO_valueOf) rfl rfl rfl hd_MO_valueOf ⟨rl_s (Nat.le_of_ble_eq_true rfl), rl_s (Nat.le_of_ble_eq_true rfl)⟩) hk hP (q0 := 0) rfl rfl rfl rfl hl.1 rfl (Nat.le_of_ble_eq_true rfl) d_MO_emit_46 ⟨Nat.zero_le _, Nat.zero_le _⟩ ?_
        refine lv_aload_n hx hb d_MO_emit_49 rfl (lv_at hl 1 rfl) ?_
        refine lv_iload_n hx hb d_MO_emit_50 rfl (lv_at hl 4 rfl) ?_
        rcases h_25 : tw_MO_nextStep fu st p2 with _ | r_25
        · exact op_no hs (by rw [tw_MO_emit, if_neg c_1, if_pos c_2, h_21, ob1_mk, if_neg c_22, if_pos c_23, h_24, ob1_mk, h_25, ob1_no])
        refine rd_V (val := r_25) (As := [.int p2]) (rest := [.int r_24, .int (st r_21.toNatClampNeg), .ref aM]) ⟨hx, hb, hml, hown, hT⟩ (c_MO_nextStep l D cB cI aM aMst aMdcs aMtot aMfrm aMsiz aMffr aMfsz aMlkd aMlat aMkkd aMkat aModr aMgrp aMikd aMiat fu thr tpd frs frt top bgn mst ovr tgr lvs its hgh loo dfl st p2 r_25 h_25) (cwV 1 hT (gV_of k_1363 k_1365 kp_MO_nextStep k_12 kc_MO_nextStep) rfl rfl rfl hd_MO_nextStep ⟨rl_s (Nat.le_of_ble_eq_true rfl), rl_s (Nat.le_of_ble_eq_true rfl)⟩) hk hP (q0 := 0) rfl rfl rfl rfl hl.1 rfl (Nat.le_of_ble_eq_true rfl) d_MO_emit_51 ⟨Nat.zero_le _, Nat.zero_le _⟩ ?_
        rcases h_26 : fm top ovr st (st r_21.toNatClampNeg) r_24 r_25 with _ | w_26
        · exact op_no hs (by rw [tw_MO_emit, if_neg c_1, if_pos c_2, h_21, ob1_mk, if_neg c_22, if_pos c_23, h_24, ob1_mk, h_25, ob1_mk, h_26, ob4_no])
        refine mt_Vi (As := [.int (st r_21.toNatClampNeg), .int r_24, .int r_25]) (rest := []) (wr := []) ⟨hx, hb, hml, hown, hT⟩ (hfm _ top ovr st (st r_21.toNatClampNeg) r_24 r_25 w_26 h_26) (cwV 3 hT (gV_of k_1351 k_1353 kp_MO_emit k_12 kc_MO_emit) rfl rfl rfl hd_MO_emit ⟨rl_f (Nat.le_of_ble_eq_true rfl), rl_l (Nat.le_of_ble_eq_true rfl)⟩) hk hP hD hS hA [0, 1] [] rfl rfl rfl (by decide) (by decide) (by decide) (q0 := 0) rfl rfl rfl rfl hl.1 rfl (Nat.le_of_ble_eq_true rfl) d_MO_emit_54 ⟨Nat.zero_le _, Nat.zero_le _⟩ (fun r_26 u_26 H locs hw_26 hP hD hS => ?_)
        subst hw_26
        obtain ⟨top_26, ovr_26, st_26⟩ := u_26
        have hP : va_P D vwCl [(aM, .inr (11, [.int thr, .ref aMst, .int tpd, .ref aMdcs, .ref aMtot, .ref aMfrm, .ref aMsiz, .int frs, .int frt, .ref aMffr, .ref aMfsz, .int top_26, .int bgn, .int mst, .int (b2i ovr_26), .int (b2i tgr), .int lvs, .ref aMlkd, .ref aMlat, .ref aMkkd, .ref aMkat, .ref aModr, .ref aMgrp, .int its, .ref aMikd, .ref aMiat, .long hgh, .long loo, .int (b2i dfl)])), (aMst, .inl (cI, 136400, .inl st_26))] H := hP.sub [0, 1] rfl
        have hD : va_D A [(aM, .inr (11, [.int thr, .ref aMst, .int tpd, .ref aMdcs, .ref aMtot, .ref aMfrm, .ref aMsiz, .int frs, .int frt, .ref aMffr, .ref aMfsz, .int top_26, .int bgn, .int mst, .int (b2i ovr_26), .int (b2i tgr), .int lvs, .ref aMlkd, .ref aMlat, .ref aMkkd, .ref aMkat, .ref aModr, .ref aMgrp, .int its, .ref aMikd, .ref aMiat, .long hgh, .long loo, .int (b2i dfl)])), (aMst, .inl (cI, 136400, .inl st_26))] := hD.sub [0, 1] (by decide) rfl
        refine lv_goto (tgt := 61) hx hb d_MO_emit_57 (by decide) ?_
        exact W.iret (v := r_26) hx hb hr (fun t ht hW => ⟨⟨r_26, (top_26, ovr_26, st_26), rfl, (op_eq hs (by rw [tw_MO_emit, if_neg c_1, if_pos c_2, h_21, ob1_mk, if_neg c_22, if_pos c_23, h_24, ob1_mk, h_25, ob1_mk, h_26, ob4_mk])), by rw [ht]; exact hP, hD⟩, hS.F ht⟩) hS.2.2 d_MO_emit_61
  · refine lv_aload_n hx hb d_MO_emit_4 rfl (lv_at hl 0 rfl) ?_
    refine lv_iload_n hx hb d_MO_emit_5 rfl (lv_at hl 2 rfl) ?_
    refine lv_aload_n hx hb d_MO_emit_6 rfl (lv_at hl 0 rfl) ?_
    refine lv_iload_n hx hb d_MO_emit_7 rfl (lv_at hl 1 rfl) ?_
    refine lv_iload_n hx hb d_MO_emit_8 rfl (lv_at hl 2 rfl) ?_
    rcases h_27 : tw_MO_lengthOf fu st p0 p1 with _ | r_27
    · exact op_no hs (by rw [tw_MO_emit, if_pos c_1, h_27, ob1_no])
    refine rd_V (val := r_27) (As := [.int p0, .int p1]) (rest := [.int p1, .ref aM]) ⟨hx, hb, hml, hown, hT⟩ (c_MO_lengthOf l D cB cI aM aMst aMdcs aMtot aMfrm aMsiz aMffr aMfsz aMlkd aMlat aMkkd aMkat aModr aMgrp aMikd aMiat fu thr tpd frs frt top bgn mst ovr tgr lvs its hgh loo dfl st p0 p1 r_27 h_27) (cwV 2 hT (gV_of k_1186 k_1188 kp_MO_lengthOf k_12 kc_MO_lengthOf) rfl rfl rfl hd_MO_lengthOf ⟨rl_s (Nat.le_of_ble_eq_true rfl), rl_s (Nat.le_of_ble_eq_true rfl)⟩) hk hP (q0 := 0) rfl rfl rfl rfl hl.1 rfl (Nat.le_of_ble_eq_true rfl) d_MO_emit_9 ⟨Nat.zero_le _, Nat.zero_le _⟩ ?_
    rcases h_28 : tw_MO_copy fu bgn mst top ovr st p1 r_27 with _ | w_28
    · exact op_no hs (by rw [tw_MO_emit, if_pos c_1, h_27, ob1_mk, h_28, ob3_no])
    refine mt_Vv (As := [.int p1, .int r_27]) (rest := []) (wr := []) ⟨hx, hb, hml, hown, hT⟩ (c_MO_copy l D cB cI aM aMst aMdcs aMtot aMfrm aMsiz aMffr aMfsz aMlkd aMlat aMkkd aMkat aModr aMgrp aMikd aMiat fu thr tpd frs frt bgn mst tgr lvs its hgh loo dfl _ top ovr st p1 r_27 w_28 h_28) (cwV 2 hT (gV_of k_1338 k_1340 kp_MO_copy k_12 kc_MO_copy) rfl rfl rfl hd_MO_copy ⟨rl_s (Nat.le_of_ble_eq_true rfl), rl_s (Nat.le_of_ble_eq_true rfl)⟩) hk hP hD hS hA [0, 1] [] rfl rfl rfl (by decide) (by decide) (by decide) (q0 := 0) rfl rfl rfl rfl hl.1 rfl (Nat.le_of_ble_eq_true rfl) d_MO_emit_12 ⟨Nat.zero_le _, Nat.zero_le _⟩ (fun u_28 H locs hw_28 hP hD hS => ?_)
    subst hw_28
    obtain ⟨top_28, ovr_28, st_28⟩ := u_28
    have hP : va_P D vwCl [(aM, .inr (11, [.int thr, .ref aMst, .int tpd, .ref aMdcs, .ref aMtot, .ref aMfrm, .ref aMsiz, .int frs, .int frt, .ref aMffr, .ref aMfsz, .int top_28, .int bgn, .int mst, .int (b2i ovr_28), .int (b2i tgr), .int lvs, .ref aMlkd, .ref aMlat, .ref aMkkd, .ref aMkat, .ref aModr, .ref aMgrp, .int its, .ref aMikd, .ref aMiat, .long hgh, .long loo, .int (b2i dfl)])), (aMst, .inl (cI, 136400, .inl st_28))] H := hP.sub [0, 1] rfl
    have hD : va_D A [(aM, .inr (11, [.int thr, .ref aMst, .int tpd, .ref aMdcs, .ref aMtot, .ref aMfrm, .ref aMsiz, .int frs, .int frt, .ref aMffr, .ref aMfsz, .int top_28, .int bgn, .int mst, .int (b2i ovr_28), .int (b2i tgr), .int lvs, .ref aMlkd, .ref aMlat, .ref aMkkd, .ref aMkat, .ref aModr, .ref aMgrp, .int its, .ref aMikd, .ref aMiat, .long hgh, .long loo, .int (b2i dfl)])), (aMst, .inl (cI, 136400, .inl st_28))] := hD.sub [0, 1] (by decide) rfl
    refine lv_iload_n hx hb d_MO_emit_15 rfl (lv_at hl 1 rfl) ?_
    exact W.iret (v := p0) hx hb hr (fun t ht hW => ⟨⟨p0, (top_28, ovr_28, st_28), rfl, (op_eq hs (by rw [tw_MO_emit, if_pos c_1, h_27, ob1_mk, h_28, ob3_mk])), by rw [ht]; exact hP, hD⟩, hS.F ht⟩) hS.2.2 d_MO_emit_16
set_option maxHeartbeats 4000000 in
set_option maxRecDepth 100000 in
theorem c_tw_MO_emt (l : Launch) (D : va_G) (cB cI : ClassId) (aM aMst aMdcs aMtot aMfrm aMsiz aMffr aMfsz aMlkd aMlat aMkkd aMkat aModr aMgrp aMikd aMiat : Nat) (fu : Nat) (thr : Int32) (tpd : Int32) (frs : Int32) (frt : Int32) (bgn : Int32) (mst : Int32) (tgr : Bool) (lvs : Int32) (its : Int32) (hgh : Int64) (loo : Int64) (dfl : Bool) : ∀ (k : Nat) (sz : Nat) (top : Int32) (ovr : Bool) (st : Nat → Int32) (z0 z1 z2 : Int32) (V1 : Int32 × Int32 × Bool × (Nat → Int32)), tw_MO_emt fu bgn mst k top ovr st z0 z1 z2 = some V1 → Met l y_MO_emit mw_MO_emit { frames := 8 * k, cells := 0, slots := 0, locals := 240 * k } (va_Pc [.ref aM, .int z0, .int z1, .int z2] (mt_P D cB cI (wd_MO_emit aM aMst aMdcs aMtot aMfrm aMsiz aMffr aMfsz aMlkd aMlat aMkkd aMkat aModr aMgrp aMikd aMiat cB cI thr tpd frs frt bgn mst tgr lvs its hgh loo dfl top ovr st) sz)) (va_Qi (fun (r : Int32) (u : Int32 × Bool × (Nat → Int32)) => (r, u) = V1) (mt_B D (va_A (wd_MO_emit aM aMst aMdcs aMtot aMfrm aMsiz aMffr aMfsz aMlkd aMlat aMkkd aMkat aModr aMgrp aMikd aMiat cB cI thr tpd frs frt bgn mst tgr lvs its hgh loo dfl top ovr st) sz) (fun u => wd_MO_emit aM aMst aMdcs aMtot aMfrm aMsiz aMffr aMfsz aMlkd aMlat aMkkd aMkat aModr aMgrp aMikd aMiat cB cI thr tpd frs frt bgn mst tgr lvs its hgh loo dfl u.1 u.2.1 u.2.2)) (va_A (wd_MO_emit aM aMst aMdcs aMtot aMfrm aMsiz aMffr aMfsz aMlkd aMlat aMkkd aMkat aModr aMgrp aMikd aMiat cB cI thr tpd frs frt bgn mst tgr lvs its hgh loo dfl top ovr st) sz)) 0 0 (va_A (wd_MO_emit aM aMst aMdcs aMtot aMfrm aMsiz aMffr aMfsz aMlkd aMlat aMkkd aMkat aModr aMgrp aMikd aMiat cB cI thr tpd frs frt bgn mst tgr lvs its hgh loo dfl top ovr st) sz) := by
  intro k
  induction k with
  | zero =>
    intro sz top ovr st z0 z1 z2 V1 hs
    cases hs
  | succ k ih =>
    intro sz top ovr st z0 z1 z2 V1 hs
    exact c_MO_emit l D cB cI aM aMst aMdcs aMtot aMfrm aMsiz aMffr aMfsz aMlkd aMlat aMkkd aMkat aModr aMgrp aMikd aMiat (8 * k) (240 * k) fu _ thr tpd frs frt bgn mst tgr lvs its hgh loo dfl sz top ovr st z0 z1 z2 (fun sz2 top2 ovr2 st2 z02 z12 z22 V2 h2 => ih sz2 top2 ovr2 st2 z02 z12 z22 V2 h2) V1 hs
set_option maxHeartbeats 4000000 in
set_option maxRecDepth 100000 in
theorem c_tw_MO_emt0 (l : Launch) (D : va_G) (cB cI : ClassId) (aM aMst aMdcs aMtot aMfrm aMsiz aMffr aMfsz aMlkd aMlat aMkkd aMkat aModr aMgrp aMikd aMiat : Nat) (fu : Nat) (thr : Int32) (tpd : Int32) (frs : Int32) (frt : Int32) (bgn : Int32) (mst : Int32) (tgr : Bool) (lvs : Int32) (its : Int32) (hgh : Int64) (loo : Int64) (dfl : Bool) (sz : Nat) (top : Int32) (ovr : Bool) (st : Nat → Int32) (z0 z1 z2 : Int32) (V1 : Int32 × Int32 × Bool × (Nat → Int32)) (hs : tw_MO_emt0 fu bgn mst top ovr st z0 z1 z2 = some V1) : Met l y_MO_emit mw_MO_emit { frames := 208, cells := 0, slots := 0, locals := 6240 } (va_Pc [.ref aM, .int z0, .int z1, .int z2] (mt_P D cB cI (wd_MO_emit aM aMst aMdcs aMtot aMfrm aMsiz aMffr aMfsz aMlkd aMlat aMkkd aMkat aModr aMgrp aMikd aMiat cB cI thr tpd frs frt bgn mst tgr lvs its hgh loo dfl top ovr st) sz)) (va_Qi (fun (r : Int32) (u : Int32 × Bool × (Nat → Int32)) => (r, u) = V1) (mt_B D (va_A (wd_MO_emit aM aMst aMdcs aMtot aMfrm aMsiz aMffr aMfsz aMlkd aMlat aMkkd aMkat aModr aMgrp aMikd aMiat cB cI thr tpd frs frt bgn mst tgr lvs its hgh loo dfl top ovr st) sz) (fun u => wd_MO_emit aM aMst aMdcs aMtot aMfrm aMsiz aMffr aMfsz aMlkd aMlat aMkkd aMkat aModr aMgrp aMikd aMiat cB cI thr tpd frs frt bgn mst tgr lvs its hgh loo dfl u.1 u.2.1 u.2.2)) (va_A (wd_MO_emit aM aMst aMdcs aMtot aMfrm aMsiz aMffr aMfsz aMlkd aMlat aMkkd aMkat aModr aMgrp aMikd aMiat cB cI thr tpd frs frt bgn mst tgr lvs its hgh loo dfl top ovr st) sz)) 0 0 (va_A (wd_MO_emit aM aMst aMdcs aMtot aMfrm aMsiz aMffr aMfsz aMlkd aMlat aMkkd aMkat aModr aMgrp aMikd aMiat cB cI thr tpd frs frt bgn mst tgr lvs its hgh loo dfl top ovr st) sz) := c_tw_MO_emt l D cB cI aM aMst aMdcs aMtot aMfrm aMsiz aMffr aMfsz aMlkd aMlat aMkkd aMkat aModr aMgrp aMikd aMiat fu thr tpd frs frt bgn mst tgr lvs its hgh loo dfl 26 sz top ovr st z0 z1 z2 V1 hs

abbrev wd_MO_through (aM aMst aMdcs aMtot aMfrm aMsiz aMffr aMfsz aMlkd aMlat aMkkd aMkat aModr aMgrp aMikd aMiat : Nat) (cB cI : ClassId) (thr : Int32) (tpd : Int32) (frs : Int32) (frt : Int32) (bgn : Int32) (mst : Int32) (tgr : Bool) (lvs : Int32) (its : Int32) (hgh : Int64) (loo : Int64) (dfl : Bool) (top : Int32) (ovr : Bool) (st : Nat → Int32) : va_W := [(aM, .inr (11, [.int thr, .ref aMst, .int tpd, .ref aMdcs, .ref aMtot, .ref aMfrm, .ref aMsiz, .int frs, .int frt, .ref aMffr, .ref aMfsz, .int top, .int bgn, .int mst, .int (b2i ovr), .int (b2i tgr), .int lvs, .ref aMlkd, .ref aMlat, .ref aMkkd, .ref aMkat, .ref aModr, .ref aMgrp, .int its, .ref aMikd, .ref aMiat, .long hgh, .long loo, .int (b2i dfl)])), (aMst, .inl (cI, 136400, .inl st))]
set_option maxHeartbeats 4000000 in
set_option maxRecDepth 100000 in
theorem l_MO_through_r12 {p : Program} {e : Env} {s : State} {m : MethodId} {args : Array Value} {below : List Frame} {meth : Method} {c : Code} {V : Option (Int32 × Bool × (Nat → Int32))} {V0 : Int32 × Bool × (Nat → Int32)} (C0 : lc_C p s m meth c args b_MO_through 7 none R_MO lw_g) (hs : V = some V0) (l : Launch) (D : va_G) (cB cI : ClassId) (aM aMst aMdcs aMtot aMfrm aMsiz aMffr aMfsz aMlkd aMlat aMkkd aMkat aModr aMgrp aMikd aMiat : Nat) (rF : Nat) (rL : Nat) (fu : Nat) (ft : Int32 → Bool → (Nat → Int32) → Int32 → Int32 → Int32 → Int32 → Option (Int32 × Bool × (Nat → Int32))) (thr : Int32) (tpd : Int32) (frs : Int32) (frt : Int32) (bgn : Int32) (mst : Int32) (tgr : Bool) (lvs : Int32) (its : Int32) (hgh : Int64) (loo : Int64) (dfl : Bool)  {A : Nat → Prop} (hk : hk_ D cB cI s) (hA : ∀ q : Nat, s.heap.size ≤ q → A q) (x2 : Int32) (x3 : Int32) (x4 : Int32) (x5 : Int32) (top : Int32) (ovr : Bool) (st : Nat → Int32) (hft : ∀ (sz : Nat) (top : Int32) (ovr : Bool) (st : Nat → Int32) (z0 z1 z2 z3 : Int32) (V1 : Int32 × Bool × (Nat → Int32)), ft top ovr st z0 z1 z2 z3 = some V1 → Met l y_MO_through mw_MO_through { frames := rF, cells := 0, slots := 0, locals := rL } (va_Pc [.ref aM, .int z0, .int z1, .int z2, .int z3] (mt_P D cB cI (wd_MO_through aM aMst aMdcs aMtot aMfrm aMsiz aMffr aMfsz aMlkd aMlat aMkkd aMkat aModr aMgrp aMikd aMiat cB cI thr tpd frs frt bgn mst tgr lvs its hgh loo dfl top ovr st) sz)) (va_Qv (fun (u : Int32 × Bool × (Nat → Int32)) => u = V1) (mt_B D (va_A (wd_MO_through aM aMst aMdcs aMtot aMfrm aMsiz aMffr aMfsz aMlkd aMlat aMkkd aMkat aModr aMgrp aMikd aMiat cB cI thr tpd frs frt bgn mst tgr lvs its hgh loo dfl top ovr st) sz) (fun u => wd_MO_through aM aMst aMdcs aMtot aMfrm aMsiz aMffr aMfsz aMlkd aMlat aMkkd aMkat aModr aMgrp aMikd aMiat cB cI thr tpd frs frt bgn mst tgr lvs its hgh loo dfl u.1 u.2.1 u.2.2)) (va_A (wd_MO_through aM aMst aMdcs aMtot aMfrm aMsiz aMffr aMfsz aMlkd aMlat aMkkd aMkat aModr aMgrp aMikd aMiat cB cI thr tpd frs frt bgn mst tgr lvs its hgh loo dfl top ovr st) sz)) 0 0 (va_A (wd_MO_through aM aMst aMdcs aMtot aMfrm aMsiz aMffr aMfsz aMlkd aMlat aMkkd aMkat aModr aMgrp aMikd aMiat cB cI thr tpd frs frt bgn mst tgr lvs its hgh loo dfl top ovr st) sz)) {K : Int32 → Bool → (Nat → Int32) → Option (Int32 × Bool × (Nat → Int32))} (hKx : ∀ (top' : Int32) (ovr' : Bool) (st' : Nat → Int32), V = K top' ovr' st' → ∀ (H : Heap) (locs : List Loc), va_P D vwCl [(aM, .inr (11, [.int thr, .ref aMst, .int tpd, .ref aMdcs, .ref aMtot, .ref aMfrm, .ref aMsiz, .int frs, .int frt, .ref aMffr, .ref aMfsz, .int top', .int bgn, .int mst, .int (b2i ovr'), .int (b2i tgr), .int lvs, .ref aMlkd, .ref aMlat, .ref aMkkd, .ref aMkat, .ref aModr, .ref aMgrp, .int its, .ref aMikd, .ref aMiat, .long hgh, .long loo, .int (b2i dfl)])), (aMst, .inl (cI, 136400, .inl st'))] H → va_D A [(aM, .inr (11, [.int thr, .ref aMst, .int tpd, .ref aMdcs, .ref aMtot, .ref aMfrm, .ref aMsiz, .int frs, .int frt, .ref aMffr, .ref aMfsz, .int top', .int bgn, .int mst, .int (b2i ovr'), .int (b2i tgr), .int lvs, .ref aMlkd, .ref aMlat, .ref aMkkd, .ref aMkat, .ref aModr, .ref aMgrp, .int its, .ref aMikd, .ref aMiat, .long hgh, .long loo, .int (b2i dfl)])), (aMst, .inl (cI, 136400, .inl st'))] → va_S A s.heap H locs → ∀ ls : Array Slot, lv_has ls 7 [(0, .ref aM), (2, .int x2), (3, .int x3), (4, .int x4), (5, .int x5)] → W p l e ({ frames := rF + 8, cells := 0, slots := 0, locals := rL + 240 }) s m args below meth c H locs 0 0 (MQ below (va_Qv (fun (u : Int32 × Bool × (Nat → Int32)) => u = V0) (mt_B D A (fun u => wd_MO_through aM aMst aMdcs aMtot aMfrm aMsiz aMffr aMfsz aMlkd aMlat aMkkd aMkat aModr aMgrp aMikd aMiat cB cI thr tpd frs frt bgn mst tgr lvs its hgh loo dfl u.1 u.2.1 u.2.2)) A) args s 0 0 A) (F0 m 99 ls [])) (hV : V = tw_MO_through_r12 fu ft bgn mst K x2 x3 x4 x5 top ovr st) : ∀ (H : Heap) (locs : List Loc), va_P D vwCl [(aM, .inr (11, [.int thr, .ref aMst, .int tpd, .ref aMdcs, .ref aMtot, .ref aMfrm, .ref aMsiz, .int frs, .int frt, .ref aMffr, .ref aMfsz, .int top, .int bgn, .int mst, .int (b2i ovr), .int (b2i tgr), .int lvs, .ref aMlkd, .ref aMlat, .ref aMkkd, .ref aMkat, .ref aModr, .ref aMgrp, .int its, .ref aMikd, .ref aMiat, .long hgh, .long loo, .int (b2i dfl)])), (aMst, .inl (cI, 136400, .inl st))] H → va_D A [(aM, .inr (11, [.int thr, .ref aMst, .int tpd, .ref aMdcs, .ref aMtot, .ref aMfrm, .ref aMsiz, .int frs, .int frt, .ref aMffr, .ref aMfsz, .int top, .int bgn, .int mst, .int (b2i ovr), .int (b2i tgr), .int lvs, .ref aMlkd, .ref aMlat, .ref aMkkd, .ref aMkat, .ref aModr, .ref aMgrp, .int its, .ref aMikd, .ref aMiat, .long hgh, .long loo, .int (b2i dfl)])), (aMst, .inl (cI, 136400, .inl st))] → va_S A s.heap H locs → ∀ ls : Array Slot, lv_has ls 7 [(0, .ref aM), (2, .int x2), (3, .int x3), (4, .int x4), (5, .int x5)] → W p l e ({ frames := rF + 8, cells := 0, slots := 0, locals := rL + 240 }) s m args below meth c H locs 0 0 (MQ below (va_Qv (fun (u : Int32 × Bool × (Nat → Int32)) => u = V0) (mt_B D A (fun u => wd_MO_through aM aMst aMdcs aMtot aMfrm aMsiz aMffr aMfsz aMlkd aMlat aMkkd aMkat aModr aMgrp aMikd aMiat cB cI thr tpd frs frt bgn mst tgr lvs its hgh loo dfl u.1 u.2.1 u.2.2)) A) args s 0 0 A) (F0 m 12 ls []) := by
  obtain ⟨hx, hb, hml, hr, hown, hlocks, hT⟩ := id C0
  have hK := hk.1
  have hN := hk.2.1
  intro H locs hP hD hS ls hl
  refine lv_aload_n hx hb d_MO_through_12 rfl (lv_at hl 0 rfl) ?_
  refine lv_iload_n hx hb d_MO_through_13 rfl (lv_at hl 1 rfl) ?_
  refine lv_iload hx hb d_MO_through_14 (lv_at hl 4 rfl) ?_
  rcases h_3 : tw_MO_isStep fu st x2 x5 with _ | r_3
  · exact op_no hs (by rw [hV, tw_MO_through_r12, h_3, ob1_no])
  refine rd_V (val := b2i r_3) (As := [.int x2, .int x5]) (rest := []) ⟨hx, hb, hml, hown, hT⟩ (c_MO_isStep l D cB cI aM aMst aMdcs aMtot aMfrm aMsiz aMffr aMfsz aMlkd aMlat aMkkd aMkat aModr aMgrp aMikd aMiat fu thr tpd frs frt top bgn mst ovr tgr lvs its hgh loo dfl st x2 x5 r_3 h_3) (cwV 2 hT (gV_of k_1359 k_1361 kp_MO_isStep k_12 kc_MO_isStep) rfl rfl rfl hd_MO_isStep ⟨rl_s (Nat.le_of_ble_eq_true rfl), rl_s (Nat.le_of_ble_eq_true rfl)⟩) hk hP (q0 := 0) rfl rfl rfl rfl hl.1 rfl (Nat.le_of_ble_eq_true rfl) d_MO_through_16 ⟨Nat.zero_le _, Nat.zero_le _⟩ ?_
  refine lv_if_ne (tgt := 31) hx hb d_MO_through_19 (by decide) (fun c_4 => ?_) (fun c_4 => ?_)
  · refine lv_aload_n hx hb d_MO_through_31 rfl (lv_at hl 0 rfl) ?_
    refine lv_iload_n hx hb d_MO_through_32 rfl (lv_at hl 1 rfl) ?_
    rcases h_5 : tw_MO_nextStep fu st x2 with _ | r_5
    · exact op_no hs (by rw [hV, tw_MO_through_r12, h_3, ob1_mk, if_neg c_4, h_5, ob1_no])
    refine rd_V (val := r_5) (As := [.int x2]) (rest := []) ⟨hx, hb, hml, hown, hT⟩ (c_MO_nextStep l D cB cI aM aMst aMdcs aMtot aMfrm aMsiz aMffr aMfsz aMlkd aMlat aMkkd aMkat aModr aMgrp aMikd aMiat fu thr tpd frs frt top bgn mst ovr tgr lvs its hgh loo dfl st x2 r_5 h_5) (cwV 1 hT (gV_of k_1363 k_1365 kp_MO_nextStep k_12 kc_MO_nextStep) rfl rfl rfl hd_MO_nextStep ⟨rl_s (Nat.le_of_ble_eq_true rfl), rl_s (Nat.le_of_ble_eq_true rfl)⟩) hk hP (q0 := 0) rfl rfl rfl rfl hl.1 rfl (Nat.le_of_ble_eq_true rfl) d_MO_through_33 ⟨Nat.zero_le _, Nat.zero_le _⟩ ?_
    refine lv_if_ne (tgt := 62) hx hb d_MO_through_36 (by decide) (fun c_6 => ?_) (fun c_6 => ?_)
    · refine lv_aload_n hx hb d_MO_through_62 rfl (lv_at hl 0 rfl) ?_
      refine lv_iconst (v := 3) hx hb d_MO_through_63 (by decide) ?_
      refine lv_iload hx hb d_MO_through_64 (lv_at hl 4 rfl) ?_
      rcases h_7 : tw_MO_head fu bgn mst top ovr st 3 x5 with _ | w_7
      · exact op_no hs (by rw [hV, tw_MO_through_r12, h_3, ob1_mk, if_neg c_4, h_5, ob1_mk, if_neg c_6, h_7, ob3_no])
      refine mt_Vv (As := [.int 3, .int x5]) (rest := []) (wr := []) ⟨hx, hb, hml, hown, hT⟩ (c_MO_head l D cB cI aM aMst aMdcs aMtot aMfrm aMsiz aMffr aMfsz aMlkd aMlat aMkkd aMkat aModr aMgrp aMikd aMiat fu thr tpd frs frt bgn mst tgr lvs its hgh loo dfl _ top ovr st 3 x5 w_7 h_7) (cwV 2 hT (gV_of k_1375 k_1377 kp_MO_head k_12 kc_MO_head) rfl rfl rfl hd_MO_head ⟨rl_s (Nat.le_of_ble_eq_true rfl), rl_s (Nat.le_of_ble_eq_true rfl)⟩) hk hP hD hS hA [0, 1] [] rfl rfl rfl (by decide) (by decide) (by decide) (q0 := 0) rfl rfl rfl rfl hl.1 rfl (Nat.le_of_ble_eq_true rfl) d_MO_through_66 ⟨Nat.zero_le _, Nat.zero_le _⟩ (fun u_7 H locs hw_7 hP hD hS => ?_)
      subst hw_7
      obtain ⟨top_7, ovr_7, st_7⟩ := u_7
      have hP : va_P D vwCl [(aM, .inr (11, [.int thr, .ref aMst, .int tpd, .ref aMdcs, .ref aMtot, .ref aMfrm, .ref aMsiz, .int frs, .int frt, .ref aMffr, .ref aMfsz, .int top_7, .int bgn, .int mst, .int (b2i ovr_7), .int (b2i tgr), .int lvs, .ref aMlkd, .ref aMlat, .ref aMkkd, .ref aMkat, .ref aModr, .ref aMgrp, .int its, .ref aMikd, .ref aMiat, .long hgh, .long loo, .int (b2i dfl)])), (aMst, .inl (cI, 136400, .inl st_7))] H := hP.sub [0, 1] rfl
      have hD : va_D A [(aM, .inr (11, [.int thr, .ref aMst, .int tpd, .ref aMdcs, .ref aMtot, .ref aMfrm, .ref aMsiz, .int frs, .int frt, .ref aMffr, .ref aMfsz, .int top_7, .int bgn, .int mst, .int (b2i ovr_7), .int (b2i tgr), .int lvs, .ref aMlkd, .ref aMlat, .ref aMkkd, .ref aMkat, .ref aModr, .ref aMgrp, .int its, .ref aMikd, .ref aMiat, .long hgh, .long loo, .int (b2i dfl)])), (aMst, .inl (cI, 136400, .inl st_7))] := hD.sub [0, 1] (by decide) rfl
      refine lv_aload_n hx hb d_MO_through_69 rfl (lv_at hl 0 rfl) ?_
      rcases h_8 : tw_MO_open fu bgn mst top_7 ovr_7 st_7 with _ | w_8
      · exact op_no hs (by rw [hV, tw_MO_through_r12, h_3, ob1_mk, if_neg c_4, h_5, ob1_mk, if_neg c_6, h_7, ob3_mk, h_8, ob4_no])
      refine mt_Vi (As := []) (rest := []) (wr := []) ⟨hx, hb, hml, hown, hT⟩ (c_MO_open l D cB cI aM aMst aMdcs aMtot aMfrm aMsiz aMffr aMfsz aMlkd aMlat aMkkd aMkat aModr aMgrp aMikd aMiat fu thr tpd frs frt bgn mst tgr lvs its hgh loo dfl _ top_7 ovr_7 st_7 w_8 h_8) (cwV 0 hT (gV_of k_1318 k_1320 kp_MO_open k_12 kc_MO_open) rfl rfl rfl hd_MO_open ⟨rl_s (Nat.le_of_ble_eq_true rfl), rl_s (Nat.le_of_ble_eq_true rfl)⟩) hk hP hD hS hA [0, 1] [] rfl rfl rfl (by decide) (by decide) (by decide) (q0 := 0) rfl rfl rfl rfl hl.1 rfl (Nat.le_of_ble_eq_true rfl) d_MO_through_70 ⟨Nat.zero_le _, Nat.zero_le _⟩ (fun r_8 u_8 H locs hw_8 hP hD hS => ?_)
      subst hw_8
      obtain ⟨top_8, ovr_8, st_8⟩ := u_8
      have hP : va_P D vwCl [(aM, .inr (11, [.int thr, .ref aMst, .int tpd, .ref aMdcs, .ref aMtot, .ref aMfrm, .ref aMsiz, .int frs, .int frt, .ref aMffr, .ref aMfsz, .int top_8, .int bgn, .int mst, .int (b2i ovr_8), .int (b2i tgr), .int lvs, .ref aMlkd, .ref aMlat, .ref aMkkd, .ref aMkat, .ref aModr, .ref aMgrp, .int its, .ref aMikd, .ref aMiat, .long hgh, .long loo, .int (b2i dfl)])), (aMst, .inl (cI, 136400, .inl st_8))] H := hP.sub [0, 1] rfl
      have hD : va_D A [(aM, .inr (11, [.int thr, .ref aMst, .int tpd, .ref aMdcs, .ref aMtot, .ref aMfrm, .ref aMsiz, .int frs, .int frt, .ref aMffr, .ref aMfsz, .int top_8, .int bgn, .int mst, .int (b2i ovr_8), .int (b2i tgr), .int lvs, .ref aMlkd, .ref aMlat, .ref aMkkd, .ref aMkat, .ref aModr, .ref aMgrp, .int its, .ref aMikd, .ref aMiat, .long hgh, .long loo, .int (b2i dfl)])), (aMst, .inl (cI, 136400, .inl st_8))] := hD.sub [0, 1] (by decide) rfl
      refine lv_istore (lv' := [(6, .int r_8), (0, .ref aM), (2, .int x2), (3, .int x3), (4, .int x4), (5, .int x5)]) hx hb d_MO_through_73 hl (by decide) rfl (fun ls hl => ?_)
      refine lv_aload_n hx hb d_MO_through_75 rfl (lv_at hl 1 rfl) ?_
      refine lv_aload_n hx hb d_MO_through_76 rfl (lv_at hl 1 rfl) ?_
      refine lv_iload hx hb d_MO_through_77 (lv_at hl 5 rfl) ?_
      rcases h_9 : tw_MO_valueOf fu st_8 x5 with _ | r_9
      · exact op_no hs (by rw [hV, tw_MO_through_r12, h_3, ob1_mk, if_neg c_4, h_5, ob1_mk, if_neg c_6, h_7, ob3_mk, h_8, ob4_mk, h_9, ob1_no])
      refine rd_V (val := r_9) (As := [.int x5]) (rest := [.ref aM]) ⟨hx, hb, hml, hown, hT⟩ (c_MO_valueOf l D cB cI aM aMst aMdcs aMtot aMfrm aMsiz aMffr aMfsz aMlkd aMlat aMkkd aMkat aModr aMgrp aMikd aMiat fu thr tpd frs frt top_8 bgn mst ovr_8 tgr lvs its hgh loo dfl st_8 x5 r_9 h_9) (cwV 1 hT (gV_of k_1182 k_1184 kp_MO_valueOf k_12 kc_MO_valueOf) rfl rfl rfl hd_MO_valueOf ⟨rl_s (Nat.le_of_ble_eq_true rfl), rl_s (Nat.le_of_ble_eq_true rfl)⟩) hk hP (q0 := 0) rfl rfl rfl rfl hl.1 rfl (Nat.le_of_ble_eq_true rfl) d_MO_through_79 ⟨Nat.zero_le _, Nat.zero_le _⟩ ?_
      refine lv_aload_n hx hb d_MO_through_82 rfl (lv_at hl 1 rfl) ?_
      refine lv_iload_n hx hb d_MO_through_83 rfl (lv_at hl 2 rfl) ?_
      rcases h_10 : tw_MO_nextStep fu st_8 x2 with _ | r_10
      · exact op_no hs (by rw [hV, tw_MO_through_r12, h_3, ob1_mk, if_neg c_4, h_5, ob1_mk, if_neg c_6, h_7, ob3_mk, h_8, ob4_mk, h_9, ob1_mk, h_10, ob1_no])
      refine rd_V (val := r_10) (As := [.int x2]) (rest := [.int r_9, .ref aM]) ⟨hx, hb, hml, hown, hT⟩ (c_MO_nextStep l D cB cI aM aMst aMdcs aMtot aMfrm aMsiz aMffr aMfsz aMlkd aMlat aMkkd aMkat aModr aMgrp aMikd aMiat fu thr tpd frs frt top_8 bgn mst ovr_8 tgr lvs its hgh loo dfl st_8 x2 r_10 h_10) (cwV 1 hT (gV_of k_1363 k_1365 kp_MO_nextStep k_12 kc_MO_nextStep) rfl rfl rfl hd_MO_nextStep ⟨rl_s (Nat.le_of_ble_eq_true rfl), rl_s (Nat.le_of_ble_eq_true rfl)⟩) hk hP (q0 := 0) rfl rfl rfl rfl hl.1 rfl (Nat.le_of_ble_eq_true rfl) d_MO_through_84 ⟨Nat.zero_le _, Nat.zero_le _⟩ ?_
      refine lv_iload_n hx hb d_MO_through_87 rfl (lv_at hl 3 rfl) ?_
      refine lv_iload hx hb d_MO_through_88 (lv_at hl 4 rfl) ?_
      rcases h_11 : ft top_8 ovr_8 st_8 r_9 r_10 x3 x4 with _ | w_11
      · exact op_no hs (by rw [hV, tw_MO_through_r12, h_3, ob1_mk, if_neg c_4, h_5, ob1_mk, if_neg c_6, h_7, ob3_mk, h_8, ob4_mk, h_9, ob1_mk, h_10, ob1_mk, h_11, ob3_no])
      refine mt_Vv (As := [.int r_9, .int r_10, .int x3, .int x4]) (rest := []) (wr := []) ⟨hx, hb, hml, hown, hT⟩ (hft _ top_8 ovr_8 st_8 r_9 r_10 x3 x4 w_11 h_11) (cwV 4 hT (gV_of k_1391 k_1393 kp_MO_through k_12 kc_MO_through) rfl rfl rfl hd_MO_through ⟨rl_f (Nat.le_of_ble_eq_true rfl), rl_l (Nat.le_of_ble_eq_true rfl)⟩) hk hP hD hS hA [0, 1] [] rfl rfl rfl (by decide) (by decide) (by decide) (q0 := 0) rfl rfl rfl rfl hl.1 rfl (Nat.le_of_ble_eq_true rfl) d_MO_through_90 ⟨Nat.zero_le _, Nat.zero_le _⟩ (fun u_11 H locs hw_11 hP hD hS => ?_)
      subst hw_11
      obtain ⟨top_11, ovr_11, st_11⟩ := u_11
      have hP : va_P D vwCl [(aM, .inr (11, [.int thr, .ref aMst, .int tpd, .ref aMdcs, .ref aMtot, .ref aMfrm, .ref aMsiz, .int frs, .int frt, .ref aMffr, .ref aMfsz, .int top_11, .int bgn, .int mst, .int (b2i ovr_11), .int (b2i tgr), .int lvs, .ref aMlkd, .ref aMlat, .ref aMkkd, .ref aMkat, .ref aModr, .ref aMgrp, .int its, .ref aMikd, .ref aMiat, .long hgh, .long loo, .int (b2i dfl)])), (aMst, .inl (cI, 136400, .inl st_11))] H := hP.sub [0, 1] rfl
      have hD : va_D A [(aM, .inr (11, [.int thr, .ref aMst, .int tpd, .ref aMdcs, .ref aMtot, .ref aMfrm, .ref aMsiz, .int frs, .int frt, .ref aMffr, .ref aMfsz, .int top_11, .int bgn, .int mst, .int (b2i ovr_11), .int (b2i tgr), .int lvs, .ref aMlkd, .ref aMlat, .ref aMkkd, .ref aMkat, .ref aModr, .ref aMgrp, .int its, .ref aMikd, .ref aMiat, .long hgh, .long loo, .int (b2i dfl)])), (aMst, .inl (cI, 136400, .inl st_11))] := hD.sub [0, 1] (by decide) rfl
      refine lv_aload_n hx hb d_MO_through_93 rfl (lv_at hl 1 rfl) ?_
      refine lv_iload hx hb d_MO_through_94 (lv_at hl 0 rfl) ?_
      rcases h_12 : tw_MO_close fu bgn mst top_11 ovr_11 st_11 r_8 with _ | w_12
      · exact op_no hs (by rw [hV, tw_MO_through_r12, h_3, ob1_mk, if_neg c_4, h_5, ob1_mk, if_neg c_6, h_7, ob3_mk, h_8, ob4_mk, h_9, ob1_mk, h_10, ob1_mk, h_11, ob3_mk, h_12, ob3_no])
      refine mt_Vv (As := [.int r_8]) (rest := []) (wr := []) ⟨hx, hb, hml, hown, hT⟩ (c_MO_close l D cB cI aM aMst aMdcs aMtot aMfrm aMsiz aMffr aMfsz aMlkd aMlat aMkkd aMkat aModr aMgrp aMikd aMiat fu thr tpd frs frt bgn mst tgr lvs its hgh loo dfl _ top_11 ovr_11 st_11 r_8 w_12 h_12) (cwV 1 hT (gV_of k_1371 k_1373 kp_MO_close k_12 kc_MO_close) rfl rfl rfl hd_MO_close ⟨rl_s (Nat.le_of_ble_eq_true rfl), rl_s (Nat.le_of_ble_eq_true rfl)⟩) hk hP hD hS hA [0, 1] [] rfl rfl rfl (by decide) (by decide) (by decide) (q0 := 0) rfl rfl rfl rfl hl.1 rfl (Nat.le_of_ble_eq_true rfl) d_MO_through_96 ⟨Nat.zero_le _, Nat.zero_le _⟩ (fun u_12 H locs hw_12 hP hD hS => ?_)
      subst hw_12
      obtain ⟨top_12, ovr_12, st_12⟩ := u_12
      have hP : va_P D vwCl [(aM, .inr (11, [.int thr, .ref aMst, .int tpd, .ref aMdcs, .ref aMtot, .ref aMfrm, .ref aMsiz, .int frs, .int frt, .ref aMffr, .ref aMfsz, .int top_12, .int bgn, .int mst, .int (b2i ovr_12), .int (b2i tgr), .int lvs, .ref aMlkd, .ref aMlat, .ref aMkkd, .ref aMkat, .ref aModr, .ref aMgrp, .int its, .ref aMikd, .ref aMiat, .long hgh, .long loo, .int (b2i dfl)])), (aMst, .inl (cI, 136400, .inl st_12))] H := hP.sub [0, 1] rfl
      have hD : va_D A [(aM, .inr (11, [.int thr, .ref aMst, .int tpd, .ref aMdcs, .ref aMtot, .ref aMfrm, .ref aMsiz, .int frs, .int frt, .ref aMffr, .ref aMfsz, .int top_12, .int bgn, .int mst, .int (b2i ovr_12), .int (b2i tgr), .int lvs, .ref aMlkd, .ref aMlat, .ref aMkkd, .ref aMkat, .ref aModr, .ref aMgrp, .int its, .ref aMikd, .ref aMiat, .long hgh, .long loo, .int (b2i dfl)])), (aMst, .inl (cI, 136400, .inl st_12))] := hD.sub [0, 1] (by decide) rfl
      exact hKx top_12 ovr_12 st_12 (by rw [hV, tw_MO_through_r12, h_3, ob1_mk, if_neg c_4, h_5, ob1_mk, if_neg c_6, h_7, ob3_mk, h_8, ob4_mk, h_9, ob1_mk, h_10, ob1_mk, h_11, ob3_mk, h_12, ob3_mk]) _ _ hP hD hS ls (lv_sub hl [1, 2, 3, 4, 5] rfl)
    · refine lv_aload_n hx hb d_MO_through_39 rfl (lv_at hl 0 rfl) ?_
      refine lv_iload_n hx hb d_MO_through_40 rfl (lv_at hl 2 rfl) ?_
      refine lv_iload hx hb d_MO_through_41 (lv_at hl 4 rfl) ?_
      rcases h_13 : tw_MO_head fu bgn mst top ovr st x3 x5 with _ | w_13
      · exact op_no hs (by rw [hV, tw_MO_through_r12, h_3, ob1_mk, if_neg c_4, h_5, ob1_mk, if_pos c_6, h_13, ob3_no])
      refine mt_Vv (As := [.int x3, .int x5]) (rest := []) (wr := []) ⟨hx, hb, hml, hown, hT⟩ (c_MO_head l D cB cI aM aMst aMdcs aMtot aMfrm aMsiz aMffr aMfsz aMlkd aMlat aMkkd aMkat aModr aMgrp aMikd aMiat fu thr tpd frs frt bgn mst tgr lvs its hgh loo dfl _ top ovr st x3 x5 w_13 h_13) (cwV 2 hT (gV_of k_1375 k_1377 kp_MO_head k_12 kc_MO_head) rfl rfl rfl hd_MO_head ⟨rl_s (Nat.le_of_ble_eq_true rfl), rl_s (Nat.le_of_ble_eq_true rfl)⟩) hk hP hD hS hA [0, 1] [] rfl rfl rfl (by decide) (by decide) (by decide) (q0 := 0) rfl rfl rfl rfl hl.1 rfl (Nat.le_of_ble_eq_true rfl) d_MO_through_43 ⟨Nat.zero_le _, Nat.zero_le _⟩ (fun u_13 H locs hw_13 hP hD hS => ?_)
      subst hw_13
      obtain ⟨top_13, ovr_13, st_13⟩ := u_13
      have hP : va_P D vwCl [(aM, .inr (11, [.int thr, .ref aMst, .int tpd, .ref aMdcs, .ref aMtot, .ref aMfrm, .ref aMsiz, .int frs, .int frt, .ref aMffr, .ref aMfsz, .int top_13, .int bgn, .int mst, .int (b2i ovr_13), .int (b2i tgr), .int lvs, .ref aMlkd, .ref aMlat, .ref aMkkd, .ref aMkat, .ref aModr, .ref aMgrp, .int its, .ref aMikd, .ref aMiat, .long hgh, .long loo, .int (b2i dfl)])), (aMst, .inl (cI, 136400, .inl st_13))] H := hP.sub [0, 1] rfl
      have hD : va_D A [(aM, .inr (11, [.int thr, .ref aMst, .int tpd, .ref aMdcs, .ref aMtot, .ref aMfrm, .ref aMsiz, .int frs, .int frt, .ref aMffr, .ref aMfsz, .int top_13, .int bgn, .int mst, .int (b2i ovr_13), .int (b2i tgr), .int lvs, .ref aMlkd, .ref aMlat, .ref aMkkd, .ref aMkat, .ref aModr, .ref aMgrp, .int its, .ref aMikd, .ref aMiat, .long hgh, .long loo, .int (b2i dfl)])), (aMst, .inl (cI, 136400, .inl st_13))] := hD.sub [0, 1] (by decide) rfl
      refine lv_aload_n hx hb d_MO_through_46 rfl (lv_at hl 0 rfl) ?_
      refine lv_iload hx hb d_MO_through_47 (lv_at hl 3 rfl) ?_
      refine lv_aload_n hx hb d_MO_through_49 rfl (lv_at hl 0 rfl) ?_
      refine lv_iload_n hx hb d_MO_through_50 rfl (lv_at hl 2 rfl) ?_
      refine lv_iload hx hb d_MO_through_51 (lv_at hl 3 rfl) ?_
      rcases h_14 : tw_MO_lengthOf fu st_13 x3 x4 with _ | r_14
      · exact op_no hs (by rw [hV, tw_MO_through_r12, h_3, ob1_mk, if_neg c_4, h_5, ob1_mk, if_pos c_6, h_13, ob3_mk, h_14, ob1_no])
      refine rd_V (val := r_14) (As := [.int x3, .int x4]) (rest := [.int x4, .ref aM]) ⟨hx, hb, hml, hown, hT⟩ (c_MO_lengthOf l D cB cI aM aMst aMdcs aMtot aMfrm aMsiz aMffr aMfsz aMlkd aMlat aMkkd aMkat aModr aMgrp aMikd aMiat fu thr tpd frs frt top_13 bgn mst ovr_13 tgr lvs its hgh loo dfl st_13 x3 x4 r_14 h_14) (cwV 2 hT (gV_of k_1186 k_1188 kp_MO_lengthOf k_12 kc_MO_lengthOf) rfl rfl rfl hd_MO_lengthOf ⟨rl_s (Nat.le_of_ble_eq_true rfl), rl_s (Nat.le_of_ble_eq_true rfl)⟩) hk hP (q0 := 0) rfl rfl rfl rfl hl.1 rfl (Nat.le_of_ble_eq_true rfl) d_MO_through_53 ⟨Nat.zero_le _, Nat.zero_le _⟩ ?_
      rcases h_15 : tw_MO_copy fu bgn mst top_13 ovr_13 st_13 x4 r_14 with _ | w_15
      · exact op_no hs (by rw [hV, tw_MO_through_r12, h_3, ob1_mk, if_neg c_4, h_5, ob1_mk, if_pos c_6, h_13, ob3_mk, h_14, ob1_mk, h_15, ob3_no])
      refine mt_Vv (As := [.int x4, .int r_14]) (rest := []) (wr := []) ⟨hx, hb, hml, hown, hT⟩ (c_MO_copy l D cB cI aM aMst aMdcs aMtot aMfrm aMsiz aMffr aMfsz aMlkd aMlat aMkkd aMkat aModr aMgrp aMikd aMiat fu thr tpd frs frt bgn mst tgr lvs its hgh loo dfl _ top_13 ovr_13 st_13 x4 r_14 w_15 h_15) (cwV 2 hT (gV_of k_1338 k_1340 kp_MO_copy k_12 kc_MO_copy) rfl rfl rfl hd_MO_copy ⟨rl_s (Nat.le_of_ble_eq_true rfl), rl_s (Nat.le_of_ble_eq_true rfl)⟩) hk hP hD hS hA [0, 1] [] rfl rfl rfl (by decide) (by decide) (by decide) (q0 := 0) rfl rfl rfl rfl hl.1 rfl (Nat.le_of_ble_eq_true rfl) d_MO_through_56 ⟨Nat.zero_le _, Nat.zero_le _⟩ (fun u_15 H locs hw_15 hP hD hS => ?_)
      subst hw_15
      obtain ⟨top_15, ovr_15, st_15⟩ := u_15
      have hP : va_P D vwCl [(aM, .inr (11, [.int thr, .ref aMst, .int tpd, .ref aMdcs, .ref aMtot, .ref aMfrm, .ref aMsiz, .int frs, .int frt, .ref aMffr, .ref aMfsz, .int top_15, .int bgn, .int mst, .int (b2i ovr_15), .int (b2i tgr), .int lvs, .ref aMlkd, .ref aMlat, .ref aMkkd, .ref aMkat, .ref aModr, .ref aMgrp, .int its, .ref aMikd, .ref aMiat, .long hgh, .long loo, .int (b2i dfl)])), (aMst, .inl (cI, 136400, .inl st_15))] H := hP.sub [0, 1] rfl
      have hD : va_D A [(aM, .inr (11, [.int thr, .ref aMst, .int tpd, .ref aMdcs, .ref aMtot, .ref aMfrm, .ref aMsiz, .int frs, .int frt, .ref aMffr, .ref aMfsz, .int top_15, .int bgn, .int mst, .int (b2i ovr_15), .int (b2i tgr), .int lvs, .ref aMlkd, .ref aMlat, .ref aMkkd, .ref aMkat, .ref aModr, .ref aMgrp, .int its, .ref aMikd, .ref aMiat, .long hgh, .long loo, .int (b2i dfl)])), (aMst, .inl (cI, 136400, .inl st_15))] := hD.sub [0, 1] (by decide) rfl
      refine lv_goto (tgt := 99) hx hb d_MO_through_59 (by decide) ?_
      exact hKx top_15 ovr_15 st_15 (by rw [hV, tw_MO_through_r12, h_3, ob1_mk, if_neg c_4, h_5, ob1_mk, if_pos c_6, h_13, ob3_mk, h_14, ob1_mk, h_15, ob3_mk]) _ _ hP hD hS ls (lv_sub hl [0, 1, 2, 3, 4] rfl)
  · refine lv_aload_n hx hb d_MO_through_22 rfl (lv_at hl 0 rfl) ?_
    refine lv_iload hx hb d_MO_through_23 (lv_at hl 4 rfl) ?_
    rcases h_16 : tw_MO_element fu bgn mst top ovr st x5 with _ | w_16
    · exact op_no hs (by rw [hV, tw_MO_through_r12, h_3, ob1_mk, if_pos c_4, h_16, ob3_no])
    refine mt_Vv (As := [.int x5]) (rest := []) (wr := []) ⟨hx, hb, hml, hown, hT⟩ (c_MO_element l D cB cI aM aMst aMdcs aMtot aMfrm aMsiz aMffr aMfsz aMlkd aMlat aMkkd aMkat aModr aMgrp aMikd aMiat fu thr tpd frs frt bgn mst tgr lvs its hgh loo dfl _ top ovr st x5 w_16 h_16) (cwV 1 hT (gV_of k_1334 k_1336 kp_MO_element k_12 kc_MO_element) rfl rfl rfl hd_MO_element ⟨rl_s (Nat.le_of_ble_eq_true rfl), rl_s (Nat.le_of_ble_eq_true rfl)⟩) hk hP hD hS hA [0, 1] [] rfl rfl rfl (by decide) (by decide) (by decide) (q0 := 0) rfl rfl rfl rfl hl.1 rfl (Nat.le_of_ble_eq_true rfl) d_MO_through_25 ⟨Nat.zero_le _, Nat.zero_le _⟩ (fun u_16 H locs hw_16 hP hD hS => ?_)
    subst hw_16
    obtain ⟨top_16, ovr_16, st_16⟩ := u_16
    have hP : va_P D vwCl [(aM, .inr (11, [.int thr, .ref aMst, .int tpd, .ref aMdcs, .ref aMtot, .ref aMfrm, .ref aMsiz, .int frs, .int frt, .ref aMffr, .ref aMfsz, .int top_16, .int bgn, .int mst, .int (b2i ovr_16), .int (b2i tgr), .int lvs, .ref aMlkd, .ref aMlat, .ref aMkkd, .ref aMkat, .ref aModr, .ref aMgrp, .int its, .ref aMikd, .ref aMiat, .long hgh, .long loo, .int (b2i dfl)])), (aMst, .inl (cI, 136400, .inl st_16))] H := hP.sub [0, 1] rfl
    have hD : va_D A [(aM, .inr (11, [.int thr, .ref aMst, .int tpd, .ref aMdcs, .ref aMtot, .ref aMfrm, .ref aMsiz, .int frs, .int frt, .ref aMffr, .ref aMfsz, .int top_16, .int bgn, .int mst, .int (b2i ovr_16), .int (b2i tgr), .int lvs, .ref aMlkd, .ref aMlat, .ref aMkkd, .ref aMkat, .ref aModr, .ref aMgrp, .int its, .ref aMikd, .ref aMiat, .long hgh, .long loo, .int (b2i dfl)])), (aMst, .inl (cI, 136400, .inl st_16))] := hD.sub [0, 1] (by decide) rfl
    refine lv_goto (tgt := 99) hx hb d_MO_through_28 (by decide) ?_
    exact hKx top_16 ovr_16 st_16 (by rw [hV, tw_MO_through_r12, h_3, ob1_mk, if_pos c_4, h_16, ob3_mk]) _ _ hP hD hS ls (lv_sub hl [0, 1, 2, 3, 4] rfl)
set_option maxHeartbeats 4000000 in
set_option maxRecDepth 100000 in
theorem l_MO_through_h7 {p : Program} {e : Env} {s : State} {m : MethodId} {args : Array Value} {below : List Frame} {meth : Method} {c : Code} {V : Option (Int32 × Bool × (Nat → Int32))} {V0 : Int32 × Bool × (Nat → Int32)} (C0 : lc_C p s m meth c args b_MO_through 7 none R_MO lw_g) (hs : V = some V0) (l : Launch) (D : va_G) (cB cI : ClassId) (aM aMst aMdcs aMtot aMfrm aMsiz aMffr aMfsz aMlkd aMlat aMkkd aMkat aModr aMgrp aMikd aMiat : Nat) (rF : Nat) (rL : Nat) (fu : Nat) (ft : Int32 → Bool → (Nat → Int32) → Int32 → Int32 → Int32 → Int32 → Option (Int32 × Bool × (Nat → Int32))) (thr : Int32) (tpd : Int32) (frs : Int32) (frt : Int32) (bgn : Int32) (mst : Int32) (tgr : Bool) (lvs : Int32) (its : Int32) (hgh : Int64) (loo : Int64) (dfl : Bool) {A : Nat → Prop} (hk : hk_ D cB cI s) (hA : ∀ q : Nat, s.heap.size ≤ q → A q) (p1 : Int32) (p2 : Int32) (p3 : Int32) (hft : ∀ (sz : Nat) (top : Int32) (ovr : Bool) (st : Nat → Int32) (z0 z1 z2 z3 : Int32) (V1 : Int32 × Bool × (Nat → Int32)), ft top ovr st z0 z1 z2 z3 = some V1 → Met l y_MO_through mw_MO_through { frames := rF, cells := 0, slots := 0, locals := rL } (va_Pc [.ref aM, .int z0, .int z1, .int z2, .int z3] (mt_P D cB cI (wd_MO_through aM aMst aMdcs aMtot aMfrm aMsiz aMffr aMfsz aMlkd aMlat aMkkd aMkat aModr aMgrp aMikd aMiat cB cI thr tpd frs frt bgn mst tgr lvs its hgh loo dfl top ovr st) sz)) (va_Qv (fun (u : Int32 × Bool × (Nat → Int32)) => u = V1) (mt_B D (va_A (wd_MO_through aM aMst aMdcs aMtot aMfrm aMsiz aMffr aMfsz aMlkd aMlat aMkkd aMkat aModr aMgrp aMikd aMiat cB cI thr tpd frs frt bgn mst tgr lvs its hgh loo dfl top ovr st) sz) (fun u => wd_MO_through aM aMst aMdcs aMtot aMfrm aMsiz aMffr aMfsz aMlkd aMlat aMkkd aMkat aModr aMgrp aMikd aMiat cB cI thr tpd frs frt bgn mst tgr lvs its hgh loo dfl u.1 u.2.1 u.2.2)) (va_A (wd_MO_through aM aMst aMdcs aMtot aMfrm aMsiz aMffr aMfsz aMlkd aMlat aMkkd aMkat aModr aMgrp aMikd aMiat cB cI thr tpd frs frt bgn mst tgr lvs its hgh loo dfl top ovr st) sz)) 0 0 (va_A (wd_MO_through aM aMst aMdcs aMtot aMfrm aMsiz aMffr aMfsz aMlkd aMlat aMkkd aMkat aModr aMgrp aMikd aMiat cB cI thr tpd frs frt bgn mst tgr lvs its hgh loo dfl top ovr st) sz)) {K : Int32 → Int32 → Bool → (Nat → Int32) → Option (Int32 × Bool × (Nat → Int32))} (hKx : ∀ (x5 : Int32) (top : Int32) (ovr : Bool) (st : Nat → Int32), V = K x5 top ovr st → ∀ (H : Heap) (locs : List Loc), va_P D vwCl [(aM, .inr (11, [.int thr, .ref aMst, .int tpd, .ref aMdcs, .ref aMtot, .ref aMfrm, .ref aMsiz, .int frs, .int frt, .ref aMffr, .ref aMfsz, .int top, .int bgn, .int mst, .int (b2i ovr), .int (b2i tgr), .int lvs, .ref aMlkd, .ref aMlat, .ref aMkkd, .ref aMkat, .ref aModr, .ref aMgrp, .int its, .ref aMikd, .ref aMiat, .long hgh, .long loo, .int (b2i dfl)])), (aMst, .inl (cI, 136400, .inl st))] H → va_D A [(aM, .inr (11, [.int thr, .ref aMst, .int tpd, .ref aMdcs, .ref aMtot, .ref aMfrm, .ref aMsiz, .int frs, .int frt, .ref aMffr, .ref aMfsz, .int top, .int bgn, .int mst, .int (b2i ovr), .int (b2i tgr), .int lvs, .ref aMlkd, .ref aMlat, .ref aMkkd, .ref aMkat, .ref aModr, .ref aMgrp, .int its, .ref aMikd, .ref aMiat, .long hgh, .long loo, .int (b2i dfl)])), (aMst, .inl (cI, 136400, .inl st))] → va_S A s.heap H locs → ∀ ls : Array Slot, lv_has ls 7 [] → W p l e ({ frames := rF + 8, cells := 0, slots := 0, locals := rL + 240 }) s m args below meth c H locs 0 0 (MQ below (va_Qv (fun (u : Int32 × Bool × (Nat → Int32)) => u = V0) (mt_B D A (fun u => wd_MO_through aM aMst aMdcs aMtot aMfrm aMsiz aMffr aMfsz aMlkd aMlat aMkkd aMkat aModr aMgrp aMikd aMiat cB cI thr tpd frs frt bgn mst tgr lvs its hgh loo dfl u.1 u.2.1 u.2.2)) A) args s 0 0 A) (F0 m 110 ls [])) : ∀ (n : Nat) (x5 : Int32) (top : Int32) (ovr : Bool) (st : Nat → Int32), V = tw_MO_through_h7 fu ft bgn mst K p1 p2 p3 n x5 top ovr st → ∀ (H : Heap) (locs : List Loc), va_P D vwCl [(aM, .inr (11, [.int thr, .ref aMst, .int tpd, .ref aMdcs, .ref aMtot, .ref aMfrm, .ref aMsiz, .int frs, .int frt, .ref aMffr, .ref aMfsz, .int top, .int bgn, .int mst, .int (b2i ovr), .int (b2i tgr), .int lvs, .ref aMlkd, .ref aMlat, .ref aMkkd, .ref aMkat, .ref aModr, .ref aMgrp, .int its, .ref aMikd, .ref aMiat, .long hgh, .long loo, .int (b2i dfl)])), (aMst, .inl (cI, 136400, .inl st))] H → va_D A [(aM, .inr (11, [.int thr, .ref aMst, .int tpd, .ref aMdcs, .ref aMtot, .ref aMfrm, .ref aMsiz, .int frs, .int frt, .ref aMffr, .ref aMfsz, .int top, .int bgn, .int mst, .int (b2i ovr), .int (b2i tgr), .int lvs, .ref aMlkd, .ref aMlat, .ref aMkkd, .ref aMkat, .ref aModr, .ref aMgrp, .int its, .ref aMikd, .ref aMiat, .long hgh, .long loo, .int (b2i dfl)])), (aMst, .inl (cI, 136400, .inl st))] → va_S A s.heap H locs → ∀ ls : Array Slot, lv_has ls 7 [(0, .ref aM), (2, .int p1), (3, .int p2), (4, .int p3), (5, .int x5)] → W p l e ({ frames := rF + 8, cells := 0, slots := 0, locals := rL + 240 }) s m args below meth c H locs 0 0 (MQ below (va_Qv (fun (u : Int32 × Bool × (Nat → Int32)) => u = V0) (mt_B D A (fun u => wd_MO_through aM aMst aMdcs aMtot aMfrm aMsiz aMffr aMfsz aMlkd aMlat aMkkd aMkat aModr aMgrp aMikd aMiat cB cI thr tpd frs frt bgn mst tgr lvs its hgh loo dfl u.1 u.2.1 u.2.2)) A) args s 0 0 A) (F0 m 7 ls []) := by
  obtain ⟨hx, hb, hml, hr, hown, hlocks, hT⟩ := id C0
  have hK := hk.1
  have hN := hk.2.1
  intro n
  induction n with
  | zero =>
    intro x5 top ovr st hV
    exact op_no hs (hV.trans rfl)
  | succ n ih =>
    intro x5 top ovr st hV H locs hP hD hS ls hl
    refine lv_iload hx hb d_MO_through_7 (lv_at hl 4 rfl) ?_
    refine lv_if_le (tgt := 110) hx hb d_MO_through_9 (by decide) (fun c_2 => ?_) (fun c_2 => ?_)
    · exact hKx x5 top ovr st (by rw [hV, tw_MO_through_h7, if_pos c_2]) _ _ hP hD hS ls (lv_sub hl [] rfl)
    · refine l_MO_through_r12 C0 hs l D cB cI aM aMst aMdcs aMtot aMfrm aMsiz aMffr aMfsz aMlkd aMlat aMkkd aMkat aModr aMgrp aMikd aMiat rF rL fu ft thr tpd frs frt bgn mst tgr lvs its hgh loo dfl hk hA p1 p2 p3 x5 top ovr st hft (K := (fun (top_17 : Int32) (ovr_17 : Bool) (st_17 : Nat → Int32) =>
          ob1 (tw_MO_nextOf fu st_17 x5) (fun r_18 =>
            tw_MO_through_h7 fu ft bgn mst K p1 p2 p3 n r_18 top_17 ovr_17 st_17))) ?_ (by rw [hV, tw_MO_through_h7, if_neg c_2]) _ _ hP hD hS ls (lv_sub hl [0, 1, 2, 3, 4] rfl)
      intro top_17 ovr_17 st_17 hV_17 H locs hP hD hS ls hl
      refine lv_aload_n hx hb d_MO_through_99 rfl (lv_at hl 0 rfl) ?_
      refine lv_iload hx hb d_MO_through_100 (lv_at hl 4 rfl) ?_
      rcases h_18 : tw_MO_nextOf fu st_17 x5 with _ | r_18
      · exact op_no hs (by rw [hV_17, h_18, ob1_no])
      refine rd_V (val := r_18) (As := [.int x5]) (rest := []) ⟨hx, hb, hml, hown, hT⟩ (c_MO_nextOf l D cB cI aM aMst aMdcs aMtot aMfrm aMsiz aMffr aMfsz aMlkd aMlat aMkkd aMkat aModr aMgrp aMikd aMiat fu thr tpd frs frt top_17 bgn mst ovr_17 tgr lvs its hgh loo dfl st_17 x5 r_18 h_18) (cwV 1 hT (gV_of k_1204 k_1206 kp_MO_nextOf k_12 kc_MO_nextOf) rfl rfl rfl hd_MO_nextOf ⟨rl_s (Nat.le_of_ble_eq_true rfl), rl_s (Nat.le_of_ble_eq_true rfl)⟩) hk hP (q0 := 0) rfl rfl rfl rfl hl.1 rfl (Nat.le_of_ble_eq_true rfl) d_MO_through_102 ⟨Nat.zero_le _, Nat.zero_le _⟩ ?_
      refine lv_istore (lv' := [(5, .int r_18), (0, .ref aM), (2, .int p1), (3, .int p2), (4, .int p3)]) hx hb d_MO_through_105 hl (by decide) rfl (fun ls hl => ?_)
      refine lv_goto (tgt := 7) hx hb d_MO_through_107 (by decide) ?_
      exact ih r_18 top_17 ovr_17 st_17 (by rw [hV_17, h_18, ob1_mk]) _ _ hP hD hS ls (lv_sub hl [1, 2, 3, 4, 0] rfl)
set_option maxHeartbeats 4000000 in
set_option maxRecDepth 100000 in
theorem c_MO_through (l : Launch) (D : va_G) (cB cI : ClassId) (aM aMst aMdcs aMtot aMfrm aMsiz aMffr aMfsz aMlkd aMlat aMkkd aMkat aModr aMgrp aMikd aMiat : Nat) (rF : Nat) (rL : Nat) (fu : Nat) (ft : Int32 → Bool → (Nat → Int32) → Int32 → Int32 → Int32 → Int32 → Option (Int32 × Bool × (Nat → Int32))) (thr : Int32) (tpd : Int32) (frs : Int32) (frt : Int32) (bgn : Int32) (mst : Int32) (tgr : Bool) (lvs : Int32) (its : Int32) (hgh : Int64) (loo : Int64) (dfl : Bool) (sz : Nat) (top : Int32) (ovr : Bool) (st : Nat → Int32) (p0 : Int32) (p1 : Int32) (p2 : Int32) (p3 : Int32) (hft : ∀ (sz : Nat) (top : Int32) (ovr : Bool) (st : Nat → Int32) (z0 z1 z2 z3 : Int32) (V1 : Int32 × Bool × (Nat → Int32)), ft top ovr st z0 z1 z2 z3 = some V1 → Met l y_MO_through mw_MO_through { frames := rF, cells := 0, slots := 0, locals := rL } (va_Pc [.ref aM, .int z0, .int z1, .int z2, .int z3] (mt_P D cB cI (wd_MO_through aM aMst aMdcs aMtot aMfrm aMsiz aMffr aMfsz aMlkd aMlat aMkkd aMkat aModr aMgrp aMikd aMiat cB cI thr tpd frs frt bgn mst tgr lvs its hgh loo dfl top ovr st) sz)) (va_Qv (fun (u : Int32 × Bool × (Nat → Int32)) => u = V1) (mt_B D (va_A (wd_MO_through aM aMst aMdcs aMtot aMfrm aMsiz aMffr aMfsz aMlkd aMlat aMkkd aMkat aModr aMgrp aMikd aMiat cB cI thr tpd frs frt bgn mst tgr lvs its hgh loo dfl top ovr st) sz) (fun u => wd_MO_through aM aMst aMdcs aMtot aMfrm aMsiz aMffr aMfsz aMlkd aMlat aMkkd aMkat aModr aMgrp aMikd aMiat cB cI thr tpd frs frt bgn mst tgr lvs its hgh loo dfl u.1 u.2.1 u.2.2)) (va_A (wd_MO_through aM aMst aMdcs aMtot aMfrm aMsiz aMffr aMfsz aMlkd aMlat aMkkd aMkat aModr aMgrp aMikd aMiat cB cI thr tpd frs frt bgn mst tgr lvs its hgh loo dfl top ovr st) sz)) 0 0 (va_A (wd_MO_through aM aMst aMdcs aMtot aMfrm aMsiz aMffr aMfsz aMlkd aMlat aMkkd aMkat aModr aMgrp aMikd aMiat cB cI thr tpd frs frt bgn mst tgr lvs its hgh loo dfl top ovr st) sz)) (V0 : Int32 × Bool × (Nat → Int32)) (hs : tw_MO_through fu ft bgn mst top ovr st p0 p1 p2 p3 = some V0) : Met l y_MO_through mw_MO_through { frames := rF + 8, cells := 0, slots := 0, locals := rL + 240 } (va_Pc [.ref aM, .int p0, .int p1, .int p2, .int p3] (mt_P D cB cI (wd_MO_through aM aMst aMdcs aMtot aMfrm aMsiz aMffr aMfsz aMlkd aMlat aMkkd aMkat aModr aMgrp aMikd aMiat cB cI thr tpd frs frt bgn mst tgr lvs its hgh loo dfl top ovr st) sz)) (va_Qv (fun (u : Int32 × Bool × (Nat → Int32)) => u = V0) (mt_B D (va_A (wd_MO_through aM aMst aMdcs aMtot aMfrm aMsiz aMffr aMfsz aMlkd aMlat aMkkd aMkat aModr aMgrp aMikd aMiat cB cI thr tpd frs frt bgn mst tgr lvs its hgh loo dfl top ovr st) sz) (fun u => wd_MO_through aM aMst aMdcs aMtot aMfrm aMsiz aMffr aMfsz aMlkd aMlat aMkkd aMkat aModr aMgrp aMikd aMiat cB cI thr tpd frs frt bgn mst tgr lvs its hgh loo dfl u.1 u.2.1 u.2.2)) (va_A (wd_MO_through aM aMst aMdcs aMtot aMfrm aMsiz aMffr aMfsz aMlkd aMlat aMkkd aMkat aModr aMgrp aMikd aMiat cB cI thr tpd frs frt bgn mst tgr lvs its hgh loo dfl top ovr st) sz)) 0 0 (va_A (wd_MO_through aM aMst aMdcs aMtot aMfrm aMsiz aMffr aMfsz aMlkd aMlat aMkkd aMkat aModr aMgrp aMikd aMiat cB cI thr tpd frs frt bgn mst tgr lvs its hgh loo dfl top ovr st) sz) := by
  refine Met.ofW (cc := b_MO_through) (maxL := 7) (ret := none) (by decide) rfl ?_
  intro p e s m args below meth c s₁ B0 hml hv
  obtain ⟨rfl, hsz, hP, hk, hD0⟩ := hv
  have hK := hk.1
  have hN := hk.2.1
  have hx := B0.exec
  have hb := B0.bytes
  have hr := B0.returns
  have hT : ∀ w ∈ lw_g, w.before _ s = true := fun w h => atoms_spec (ws := mw_MO_through) B0.pre w (List.mem_cons_of_mem _ h)
  have hown : s.vm.findClass R_MO = some m.cls := findClass_of_methodNamed B0.named
  have hlocks := B0.notSynchronized
  subst hsz
  have hD := hD0.self (sz := s.heap.size)
  generalize hAe : va_A [(aM, .inr (11, [.int thr, .ref aMst, .int tpd, .ref aMdcs, .ref aMtot, .ref aMfrm, .ref aMsiz, .int frs, .int frt, .ref aMffr, .ref aMfsz, .int top, .int bgn, .int mst, .int (b2i ovr), .int (b2i tgr), .int lvs, .ref aMlkd, .ref aMlat, .ref aMkkd, .ref aMkat, .ref aModr, .ref aMgrp, .int its, .ref aMikd, .ref aMiat, .long hgh, .long loo, .int (b2i dfl)])), (aMst, .inl (cI, 136400, .inl st))] s.heap.size = A at hD ⊢
  have hA : ∀ q : Nat, s.heap.size ≤ q → A q := fun q h => by rw [← hAe]; exact Or.inr h
  have hS : va_S A s.heap s.heap [] := va_S.rf
  have hl := lv_entry ([.ref aM, .int p0, .int p1, .int p2, .int p3]) (n := 7) (Nat.le_of_ble_eq_true rfl)
  rw [lg_entry_eq]
  generalize (lg_sl ([.ref aM, .int p0, .int p1, .int p2, .int p3]) ++ List.replicate (7 - (lg_sl ([.ref aM, .int p0, .int p1, .int p2, .int p3])).length) Slot.unset).toArray = ls at hl ⊢
  have hl : lv_has ls 7 [(0, .ref aM), (1, .int p0), (2, .int p1), (3, .int p2), (4, .int p3)] := hl
  have C0 : lc_C p s m meth c _ b_MO_through 7 none R_MO lw_g := ⟨hx, hb, hml, hr, hown, hlocks, hT⟩
  refine lv_aload_n hx hb d_MO_through_0 rfl (lv_at hl 0 rfl) ?_
  refine lv_iload_n hx hb d_MO_through_1 rfl (lv_at hl 1 rfl) ?_
  rcases h_1 : tw_MO_firstOf fu st p0 with _ | r_1
  · exact op_no hs (by rw [tw_MO_through, h_1, ob1_no])
  refine rd_V (val := r_1) (As := [.int p0]) (rest := []) ⟨hx, hb, hml, hown, hT⟩ (c_MO_firstOf l D cB cI aM aMst aMdcs aMtot aMfrm aMsiz aMffr aMfsz aMlkd aMlat aMkkd aMkat aModr aMgrp aMikd aMiat fu thr tpd frs frt top bgn mst ovr tgr lvs its hgh loo dfl st p0 r_1 h_1) (cwV 1 hT (gV_of k_1196 k_1198 kp_MO_firstOf k_12 kc_MO_firstOf) rfl rfl rfl hd_MO_firstOf ⟨rl_s (Nat.le_of_ble_eq_true rfl), rl_s (Nat.le_of_ble_eq_true rfl)⟩) hk hP (q0 := 0) rfl rfl rfl rfl hl.1 rfl (Nat.le_of_ble_eq_true rfl) d_MO_through_2 ⟨Nat.zero_le _, Nat.zero_le _⟩ ?_
  refine lv_istore (lv' := [(5, .int r_1), (0, .ref aM), (1, .int p0), (2, .int p1), (3, .int p2), (4, .int p3)]) hx hb d_MO_through_5 hl (by decide) rfl (fun ls hl => ?_)
  refine l_MO_through_h7 C0 hs l D cB cI aM aMst aMdcs aMtot aMfrm aMsiz aMffr aMfsz aMlkd aMlat aMkkd aMkat aModr aMgrp aMikd aMiat rF rL fu ft thr tpd frs frt bgn mst tgr lvs its hgh loo dfl hk hA p1 p2 p3 hft  (K := (fun (x5_19 : Int32) (top_19 : Int32) (ovr_19 : Bool) (st_19 : Nat → Int32) =>
      some (top_19, ovr_19, st_19))) ?_ fu r_1 top ovr st  (by rw [tw_MO_through, h_1, ob1_mk]) _ _ hP hD hS ls (lv_sub hl [1, 3, 4, 5, 0] rfl)
  intro x5_19 top_19 ovr_19 st_19 hV_19 H locs hP hD hS ls hl
  exact W.vret hx hb hr (fun t ht hW => ⟨⟨(top_19, ovr_19, st_19), rfl, (op_eq hs (by rw [hV_19])), by rw [ht]; exact hP, hD⟩, hS.F ht⟩) hS.2.2 d_MO_through_110
set_option maxHeartbeats 4000000 in
set_option maxRecDepth 100000 in
theorem c_tw_MO_thr (l : Launch) (D : va_G) (cB cI : ClassId) (aM aMst aMdcs aMtot aMfrm aMsiz aMffr aMfsz aMlkd aMlat aMkkd aMkat aModr aMgrp aMikd aMiat : Nat) (fu : Nat) (thr : Int32) (tpd : Int32) (frs : Int32) (frt : Int32) (bgn : Int32) (mst : Int32) (tgr : Bool) (lvs : Int32) (its : Int32) (hgh : Int64) (loo : Int64) (dfl : Bool) : ∀ (k : Nat) (sz : Nat) (top : Int32) (ovr : Bool) (st : Nat → Int32) (z0 z1 z2 z3 : Int32) (V1 : Int32 × Bool × (Nat → Int32)), tw_MO_thr fu bgn mst k top ovr st z0 z1 z2 z3 = some V1 → Met l y_MO_through mw_MO_through { frames := 8 * k, cells := 0, slots := 0, locals := 240 * k } (va_Pc [.ref aM, .int z0, .int z1, .int z2, .int z3] (mt_P D cB cI (wd_MO_through aM aMst aMdcs aMtot aMfrm aMsiz aMffr aMfsz aMlkd aMlat aMkkd aMkat aModr aMgrp aMikd aMiat cB cI thr tpd frs frt bgn mst tgr lvs its hgh loo dfl top ovr st) sz)) (va_Qv (fun (u : Int32 × Bool × (Nat → Int32)) => u = V1) (mt_B D (va_A (wd_MO_through aM aMst aMdcs aMtot aMfrm aMsiz aMffr aMfsz aMlkd aMlat aMkkd aMkat aModr aMgrp aMikd aMiat cB cI thr tpd frs frt bgn mst tgr lvs its hgh loo dfl top ovr st) sz) (fun u => wd_MO_through aM aMst aMdcs aMtot aMfrm aMsiz aMffr aMfsz aMlkd aMlat aMkkd aMkat aModr aMgrp aMikd aMiat cB cI thr tpd frs frt bgn mst tgr lvs its hgh loo dfl u.1 u.2.1 u.2.2)) (va_A (wd_MO_through aM aMst aMdcs aMtot aMfrm aMsiz aMffr aMfsz aMlkd aMlat aMkkd aMkat aModr aMgrp aMikd aMiat cB cI thr tpd frs frt bgn mst tgr lvs its hgh loo dfl top ovr st) sz)) 0 0 (va_A (wd_MO_through aM aMst aMdcs aMtot aMfrm aMsiz aMffr aMfsz aMlkd aMlat aMkkd aMkat aModr aMgrp aMikd aMiat cB cI thr tpd frs frt bgn mst tgr lvs its hgh loo dfl top ovr st) sz) := by
  intro k
  induction k with
  | zero =>
    intro sz top ovr st z0 z1 z2 z3 V1 hs
    cases hs
  | succ k ih =>
    intro sz top ovr st z0 z1 z2 z3 V1 hs
    exact c_MO_through l D cB cI aM aMst aMdcs aMtot aMfrm aMsiz aMffr aMfsz aMlkd aMlat aMkkd aMkat aModr aMgrp aMikd aMiat (8 * k) (240 * k) fu _ thr tpd frs frt bgn mst tgr lvs its hgh loo dfl sz top ovr st z0 z1 z2 z3 (fun sz2 top2 ovr2 st2 z02 z12 z22 z32 V2 h2 => ih sz2 top2 ovr2 st2 z02 z12 z22 z32 V2 h2) V1 hs
set_option maxHeartbeats 4000000 in
set_option maxRecDepth 100000 in
theorem c_tw_MO_thr0 (l : Launch) (D : va_G) (cB cI : ClassId) (aM aMst aMdcs aMtot aMfrm aMsiz aMffr aMfsz aMlkd aMlat aMkkd aMkat aModr aMgrp aMikd aMiat : Nat) (fu : Nat) (thr : Int32) (tpd : Int32) (frs : Int32) (frt : Int32) (bgn : Int32) (mst : Int32) (tgr : Bool) (lvs : Int32) (its : Int32) (hgh : Int64) (loo : Int64) (dfl : Bool) (sz : Nat) (top : Int32) (ovr : Bool) (st : Nat → Int32) (z0 z1 z2 z3 : Int32) (V1 : Int32 × Bool × (Nat → Int32)) (hs : tw_MO_thr0 fu bgn mst top ovr st z0 z1 z2 z3 = some V1) : Met l y_MO_through mw_MO_through { frames := 160, cells := 0, slots := 0, locals := 4800 } (va_Pc [.ref aM, .int z0, .int z1, .int z2, .int z3] (mt_P D cB cI (wd_MO_through aM aMst aMdcs aMtot aMfrm aMsiz aMffr aMfsz aMlkd aMlat aMkkd aMkat aModr aMgrp aMikd aMiat cB cI thr tpd frs frt bgn mst tgr lvs its hgh loo dfl top ovr st) sz)) (va_Qv (fun (u : Int32 × Bool × (Nat → Int32)) => u = V1) (mt_B D (va_A (wd_MO_through aM aMst aMdcs aMtot aMfrm aMsiz aMffr aMfsz aMlkd aMlat aMkkd aMkat aModr aMgrp aMikd aMiat cB cI thr tpd frs frt bgn mst tgr lvs its hgh loo dfl top ovr st) sz) (fun u => wd_MO_through aM aMst aMdcs aMtot aMfrm aMsiz aMffr aMfsz aMlkd aMlat aMkkd aMkat aModr aMgrp aMikd aMiat cB cI thr tpd frs frt bgn mst tgr lvs its hgh loo dfl u.1 u.2.1 u.2.2)) (va_A (wd_MO_through aM aMst aMdcs aMtot aMfrm aMsiz aMffr aMfsz aMlkd aMlat aMkkd aMkat aModr aMgrp aMikd aMiat cB cI thr tpd frs frt bgn mst tgr lvs its hgh loo dfl top ovr st) sz)) 0 0 (va_A (wd_MO_through aM aMst aMdcs aMtot aMfrm aMsiz aMffr aMfsz aMlkd aMlat aMkkd aMkat aModr aMgrp aMikd aMiat cB cI thr tpd frs frt bgn mst tgr lvs its hgh loo dfl top ovr st) sz) := c_tw_MO_thr l D cB cI aM aMst aMdcs aMtot aMfrm aMsiz aMffr aMfsz aMlkd aMlat aMkkd aMkat aModr aMgrp aMikd aMiat fu thr tpd frs frt bgn mst tgr lvs its hgh loo dfl 20 sz top ovr st z0 z1 z2 z3 V1 hs

