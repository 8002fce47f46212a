/-! printed by wip/gen -/
theorem k_1062 : (Jvm.Cond.fieldLink "PipelineBeltModel" (39 : Nat) "PipelineBeltModel" "keyKind" "[I") ∈ lw_g := lw_gm (List.mem_append_right _ (List.mem_of_getElem? (i := 1062) (by decide +kernel))) rfl
theorem k_1063 : (Jvm.Cond.fieldLink "PipelineBeltModel" (42 : Nat) "PipelineBeltModel" "keyAt" "[I") ∈ lw_g := lw_gm (List.mem_append_right _ (List.mem_of_getElem? (i := 1063) (by decide +kernel))) rfl
theorem k_1383 : (Jvm.Cond.methodLink "PipelineBeltModel" (128 : Nat) ({ cls := "PipelineBeltModel", name := "deepOf", desc := "(II)I" } : Jvm.MethodName)) ∈ lw_g := lw_gm (List.mem_append_right _ (List.mem_of_getElem? (i := 1383) (by decide +kernel))) rfl
theorem k_1385 : (Jvm.Cond.instanceMethod ({ cls := "PipelineBeltModel", name := "deepOf", desc := "(II)I" } : Jvm.MethodName)) ∈ lw_g := lw_gm (List.mem_append_right _ (List.mem_of_getElem? (i := 1385) (by decide +kernel))) rfl
theorem k_1408 : (Jvm.Cond.methodLink "PipelineBeltModel" (125 : Nat) ({ cls := "PipelineBeltModel", name := "orderOf", desc := "(IIII)I" } : Jvm.MethodName)) ∈ lw_g := lw_gm (List.mem_append_right _ (List.mem_of_getElem? (i := 1408) (by decide +kernel))) rfl
theorem k_1410 : (Jvm.Cond.instanceMethod ({ cls := "PipelineBeltModel", name := "orderOf", desc := "(IIII)I" } : Jvm.MethodName)) ∈ lw_g := lw_gm (List.mem_append_right _ (List.mem_of_getElem? (i := 1410) (by decide +kernel))) rfl
theorem k_1412 : (Jvm.Cond.methodLink "PipelineBeltModel" (114 : Nat) ({ cls := "PipelineBeltModel", name := "classOf", desc := "(I)I" } : Jvm.MethodName)) ∈ lw_g := lw_gm (List.mem_append_right _ (List.mem_of_getElem? (i := 1412) (by decide +kernel))) rfl
theorem k_1413 : (Jvm.Cond.static ({ cls := "PipelineBeltModel", name := "classOf", desc := "(I)I" } : Jvm.MethodName)) ∈ lw_g := lw_gm (List.mem_append_right _ (List.mem_of_getElem? (i := 1413) (by decide +kernel))) rfl
theorem k_1415 : (Jvm.Cond.methodLink "PipelineBeltModel" (121 : Nat) ({ cls := "PipelineBeltModel", name := "orderBoxes", desc := "(IIZ)I" } : Jvm.MethodName)) ∈ lw_g := lw_gm (List.mem_append_right _ (List.mem_of_getElem? (i := 1415) (by decide +kernel))) rfl
theorem k_1417 : (Jvm.Cond.instanceMethod ({ cls := "PipelineBeltModel", name := "orderBoxes", desc := "(IIZ)I" } : Jvm.MethodName)) ∈ lw_g := lw_gm (List.mem_append_right _ (List.mem_of_getElem? (i := 1417) (by decide +kernel))) rfl
abbrev b_MO_orderOf : ByteArray := prog_13_method_21_code
def y_MO_orderOf : MethodName := ⟨R_MO, "orderOf", "(IIII)I"⟩
theorem kc_MO_orderOf : Cond.code y_MO_orderOf b_MO_orderOf 10 (some .int) ∈ lw_g := lw_gm (List.mem_append_right _ (List.mem_of_getElem? (i := 1411) (by decide +kernel))) rfl
abbrev mw_MO_orderOf : List Cond := Cond.code y_MO_orderOf b_MO_orderOf 10 (some .int) :: lw_g
theorem hd_MO_orderOf : y_MO_orderOf.cls = R_MO ∧ y_MO_orderOf.cls ≠ "java/lang/invoke/MethodHandle" ∧ y_MO_orderOf.cls ≠ "java/lang/invoke/VarHandle" ∧ (parseMethodDescriptor y_MO_orderOf.desc).map (fun d => d.parameters.length) = some 4 := by decide +kernel
theorem kp_MO_orderOf : Cond.selects R_MO y_MO_orderOf y_MO_orderOf ∈ lw_g := lw_gm (List.mem_append_left _ (by decide +kernel)) rfl
theorem d_MO_orderOf_0 : decode b_MO_orderOf 0 = .ok (.iload_n 1, 1) := by decide +kernel
theorem d_MO_orderOf_1 : decode b_MO_orderOf 1 = .ok (.invokestatic 114, 3) := by decide +kernel
theorem d_MO_orderOf_4 : decode b_MO_orderOf 4 = .ok (.istore 5, 2) := by decide +kernel
theorem d_MO_orderOf_6 : decode b_MO_orderOf 6 = .ok (.iload 5, 2) := by decide +kernel
theorem d_MO_orderOf_8 : decode b_MO_orderOf 8 = .ok (.iload_n 3, 1) := by decide +kernel
theorem d_MO_orderOf_9 : decode b_MO_orderOf 9 = .ok (.invokestatic 114, 3) := by decide +kernel
theorem d_MO_orderOf_12 : decode b_MO_orderOf 12 = .ok (.if_icmp .eq 18, 3) := by decide +kernel
theorem d_MO_orderOf_15 : decode b_MO_orderOf 15 = .ok (.iload 5, 2) := by decide +kernel
theorem d_MO_orderOf_17 : decode b_MO_orderOf 17 = .ok (.iload_n 3, 1) := by decide +kernel
theorem d_MO_orderOf_18 : decode b_MO_orderOf 18 = .ok (.invokestatic 114, 3) := by decide +kernel
theorem d_MO_orderOf_21 : decode b_MO_orderOf 21 = .ok (.if_icmp .ge 7, 3) := by decide +kernel
theorem d_MO_orderOf_24 : decode b_MO_orderOf 24 = .ok (.iconst (-1), 1) := by decide +kernel
theorem d_MO_orderOf_25 : decode b_MO_orderOf 25 = .ok (.goto 4, 3) := by decide +kernel
theorem d_MO_orderOf_28 : decode b_MO_orderOf 28 = .ok (.iconst 1, 1) := by decide +kernel
theorem d_MO_orderOf_29 : decode b_MO_orderOf 29 = .ok (.ireturn, 1) := by decide +kernel
theorem d_MO_orderOf_30 : decode b_MO_orderOf 30 = .ok (.iload 5, 2) := by decide +kernel
theorem d_MO_orderOf_32 : decode b_MO_orderOf 32 = .ok (.iconst 2, 1) := by decide +kernel
theorem d_MO_orderOf_33 : decode b_MO_orderOf 33 = .ok (.if_icmp .eq 10, 3) := by decide +kernel
theorem d_MO_orderOf_36 : decode b_MO_orderOf 36 = .ok (.iload 5, 2) := by decide +kernel
theorem d_MO_orderOf_38 : decode b_MO_orderOf 38 = .ok (.bipush 6, 2) := by decide +kernel
theorem d_MO_orderOf_40 : decode b_MO_orderOf 40 = .ok (.if_icmp .ne 46, 3) := by decide +kernel
theorem d_MO_orderOf_43 : decode b_MO_orderOf 43 = .ok (.aload_n 0, 1) := by decide +kernel
theorem d_MO_orderOf_44 : decode b_MO_orderOf 44 = .ok (.iload_n 1, 1) := by decide +kernel
theorem d_MO_orderOf_45 : decode b_MO_orderOf 45 = .ok (.iload_n 2, 1) := by decide +kernel
theorem d_MO_orderOf_46 : decode b_MO_orderOf 46 = .ok (.invokevirtual 117, 3) := by decide +kernel
theorem d_MO_orderOf_49 : decode b_MO_orderOf 49 = .ok (.lstore 6, 2) := by decide +kernel
theorem d_MO_orderOf_51 : decode b_MO_orderOf 51 = .ok (.aload_n 0, 1) := by decide +kernel
theorem d_MO_orderOf_52 : decode b_MO_orderOf 52 = .ok (.iload_n 3, 1) := by decide +kernel
theorem d_MO_orderOf_53 : decode b_MO_orderOf 53 = .ok (.iload 4, 2) := by decide +kernel
theorem d_MO_orderOf_55 : decode b_MO_orderOf 55 = .ok (.invokevirtual 117, 3) := by decide +kernel
theorem d_MO_orderOf_58 : decode b_MO_orderOf 58 = .ok (.lstore 8, 2) := by decide +kernel
theorem d_MO_orderOf_60 : decode b_MO_orderOf 60 = .ok (.lload 6, 2) := by decide +kernel
theorem d_MO_orderOf_62 : decode b_MO_orderOf 62 = .ok (.lload 8, 2) := by decide +kernel
theorem d_MO_orderOf_64 : decode b_MO_orderOf 64 = .ok (.lcmp, 1) := by decide +kernel
theorem d_MO_orderOf_65 : decode b_MO_orderOf 65 = .ok (.ifCond .ge 7, 3) := by decide +kernel
theorem d_MO_orderOf_68 : decode b_MO_orderOf 68 = .ok (.iconst (-1), 1) := by decide +kernel
theorem d_MO_orderOf_69 : decode b_MO_orderOf 69 = .ok (.goto 16, 3) := by decide +kernel
theorem d_MO_orderOf_72 : decode b_MO_orderOf 72 = .ok (.lload 6, 2) := by decide +kernel
theorem d_MO_orderOf_74 : decode b_MO_orderOf 74 = .ok (.lload 8, 2) := by decide +kernel
theorem d_MO_orderOf_76 : decode b_MO_orderOf 76 = .ok (.lcmp, 1) := by decide +kernel
theorem d_MO_orderOf_77 : decode b_MO_orderOf 77 = .ok (.ifCond .le 7, 3) := by decide +kernel
theorem d_MO_orderOf_80 : decode b_MO_orderOf 80 = .ok (.iconst 1, 1) := by decide +kernel
theorem d_MO_orderOf_81 : decode b_MO_orderOf 81 = .ok (.goto 4, 3) := by decide +kernel
theorem d_MO_orderOf_84 : decode b_MO_orderOf 84 = .ok (.iconst 0, 1) := by decide +kernel
theorem d_MO_orderOf_85 : decode b_MO_orderOf 85 = .ok (.ireturn, 1) := by decide +kernel
theorem d_MO_orderOf_86 : decode b_MO_orderOf 86 = .ok (.iload 5, 2) := by decide +kernel
theorem d_MO_orderOf_88 : decode b_MO_orderOf 88 = .ok (.iconst 3, 1) := by decide +kernel
theorem d_MO_orderOf_89 : decode b_MO_orderOf 89 = .ok (.if_icmp .ne 30, 3) := by decide +kernel
theorem d_MO_orderOf_92 : decode b_MO_orderOf 92 = .ok (.aload_n 0, 1) := by decide +kernel
theorem d_MO_orderOf_93 : decode b_MO_orderOf 93 = .ok (.iload_n 2, 1) := by decide +kernel
theorem d_MO_orderOf_94 : decode b_MO_orderOf 94 = .ok (.iconst 4, 1) := by decide +kernel
theorem d_MO_orderOf_95 : decode b_MO_orderOf 95 = .ok (.iadd, 1) := by decide +kernel
theorem d_MO_orderOf_96 : decode b_MO_orderOf 96 = .ok (.aload_n 0, 1) := by decide +kernel
theorem d_MO_orderOf_97 : decode b_MO_orderOf 97 = .ok (.iload_n 2, 1) := by decide +kernel
theorem d_MO_orderOf_98 : decode b_MO_orderOf 98 = .ok (.invokevirtual 73, 3) := by decide +kernel
theorem d_MO_orderOf_101 : decode b_MO_orderOf 101 = .ok (.iconst 1, 1) := by decide +kernel
theorem d_MO_orderOf_102 : decode b_MO_orderOf 102 = .ok (.isub, 1) := by decide +kernel
theorem d_MO_orderOf_103 : decode b_MO_orderOf 103 = .ok (.iload 4, 2) := by decide +kernel
theorem d_MO_orderOf_105 : decode b_MO_orderOf 105 = .ok (.iconst 4, 1) := by decide +kernel
theorem d_MO_orderOf_106 : decode b_MO_orderOf 106 = .ok (.iadd, 1) := by decide +kernel
theorem d_MO_orderOf_107 : decode b_MO_orderOf 107 = .ok (.aload_n 0, 1) := by decide +kernel
theorem d_MO_orderOf_108 : decode b_MO_orderOf 108 = .ok (.iload 4, 2) := by decide +kernel
theorem d_MO_orderOf_110 : decode b_MO_orderOf 110 = .ok (.invokevirtual 73, 3) := by decide +kernel
theorem d_MO_orderOf_113 : decode b_MO_orderOf 113 = .ok (.iconst 1, 1) := by decide +kernel
theorem d_MO_orderOf_114 : decode b_MO_orderOf 114 = .ok (.isub, 1) := by decide +kernel
theorem d_MO_orderOf_115 : decode b_MO_orderOf 115 = .ok (.invokevirtual 98, 3) := by decide +kernel
theorem d_MO_orderOf_118 : decode b_MO_orderOf 118 = .ok (.ireturn, 1) := by decide +kernel
theorem d_MO_orderOf_119 : decode b_MO_orderOf 119 = .ok (.iload 5, 2) := by decide +kernel
theorem d_MO_orderOf_121 : decode b_MO_orderOf 121 = .ok (.iconst 4, 1) := by decide +kernel
theorem d_MO_orderOf_122 : decode b_MO_orderOf 122 = .ok (.if_icmp .eq 9, 3) := by decide +kernel
theorem d_MO_orderOf_125 : decode b_MO_orderOf 125 = .ok (.iload 5, 2) := by decide +kernel
theorem d_MO_orderOf_127 : decode b_MO_orderOf 127 = .ok (.iconst 5, 1) := by decide +kernel
theorem d_MO_orderOf_128 : decode b_MO_orderOf 128 = .ok (.if_icmp .ne 24, 3) := by decide +kernel
theorem d_MO_orderOf_131 : decode b_MO_orderOf 131 = .ok (.aload_n 0, 1) := by decide +kernel
theorem d_MO_orderOf_132 : decode b_MO_orderOf 132 = .ok (.iload_n 2, 1) := by decide +kernel
theorem d_MO_orderOf_133 : decode b_MO_orderOf 133 = .ok (.iload 4, 2) := by decide +kernel
theorem d_MO_orderOf_135 : decode b_MO_orderOf 135 = .ok (.iload 5, 2) := by decide +kernel
theorem d_MO_orderOf_137 : decode b_MO_orderOf 137 = .ok (.iconst 4, 1) := by decide +kernel
theorem d_MO_orderOf_138 : decode b_MO_orderOf 138 = .ok (.if_icmp .ne 7, 3) := by decide +kernel
theorem d_MO_orderOf_141 : decode b_MO_orderOf 141 = .ok (.iconst 1, 1) := by decide +kernel
theorem d_MO_orderOf_142 : decode b_MO_orderOf 142 = .ok (.goto 4, 3) := by decide +kernel
theorem d_MO_orderOf_145 : decode b_MO_orderOf 145 = .ok (.iconst 0, 1) := by decide +kernel
theorem d_MO_orderOf_146 : decode b_MO_orderOf 146 = .ok (.invokevirtual 121, 3) := by decide +kernel
theorem d_MO_orderOf_149 : decode b_MO_orderOf 149 = .ok (.goto 4, 3) := by decide +kernel
theorem d_MO_orderOf_152 : decode b_MO_orderOf 152 = .ok (.iconst 0, 1) := by decide +kernel
theorem d_MO_orderOf_153 : decode b_MO_orderOf 153 = .ok (.ireturn, 1) := by decide +kernel
abbrev b_MO_orderBoxes : ByteArray := prog_13_method_22_code
def y_MO_orderBoxes : MethodName := ⟨R_MO, "orderBoxes", "(IIZ)I"⟩
theorem kc_MO_orderBoxes : Cond.code y_MO_orderBoxes b_MO_orderBoxes 7 (some .int) ∈ lw_g := lw_gm (List.mem_append_right _ (List.mem_of_getElem? (i := 1418) (by decide +kernel))) rfl
abbrev mw_MO_orderBoxes : List Cond := Cond.code y_MO_orderBoxes b_MO_orderBoxes 7 (some .int) :: lw_g
theorem hd_MO_orderBoxes : y_MO_orderBoxes.cls = R_MO ∧ y_MO_orderBoxes.cls ≠ "java/lang/invoke/MethodHandle" ∧ y_MO_orderBoxes.cls ≠ "java/lang/invoke/VarHandle" ∧ (parseMethodDescriptor y_MO_orderBoxes.desc).map (fun d => d.parameters.length) = some 3 := by decide +kernel
theorem kp_MO_orderBoxes : Cond.selects R_MO y_MO_orderBoxes y_MO_orderBoxes ∈ lw_g := lw_gm (List.mem_append_left _ (by decide +kernel)) rfl
theorem d_MO_orderBoxes_0 : decode b_MO_orderBoxes 0 = .ok (.aload_n 0, 1) := by decide +kernel
theorem d_MO_orderBoxes_1 : decode b_MO_orderBoxes 1 = .ok (.iload_n 1, 1) := by decide +kernel
theorem d_MO_orderBoxes_2 : decode b_MO_orderBoxes 2 = .ok (.invokevirtual 108, 3) := by decide +kernel
theorem d_MO_orderBoxes_5 : decode b_MO_orderBoxes 5 = .ok (.istore 4, 2) := by decide +kernel
theorem d_MO_orderBoxes_7 : decode b_MO_orderBoxes 7 = .ok (.aload_n 0, 1) := by decide +kernel
theorem d_MO_orderBoxes_8 : decode b_MO_orderBoxes 8 = .ok (.iload_n 2, 1) := by decide +kernel
theorem d_MO_orderBoxes_9 : decode b_MO_orderBoxes 9 = .ok (.invokevirtual 108, 3) := by decide +kernel
theorem d_MO_orderBoxes_12 : decode b_MO_orderBoxes 12 = .ok (.istore 5, 2) := by decide +kernel
theorem d_MO_orderBoxes_14 : decode b_MO_orderBoxes 14 = .ok (.iload 4, 2) := by decide +kernel
theorem d_MO_orderBoxes_16 : decode b_MO_orderBoxes 16 = .ok (.ifCond .le 156, 3) := by decide +kernel
theorem d_MO_orderBoxes_19 : decode b_MO_orderBoxes 19 = .ok (.iload 5, 2) := by decide +kernel
theorem d_MO_orderBoxes_21 : decode b_MO_orderBoxes 21 = .ok (.ifCond .le 151, 3) := by decide +kernel
theorem d_MO_orderBoxes_24 : decode b_MO_orderBoxes 24 = .ok (.iload_n 3, 1) := by decide +kernel
theorem d_MO_orderBoxes_25 : decode b_MO_orderBoxes 25 = .ok (.ifCond .eq 27, 3) := by decide +kernel
theorem d_MO_orderBoxes_28 : decode b_MO_orderBoxes 28 = .ok (.aload_n 0, 1) := by decide +kernel
theorem d_MO_orderBoxes_29 : decode b_MO_orderBoxes 29 = .ok (.getfield 8, 3) := by decide +kernel
theorem d_MO_orderBoxes_32 : decode b_MO_orderBoxes 32 = .ok (.iload 4, 2) := by decide +kernel
theorem d_MO_orderBoxes_34 : decode b_MO_orderBoxes 34 = .ok (.iaload, 1) := by decide +kernel
theorem d_MO_orderBoxes_35 : decode b_MO_orderBoxes 35 = .ok (.invokestatic 114, 3) := by decide +kernel
theorem d_MO_orderBoxes_38 : decode b_MO_orderBoxes 38 = .ok (.aload_n 0, 1) := by decide +kernel
theorem d_MO_orderBoxes_39 : decode b_MO_orderBoxes 39 = .ok (.getfield 8, 3) := by decide +kernel
theorem d_MO_orderBoxes_42 : decode b_MO_orderBoxes 42 = .ok (.iload 5, 2) := by decide +kernel
theorem d_MO_orderBoxes_44 : decode b_MO_orderBoxes 44 = .ok (.iaload, 1) := by decide +kernel
theorem d_MO_orderBoxes_45 : decode b_MO_orderBoxes 45 = .ok (.invokestatic 114, 3) := by decide +kernel
theorem d_MO_orderBoxes_48 : decode b_MO_orderBoxes 48 = .ok (.isub, 1) := by decide +kernel
theorem d_MO_orderBoxes_49 : decode b_MO_orderBoxes 49 = .ok (.goto 4, 3) := by decide +kernel
theorem d_MO_orderBoxes_52 : decode b_MO_orderBoxes 52 = .ok (.iconst 0, 1) := by decide +kernel
theorem d_MO_orderBoxes_53 : decode b_MO_orderBoxes 53 = .ok (.istore 6, 2) := by decide +kernel
theorem d_MO_orderBoxes_55 : decode b_MO_orderBoxes 55 = .ok (.iload 6, 2) := by decide +kernel
theorem d_MO_orderBoxes_57 : decode b_MO_orderBoxes 57 = .ok (.ifCond .ne 43, 3) := by decide +kernel
theorem d_MO_orderBoxes_60 : decode b_MO_orderBoxes 60 = .ok (.iload_n 3, 1) := by decide +kernel
theorem d_MO_orderBoxes_61 : decode b_MO_orderBoxes 61 = .ok (.ifCond .eq 39, 3) := by decide +kernel
theorem d_MO_orderBoxes_64 : decode b_MO_orderBoxes 64 = .ok (.aload_n 0, 1) := by decide +kernel
theorem d_MO_orderBoxes_65 : decode b_MO_orderBoxes 65 = .ok (.iload 4, 2) := by decide +kernel
theorem d_MO_orderBoxes_67 : decode b_MO_orderBoxes 67 = .ok (.iconst 1, 1) := by decide +kernel
theorem d_MO_orderBoxes_68 : decode b_MO_orderBoxes 68 = .ok (.iadd, 1) := by decide +kernel
theorem d_MO_orderBoxes_69 : decode b_MO_orderBoxes 69 = .ok (.aload_n 0, 1) := by decide +kernel
theorem d_MO_orderBoxes_70 : decode b_MO_orderBoxes 70 = .ok (.iload 4, 2) := by decide +kernel
theorem d_MO_orderBoxes_72 : decode b_MO_orderBoxes 72 = .ok (.invokevirtual 95, 3) := by decide +kernel
theorem d_MO_orderBoxes_75 : decode b_MO_orderBoxes 75 = .ok (.iload 4, 2) := by decide +kernel
theorem d_MO_orderBoxes_77 : decode b_MO_orderBoxes 77 = .ok (.isub, 1) := by decide +kernel
theorem d_MO_orderBoxes_78 : decode b_MO_orderBoxes 78 = .ok (.iconst 1, 1) := by decide +kernel
theorem d_MO_orderBoxes_79 : decode b_MO_orderBoxes 79 = .ok (.isub, 1) := by decide +kernel
theorem d_MO_orderBoxes_80 : decode b_MO_orderBoxes 80 = .ok (.iload 5, 2) := by decide +kernel
theorem d_MO_orderBoxes_82 : decode b_MO_orderBoxes 82 = .ok (.iconst 1, 1) := by decide +kernel
theorem d_MO_orderBoxes_83 : decode b_MO_orderBoxes 83 = .ok (.iadd, 1) := by decide +kernel
theorem d_MO_orderBoxes_84 : decode b_MO_orderBoxes 84 = .ok (.aload_n 0, 1) := by decide +kernel
theorem d_MO_orderBoxes_85 : decode b_MO_orderBoxes 85 = .ok (.iload 5, 2) := by decide +kernel
theorem d_MO_orderBoxes_87 : decode b_MO_orderBoxes 87 = .ok (.invokevirtual 95, 3) := by decide +kernel
theorem d_MO_orderBoxes_90 : decode b_MO_orderBoxes 90 = .ok (.iload 5, 2) := by decide +kernel
theorem d_MO_orderBoxes_92 : decode b_MO_orderBoxes 92 = .ok (.isub, 1) := by decide +kernel
theorem d_MO_orderBoxes_93 : decode b_MO_orderBoxes 93 = .ok (.iconst 1, 1) := by decide +kernel
theorem d_MO_orderBoxes_94 : decode b_MO_orderBoxes 94 = .ok (.isub, 1) := by decide +kernel
theorem d_MO_orderBoxes_95 : decode b_MO_orderBoxes 95 = .ok (.invokevirtual 98, 3) := by decide +kernel
theorem d_MO_orderBoxes_98 : decode b_MO_orderBoxes 98 = .ok (.istore 6, 2) := by decide +kernel
theorem d_MO_orderBoxes_100 : decode b_MO_orderBoxes 100 = .ok (.iload 6, 2) := by decide +kernel
theorem d_MO_orderBoxes_102 : decode b_MO_orderBoxes 102 = .ok (.ifCond .ne 35, 3) := by decide +kernel
theorem d_MO_orderBoxes_105 : decode b_MO_orderBoxes 105 = .ok (.aload_n 0, 1) := by decide +kernel
theorem d_MO_orderBoxes_106 : decode b_MO_orderBoxes 106 = .ok (.aload_n 0, 1) := by decide +kernel
theorem d_MO_orderBoxes_107 : decode b_MO_orderBoxes 107 = .ok (.getfield 8, 3) := by decide +kernel
theorem d_MO_orderBoxes_110 : decode b_MO_orderBoxes 110 = .ok (.iload 4, 2) := by decide +kernel
theorem d_MO_orderBoxes_112 : decode b_MO_orderBoxes 112 = .ok (.iaload, 1) := by decide +kernel
theorem d_MO_orderBoxes_113 : decode b_MO_orderBoxes 113 = .ok (.aload_n 0, 1) := by decide +kernel
theorem d_MO_orderBoxes_114 : decode b_MO_orderBoxes 114 = .ok (.iload 4, 2) := by decide +kernel
theorem d_MO_orderBoxes_116 : decode b_MO_orderBoxes 116 = .ok (.invokevirtual 81, 3) := by decide +kernel
theorem d_MO_orderBoxes_119 : decode b_MO_orderBoxes 119 = .ok (.aload_n 0, 1) := by decide +kernel
theorem d_MO_orderBoxes_120 : decode b_MO_orderBoxes 120 = .ok (.getfield 8, 3) := by decide +kernel
theorem d_MO_orderBoxes_123 : decode b_MO_orderBoxes 123 = .ok (.iload 5, 2) := by decide +kernel
theorem d_MO_orderBoxes_125 : decode b_MO_orderBoxes 125 = .ok (.iaload, 1) := by decide +kernel
theorem d_MO_orderBoxes_126 : decode b_MO_orderBoxes 126 = .ok (.aload_n 0, 1) := by decide +kernel
theorem d_MO_orderBoxes_127 : decode b_MO_orderBoxes 127 = .ok (.iload 5, 2) := by decide +kernel
theorem d_MO_orderBoxes_129 : decode b_MO_orderBoxes 129 = .ok (.invokevirtual 81, 3) := by decide +kernel
theorem d_MO_orderBoxes_132 : decode b_MO_orderBoxes 132 = .ok (.invokevirtual 125, 3) := by decide +kernel
theorem d_MO_orderBoxes_135 : decode b_MO_orderBoxes 135 = .ok (.istore 6, 2) := by decide +kernel
theorem d_MO_orderBoxes_137 : decode b_MO_orderBoxes 137 = .ok (.iload 6, 2) := by decide +kernel
theorem d_MO_orderBoxes_139 : decode b_MO_orderBoxes 139 = .ok (.ifCond .eq 14, 3) := by decide +kernel
theorem d_MO_orderBoxes_142 : decode b_MO_orderBoxes 142 = .ok (.iload 6, 2) := by decide +kernel
theorem d_MO_orderBoxes_144 : decode b_MO_orderBoxes 144 = .ok (.ifCond .ge 7, 3) := by decide +kernel
theorem d_MO_orderBoxes_147 : decode b_MO_orderBoxes 147 = .ok (.iconst (-1), 1) := by decide +kernel
theorem d_MO_orderBoxes_148 : decode b_MO_orderBoxes 148 = .ok (.goto 4, 3) := by decide +kernel
theorem d_MO_orderBoxes_151 : decode b_MO_orderBoxes 151 = .ok (.iconst 1, 1) := by decide +kernel
theorem d_MO_orderBoxes_152 : decode b_MO_orderBoxes 152 = .ok (.ireturn, 1) := by decide +kernel
theorem d_MO_orderBoxes_153 : decode b_MO_orderBoxes 153 = .ok (.aload_n 0, 1) := by decide +kernel
theorem d_MO_orderBoxes_154 : decode b_MO_orderBoxes 154 = .ok (.iload 4, 2) := by decide +kernel
theorem d_MO_orderBoxes_156 : decode b_MO_orderBoxes 156 = .ok (.invokevirtual 111, 3) := by decide +kernel
theorem d_MO_orderBoxes_159 : decode b_MO_orderBoxes 159 = .ok (.istore 4, 2) := by decide +kernel
theorem d_MO_orderBoxes_161 : decode b_MO_orderBoxes 161 = .ok (.aload_n 0, 1) := by decide +kernel
theorem d_MO_orderBoxes_162 : decode b_MO_orderBoxes 162 = .ok (.iload 5, 2) := by decide +kernel
theorem d_MO_orderBoxes_164 : decode b_MO_orderBoxes 164 = .ok (.invokevirtual 111, 3) := by decide +kernel
theorem d_MO_orderBoxes_167 : decode b_MO_orderBoxes 167 = .ok (.istore 5, 2) := by decide +kernel
theorem d_MO_orderBoxes_169 : decode b_MO_orderBoxes 169 = .ok (.goto (-155), 3) := by decide +kernel
theorem d_MO_orderBoxes_172 : decode b_MO_orderBoxes 172 = .ok (.iload 4, 2) := by decide +kernel
theorem d_MO_orderBoxes_174 : decode b_MO_orderBoxes 174 = .ok (.ifCond .le 7, 3) := by decide +kernel
theorem d_MO_orderBoxes_177 : decode b_MO_orderBoxes 177 = .ok (.iconst 1, 1) := by decide +kernel
theorem d_MO_orderBoxes_178 : decode b_MO_orderBoxes 178 = .ok (.goto 13, 3) := by decide +kernel
theorem d_MO_orderBoxes_181 : decode b_MO_orderBoxes 181 = .ok (.iload 5, 2) := by decide +kernel
theorem d_MO_orderBoxes_183 : decode b_MO_orderBoxes 183 = .ok (.ifCond .le 7, 3) := by decide +kernel
theorem d_MO_orderBoxes_186 : decode b_MO_orderBoxes 186 = .ok (.iconst (-1), 1) := by decide +kernel
theorem d_MO_orderBoxes_187 : decode b_MO_orderBoxes 187 = .ok (.goto 4, 3) := by decide +kernel
theorem d_MO_orderBoxes_190 : decode b_MO_orderBoxes 190 = .ok (.iconst 0, 1) := by decide +kernel
theorem d_MO_orderBoxes_191 : decode b_MO_orderBoxes 191 = .ok (.ireturn, 1) := by decide +kernel
abbrev b_MO_deepOf : ByteArray := prog_13_method_23_code
def y_MO_deepOf : MethodName := ⟨R_MO, "deepOf", "(II)I"⟩
theorem kc_MO_deepOf : Cond.code y_MO_deepOf b_MO_deepOf 6 (some .int) ∈ lw_g := lw_gm (List.mem_append_right _ (List.mem_of_getElem? (i := 1386) (by decide +kernel))) rfl
abbrev mw_MO_deepOf : List Cond := Cond.code y_MO_deepOf b_MO_deepOf 6 (some .int) :: lw_g
theorem hd_MO_deepOf : y_MO_deepOf.cls = R_MO ∧ y_MO_deepOf.cls ≠ "java/lang/invoke/MethodHandle" ∧ y_MO_deepOf.cls ≠ "java/lang/invoke/VarHandle" ∧ (parseMethodDescriptor y_MO_deepOf.desc).map (fun d => d.parameters.length) = some 2 := by decide +kernel
theorem kp_MO_deepOf : Cond.selects R_MO y_MO_deepOf y_MO_deepOf ∈ lw_g := lw_gm (List.mem_append_left _ (by decide +kernel)) rfl
theorem d_MO_deepOf_0 : decode b_MO_deepOf 0 = .ok (.iload_n 1, 1) := by decide +kernel
theorem d_MO_deepOf_1 : decode b_MO_deepOf 1 = .ok (.iconst 3, 1) := by decide +kernel
theorem d_MO_deepOf_2 : decode b_MO_deepOf 2 = .ok (.if_icmp .eq 10, 3) := by decide +kernel
theorem d_MO_deepOf_5 : decode b_MO_deepOf 5 = .ok (.iload_n 1, 1) := by decide +kernel
theorem d_MO_deepOf_6 : decode b_MO_deepOf 6 = .ok (.iconst 4, 1) := by decide +kernel
theorem d_MO_deepOf_7 : decode b_MO_deepOf 7 = .ok (.if_icmp .eq 5, 3) := by decide +kernel
theorem d_MO_deepOf_10 : decode b_MO_deepOf 10 = .ok (.iconst 0, 1) := by decide +kernel
theorem d_MO_deepOf_11 : decode b_MO_deepOf 11 = .ok (.ireturn, 1) := by decide +kernel
theorem d_MO_deepOf_12 : decode b_MO_deepOf 12 = .ok (.iconst 0, 1) := by decide +kernel
theorem d_MO_deepOf_13 : decode b_MO_deepOf 13 = .ok (.istore_n 3, 1) := by decide +kernel
theorem d_MO_deepOf_14 : decode b_MO_deepOf 14 = .ok (.aload_n 0, 1) := by decide +kernel
theorem d_MO_deepOf_15 : decode b_MO_deepOf 15 = .ok (.iload_n 2, 1) := by decide +kernel
theorem d_MO_deepOf_16 : decode b_MO_deepOf 16 = .ok (.invokevirtual 108, 3) := by decide +kernel
theorem d_MO_deepOf_19 : decode b_MO_deepOf 19 = .ok (.istore 4, 2) := by decide +kernel
theorem d_MO_deepOf_21 : decode b_MO_deepOf 21 = .ok (.iload 4, 2) := by decide +kernel
theorem d_MO_deepOf_23 : decode b_MO_deepOf 23 = .ok (.ifCond .le 46, 3) := by decide +kernel
theorem d_MO_deepOf_26 : decode b_MO_deepOf 26 = .ok (.aload_n 0, 1) := by decide +kernel
theorem d_MO_deepOf_27 : decode b_MO_deepOf 27 = .ok (.aload_n 0, 1) := by decide +kernel
theorem d_MO_deepOf_28 : decode b_MO_deepOf 28 = .ok (.getfield 8, 3) := by decide +kernel
theorem d_MO_deepOf_31 : decode b_MO_deepOf 31 = .ok (.iload 4, 2) := by decide +kernel
theorem d_MO_deepOf_33 : decode b_MO_deepOf 33 = .ok (.iaload, 1) := by decide +kernel
theorem d_MO_deepOf_34 : decode b_MO_deepOf 34 = .ok (.aload_n 0, 1) := by decide +kernel
theorem d_MO_deepOf_35 : decode b_MO_deepOf 35 = .ok (.iload 4, 2) := by decide +kernel
theorem d_MO_deepOf_37 : decode b_MO_deepOf 37 = .ok (.invokevirtual 81, 3) := by decide +kernel
theorem d_MO_deepOf_40 : decode b_MO_deepOf 40 = .ok (.invokevirtual 128, 3) := by decide +kernel
theorem d_MO_deepOf_43 : decode b_MO_deepOf 43 = .ok (.istore 5, 2) := by decide +kernel
theorem d_MO_deepOf_45 : decode b_MO_deepOf 45 = .ok (.iload 5, 2) := by decide +kernel
theorem d_MO_deepOf_47 : decode b_MO_deepOf 47 = .ok (.iload_n 3, 1) := by decide +kernel
theorem d_MO_deepOf_48 : decode b_MO_deepOf 48 = .ok (.if_icmp .le 8, 3) := by decide +kernel
theorem d_MO_deepOf_51 : decode b_MO_deepOf 51 = .ok (.iload 5, 2) := by decide +kernel
theorem d_MO_deepOf_53 : decode b_MO_deepOf 53 = .ok (.goto 4, 3) := by decide +kernel
theorem d_MO_deepOf_56 : decode b_MO_deepOf 56 = .ok (.iload_n 3, 1) := by decide +kernel
theorem d_MO_deepOf_57 : decode b_MO_deepOf 57 = .ok (.istore_n 3, 1) := by decide +kernel
theorem d_MO_deepOf_58 : decode b_MO_deepOf 58 = .ok (.aload_n 0, 1) := by decide +kernel
theorem d_MO_deepOf_59 : decode b_MO_deepOf 59 = .ok (.iload 4, 2) := by decide +kernel
theorem d_MO_deepOf_61 : decode b_MO_deepOf 61 = .ok (.invokevirtual 111, 3) := by decide +kernel
theorem d_MO_deepOf_64 : decode b_MO_deepOf 64 = .ok (.istore 4, 2) := by decide +kernel
theorem d_MO_deepOf_66 : decode b_MO_deepOf 66 = .ok (.goto (-45), 3) := by decide +kernel
theorem d_MO_deepOf_69 : decode b_MO_deepOf 69 = .ok (.iload_n 3, 1) := by decide +kernel
theorem d_MO_deepOf_70 : decode b_MO_deepOf 70 = .ok (.iconst 1, 1) := by decide +kernel
theorem d_MO_deepOf_71 : decode b_MO_deepOf 71 = .ok (.iadd, 1) := by decide +kernel
theorem d_MO_deepOf_72 : decode b_MO_deepOf 72 = .ok (.ireturn, 1) := by decide +kernel
abbrev b_MO_isBehind : ByteArray := prog_13_method_75_code
def y_MO_isBehind : MethodName := ⟨R_MO, "isBehind", "(IIZ)Z"⟩
theorem kc_MO_isBehind : Cond.code y_MO_isBehind b_MO_isBehind 5 (some .boolean) ∈ lw_g := lw_gm (List.mem_append_right _ (List.mem_of_getElem? (i := 1463) (by decide +kernel))) rfl
abbrev mw_MO_isBehind : List Cond := Cond.code y_MO_isBehind b_MO_isBehind 5 (some .boolean) :: lw_g
theorem hd_MO_isBehind : y_MO_isBehind.cls = R_MO ∧ y_MO_isBehind.cls ≠ "java/lang/invoke/MethodHandle" ∧ y_MO_isBehind.cls ≠ "java/lang/invoke/VarHandle" ∧ (parseMethodDescriptor y_MO_isBehind.desc).map (fun d => d.parameters.length) = some 3 := by decide +kernel
theorem kp_MO_isBehind : Cond.selects R_MO y_MO_isBehind y_MO_isBehind ∈ lw_g := lw_gm (List.mem_append_left _ (by decide +kernel)) rfl
theorem d_MO_isBehind_0 : decode b_MO_isBehind 0 = .ok (.aload_n 0, 1) := by decide +kernel
theorem d_MO_isBehind_1 : decode b_MO_isBehind 1 = .ok (.aload_n 0, 1) := by decide +kernel
theorem d_MO_isBehind_2 : decode b_MO_isBehind 2 = .ok (.getfield 39, 3) := by decide +kernel
theorem d_MO_isBehind_5 : decode b_MO_isBehind 5 = .ok (.iload_n 1, 1) := by decide +kernel
theorem d_MO_isBehind_6 : decode b_MO_isBehind 6 = .ok (.iaload, 1) := by decide +kernel
theorem d_MO_isBehind_7 : decode b_MO_isBehind 7 = .ok (.aload_n 0, 1) := by decide +kernel
theorem d_MO_isBehind_8 : decode b_MO_isBehind 8 = .ok (.getfield 42, 3) := by decide +kernel
theorem d_MO_isBehind_11 : decode b_MO_isBehind 11 = .ok (.iload_n 1, 1) := by decide +kernel
theorem d_MO_isBehind_12 : decode b_MO_isBehind 12 = .ok (.iaload, 1) := by decide +kernel
theorem d_MO_isBehind_13 : decode b_MO_isBehind 13 = .ok (.aload_n 0, 1) := by decide +kernel
theorem d_MO_isBehind_14 : decode b_MO_isBehind 14 = .ok (.getfield 39, 3) := by decide +kernel
theorem d_MO_isBehind_17 : decode b_MO_isBehind 17 = .ok (.iload_n 2, 1) := by decide +kernel
theorem d_MO_isBehind_18 : decode b_MO_isBehind 18 = .ok (.iaload, 1) := by decide +kernel
theorem d_MO_isBehind_19 : decode b_MO_isBehind 19 = .ok (.aload_n 0, 1) := by decide +kernel
theorem d_MO_isBehind_20 : decode b_MO_isBehind 20 = .ok (.getfield 42, 3) := by decide +kernel
theorem d_MO_isBehind_23 : decode b_MO_isBehind 23 = .ok (.iload_n 2, 1) := by decide +kernel
theorem d_MO_isBehind_24 : decode b_MO_isBehind 24 = .ok (.iaload, 1) := by decide +kernel
theorem d_MO_isBehind_25 : decode b_MO_isBehind 25 = .ok (.invokevirtual 125, 3) := by decide +kernel
theorem d_MO_isBehind_28 : decode b_MO_isBehind 28 = .ok (.istore 4, 2) := by decide +kernel
theorem d_MO_isBehind_30 : decode b_MO_isBehind 30 = .ok (.iload_n 3, 1) := by decide +kernel
theorem d_MO_isBehind_31 : decode b_MO_isBehind 31 = .ok (.ifCond .eq 16, 3) := by decide +kernel
theorem d_MO_isBehind_34 : decode b_MO_isBehind 34 = .ok (.iload 4, 2) := by decide +kernel
theorem d_MO_isBehind_36 : decode b_MO_isBehind 36 = .ok (.ifCond .le 7, 3) := by decide +kernel
theorem d_MO_isBehind_39 : decode b_MO_isBehind 39 = .ok (.iconst 1, 1) := by decide +kernel
theorem d_MO_isBehind_40 : decode b_MO_isBehind 40 = .ok (.goto 17, 3) := by decide +kernel
theorem d_MO_isBehind_43 : decode b_MO_isBehind 43 = .ok (.iconst 0, 1) := by decide +kernel
theorem d_MO_isBehind_44 : decode b_MO_isBehind 44 = .ok (.goto 13, 3) := by decide +kernel
theorem d_MO_isBehind_47 : decode b_MO_isBehind 47 = .ok (.iload 4, 2) := by decide +kernel
theorem d_MO_isBehind_49 : decode b_MO_isBehind 49 = .ok (.ifCond .ge 7, 3) := by decide +kernel
theorem d_MO_isBehind_52 : decode b_MO_isBehind 52 = .ok (.iconst 1, 1) := by decide +kernel
theorem d_MO_isBehind_53 : decode b_MO_isBehind 53 = .ok (.goto 4, 3) := by decide +kernel
theorem d_MO_isBehind_56 : decode b_MO_isBehind 56 = .ok (.iconst 0, 1) := by decide +kernel
theorem d_MO_isBehind_57 : decode b_MO_isBehind 57 = .ok (.ireturn, 1) := by decide +kernel
set_option maxHeartbeats 4000000 in
set_option maxRecDepth 100000 in
theorem l_MO_orderBoxes_r24 {p : Program} {e : Env} {s : State} {m : MethodId} {args : Array Value} {below : List Frame} {meth : Method} {c : Code} {V : Option (Int32)} {V0 : Int32} (C0 : lc_C p s m meth c args b_MO_orderBoxes 7 (some .int) R_MO lw_g) (hs : V = some V0) (l : Launch) (D : va_G) (cB cI : ClassId) (aM aMst aMdcs aMtot aMfrm aMsiz aMffr aMfsz aMlkd aMlat aMkkd aMkat aModr aMgrp aMikd aMiat : Nat) (rF : Nat) (rL : Nat) (fu : Nat) (fo : Int32 → Int32 → Int32 → Int32 → Option (Int32)) (thr : Int32) (tpd : Int32) (frs : Int32) (frt : Int32) (top : Int32) (bgn : Int32) (mst : Int32) (ovr : Bool) (tgr : Bool) (lvs : Int32) (its : Int32) (hgh : Int64) (loo : Int64) (dfl : Bool) (st : Nat → Int32) (hP : va_P D vwCl [(aM, .inr (11, [.int thr, .ref aMst, .int tpd, .ref aMdcs, .ref aMtot, .ref aMfrm, .ref aMsiz, .int frs, .int frt, .ref aMffr, .ref aMfsz, .int top, .int bgn, .int mst, .int (b2i ovr), .int (b2i tgr), .int lvs, .ref aMlkd, .ref aMlat, .ref aMkkd, .ref aMkat, .ref aModr, .ref aMgrp, .int its, .ref aMikd, .ref aMiat, .long hgh, .long loo, .int (b2i dfl)])), (aMst, .inl (cI, 136400, .inl st))] s.heap) (hk : hk_ D cB cI s) (x3 : Int32) (x4 : Int32) (x5 : Int32) (hfo : ∀ (z0 z1 z2 z3 : Int32) (V1 : Int32), fo z0 z1 z2 z3 = some V1 → Met l y_MO_orderOf mw_MO_orderOf { frames := rF, cells := 0, slots := 0, locals := rL } (va_Pc [.ref aM, .int z0, .int z1, .int z2, .int z3] (fun U => va_P D vwCl [(aM, .inr (11, [.int thr, .ref aMst, .int tpd, .ref aMdcs, .ref aMtot, .ref aMfrm, .ref aMsiz, .int frs, .int frt, .ref aMffr, .ref aMfsz, .int top, .int bgn, .int mst, .int (b2i ovr), .int (b2i tgr), .int lvs, .ref aMlkd, .ref aMlat, .ref aMkkd, .ref aMkat, .ref aModr, .ref aMgrp, .int its, .ref aMikd, .ref aMiat, .long hgh, .long loo, .int (b2i dfl)])), (aMst, .inl (cI, 136400, .inl st))] U.heap ∧ hk_ D cB cI U)) (vp_Si (fun r => r = V1)) 0 0 (fun _ => False)) {K : Int32 → Option (Int32)} (hKx : ∀ (y6 : Int32), V = K y6 → ∀ ls : Array Slot, lv_has ls 7 [(0, .ref aM), (3, .int x3), (4, .int x4), (5, .int x5), (6, .int y6)] → W p l e ({ frames := rF + 8, cells := 0, slots := 0, locals := rL + 240 }) s m args below meth c s.heap [] 0 0 (MQ below (vp_Si (fun r => r = V0)) args s 0 0 (fun _ => False)) (F0 m 55 ls [])) (hV : V = tw_MO_orderBoxes_r24 fu fo K st x3 x4 x5) : ∀ ls : Array Slot, lv_has ls 7 [(0, .ref aM), (3, .int x3), (4, .int x4), (5, .int x5)] → W p l e ({ frames := rF + 8, cells := 0, slots := 0, locals := rL + 240 }) s m args below meth c s.heap [] 0 0 (MQ below (vp_Si (fun r => r = V0)) args s 0 0 (fun _ => False)) (F0 m 24 ls []) := by
  obtain ⟨hx, hb, hml, hr, hown, hlocks, hT⟩ := id C0
  have hK := hk.1
  have hN := hk.2.1
  intro ls hl
  refine lv_iload_n hx hb d_MO_orderBoxes_24 rfl (lv_at hl 1 rfl) ?_
  refine lv_if_eq (tgt := 52) hx hb d_MO_orderBoxes_25 (by decide) (fun c_5 => ?_) (fun c_5 => ?_)
  · refine lv_iconst (v := 0) hx hb d_MO_orderBoxes_52 (by decide) ?_
    refine lv_istore (lv' := [(6, .int 0), (0, .ref aM), (3, .int x3), (4, .int x4), (5, .int x5)]) hx hb d_MO_orderBoxes_53 hl (by decide) rfl (fun ls hl => ?_)
    exact hKx 0 (by rw [hV, tw_MO_orderBoxes_r24, if_pos c_5]) ls (lv_sub hl [1, 2, 3, 4, 0] rfl)
  · refine lv_aload_n hx hb d_MO_orderBoxes_28 rfl (lv_at hl 0 rfl) ?_
    refine va_get (D := D) (ci := 11) (v := .ref aMst) (C := R_MO) (T := T_MO) (N := 29) hx hb hT u_MO hown hK hP 0 rfl rfl 1 (by decide) (hT _ k_1044) (fun _ h9 => h9) rfl d_MO_orderBoxes_29 ?_
    refine lv_iload hx hb d_MO_orderBoxes_32 (lv_at hl 2 rfl) ?_
    by_cases c_6 : 0 ≤ x4 ∧ x4 < 136400
    rotate_left
    · exact op_no hs (by rw [hV, tw_MO_orderBoxes_r24, if_neg c_5, if_neg c_6])
    refine va_iald hx hb hK hP 1 1 rfl rfl (in_pp c_6.1 c_6.2 rfl) d_MO_orderBoxes_34 ?_
    refine rd_S (val := tw_MO_classOf (st x4.toNatClampNeg)) (As := [.int (st x4.toNatClampNeg)]) (rest := []) ⟨hx, hb, hml, hown, hT⟩ (c_MO_classOf l D cB cI (st x4.toNatClampNeg)) (va_cwS 1 hT (gS_of k_1412 k_1413 k_12 kc_MO_classOf) rfl rfl rfl hd_MO_classOf ⟨rl_s (Nat.le_of_ble_eq_true rfl), rl_s (Nat.le_of_ble_eq_true rfl)⟩) hk (va_P_nil) rfl hl.1 rfl (Nat.le_of_ble_eq_true rfl) d_MO_orderBoxes_35 ⟨Nat.zero_le _, Nat.zero_le _⟩ ?_
    refine lv_aload_n hx hb d_MO_orderBoxes_38 rfl (lv_at hl 0 rfl) ?_
    refine va_get (D := D) (ci := 11) (v := .ref aMst) (C := R_MO) (T := T_MO) (N := 29) hx hb hT u_MO hown hK hP 0 rfl rfl 1 (by decide) (hT _ k_1044) (fun _ h9 => h9) rfl d_MO_orderBoxes_39 ?_
    refine lv_iload hx hb d_MO_orderBoxes_42 (lv_at hl 3 rfl) ?_
    by_cases c_7 : 0 ≤ x5 ∧ x5 < 136400
    rotate_left
    · exact op_no hs (by rw [hV, tw_MO_orderBoxes_r24, if_neg c_5, if_pos c_6, if_neg c_7])
    refine va_iald hx hb hK hP 1 1 rfl rfl (in_pp c_7.1 c_7.2 rfl) d_MO_orderBoxes_44 ?_
    refine rd_S (val := tw_MO_classOf (st x5.toNatClampNeg)) (As := [.int (st x5.toNatClampNeg)]) (rest := [.int (tw_MO_classOf (st x4.toNatClampNeg))]) ⟨hx, hb, hml, hown, hT⟩ (c_MO_classOf l D cB cI (st x5.toNatClampNeg)) (va_cwS 1 hT (gS_of k_1412 k_1413 k_12 kc_MO_classOf) rfl rfl rfl hd_MO_classOf ⟨rl_s (Nat.le_of_ble_eq_true rfl), rl_s (Nat.le_of_ble_eq_true rfl)⟩) hk (va_P_nil) rfl hl.1 rfl (Nat.le_of_ble_eq_true rfl) d_MO_orderBoxes_45 ⟨Nat.zero_le _, Nat.zero_le _⟩ ?_
    refine lv_isub hx hb d_MO_orderBoxes_48 ?_
    refine lv_goto (tgt := 53) hx hb d_MO_orderBoxes_49 (by decide) ?_
    refine lv_istore (lv' := [(6, .int ((tw_MO_classOf (st x4.toNatClampNeg)) - (tw_MO_classOf (st x5.toNatClampNeg)))), (0, .ref aM), (3, .int x3), (4, .int x4), (5, .int x5)]) hx hb d_MO_orderBoxes_53 hl (by decide) rfl (fun ls hl => ?_)
    exact hKx ((tw_MO_classOf (st x4.toNatClampNeg)) - (tw_MO_classOf (st x5.toNatClampNeg))) (by rw [hV, tw_MO_orderBoxes_r24, if_neg c_5, if_pos c_6, if_pos c_7]) ls (lv_sub hl [1, 2, 3, 4, 0] rfl)
set_option maxHeartbeats 4000000 in
set_option maxRecDepth 100000 in
theorem l_MO_orderBoxes_r100 {p : Program} {e : Env} {s : State} {m : MethodId} {args : Array Value} {below : List Frame} {meth : Method} {c : Code} {V : Option (Int32)} {V0 : Int32} (C0 : lc_C p s m meth c args b_MO_orderBoxes 7 (some .int) R_MO lw_g) (hs : V = some V0) (l : Launch) (D : va_G) (cB cI : ClassId) (aM aMst aMdcs aMtot aMfrm aMsiz aMffr aMfsz aMlkd aMlat aMkkd aMkat aModr aMgrp aMikd aMiat : Nat) (rF : Nat) (rL : Nat) (fu : Nat) (fo : Int32 → Int32 → Int32 → Int32 → Option (Int32)) (thr : Int32) (tpd : Int32) (frs : Int32) (frt : Int32) (top : Int32) (bgn : Int32) (mst : Int32) (ovr : Bool) (tgr : Bool) (lvs : Int32) (its : Int32) (hgh : Int64) (loo : Int64) (dfl : Bool) (st : Nat → Int32) (hP : va_P D vwCl [(aM, .inr (11, [.int thr, .ref aMst, .int tpd, .ref aMdcs, .ref aMtot, .ref aMfrm, .ref aMsiz, .int frs, .int frt, .ref aMffr, .ref aMfsz, .int top, .int bgn, .int mst, .int (b2i ovr), .int (b2i tgr), .int lvs, .ref aMlkd, .ref aMlat, .ref aMkkd, .ref aMkat, .ref aModr, .ref aMgrp, .int its, .ref aMikd, .ref aMiat, .long hgh, .long loo, .int (b2i dfl)])), (aMst, .inl (cI, 136400, .inl st))] s.heap) (hk : hk_ D cB cI s) (x3 : Int32) (x4 : Int32) (x5 : Int32) (x6 : Int32) (hfo : ∀ (z0 z1 z2 z3 : Int32) (V1 : Int32), fo z0 z1 z2 z3 = some V1 → Met l y_MO_orderOf mw_MO_orderOf { frames := rF, cells := 0, slots := 0, locals := rL } (va_Pc [.ref aM, .int z0, .int z1, .int z2, .int z3] (fun U => va_P D vwCl [(aM, .inr (11, [.int thr, .ref aMst, .int tpd, .ref aMdcs, .ref aMtot, .ref aMfrm, .ref aMsiz, .int frs, .int frt, .ref aMffr, .ref aMfsz, .int top, .int bgn, .int mst, .int (b2i ovr), .int (b2i tgr), .int lvs, .ref aMlkd, .ref aMlat, .ref aMkkd, .ref aMkat, .ref aModr, .ref aMgrp, .int its, .ref aMikd, .ref aMiat, .long hgh, .long loo, .int (b2i dfl)])), (aMst, .inl (cI, 136400, .inl st))] U.heap ∧ hk_ D cB cI U)) (vp_Si (fun r => r = V1)) 0 0 (fun _ => False)) {K : Int32 → Option (Int32)} (hKx : ∀ (y6 : Int32), V = K y6 → ∀ ls : Array Slot, lv_has ls 7 [(0, .ref aM), (3, .int x3), (4, .int x4), (5, .int x5), (6, .int y6)] → W p l e ({ frames := rF + 8, cells := 0, slots := 0, locals := rL + 240 }) s m args below meth c s.heap [] 0 0 (MQ below (vp_Si (fun r => r = V0)) args s 0 0 (fun _ => False)) (F0 m 137 ls [])) (hV : V = tw_MO_orderBoxes_r100 fu fo K st x3 x4 x5 x6) : ∀ ls : Array Slot, lv_has ls 7 [(0, .ref aM), (3, .int x3), (4, .int x4), (5, .int x5), (6, .int x6)] → W p l e ({ frames := rF + 8, cells := 0, slots := 0, locals := rL + 240 }) s m args below meth c s.heap [] 0 0 (MQ below (vp_Si (fun r => r = V0)) args s 0 0 (fun _ => False)) (F0 m 100 ls []) := by
  obtain ⟨hx, hb, hml, hr, hown, hlocks, hT⟩ := id C0
  have hK := hk.1
  have hN := hk.2.1
  intro ls hl
  refine lv_iload hx hb d_MO_orderBoxes_100 (lv_at hl 4 rfl) ?_
  refine lv_if_ne (tgt := 137) hx hb d_MO_orderBoxes_102 (by decide) (fun c_10 => ?_) (fun c_10 => ?_)
  · exact hKx x6 (by rw [hV, tw_MO_orderBoxes_r100, if_neg c_10]) ls (lv_sub hl [0, 1, 2, 3, 4] rfl)
  · refine lv_aload_n hx hb d_MO_orderBoxes_105 rfl (lv_at hl 0 rfl) ?_
    refine lv_aload_n hx hb d_MO_orderBoxes_106 rfl (lv_at hl 0 rfl) ?_
    refine va_get (D := D) (ci := 11) (v := .ref aMst) (C := R_MO) (T := T_MO) (N := 29) hx hb hT u_MO hown hK hP 0 rfl rfl 1 (by decide) (hT _ k_1044) (fun _ h9 => h9) rfl d_MO_orderBoxes_107 ?_
    refine lv_iload hx hb d_MO_orderBoxes_110 (lv_at hl 2 rfl) ?_
    by_cases c_11 : 0 ≤ x4 ∧ x4 < 136400
    rotate_left
    · exact op_no hs (by rw [hV, tw_MO_orderBoxes_r100, if_pos c_10, if_neg c_11])
    refine va_iald hx hb hK hP 1 1 rfl rfl (in_pp c_11.1 c_11.2 rfl) d_MO_orderBoxes_112 ?_
    refine lv_aload_n hx hb d_MO_orderBoxes_113 rfl (lv_at hl 0 rfl) ?_
    refine lv_iload hx hb d_MO_orderBoxes_114 (lv_at hl 2 rfl) ?_
    rcases h_12 : tw_MO_valueOf fu st x4 with _ | r_12
    · exact op_no hs (by rw [hV, tw_MO_orderBoxes_r100, if_pos c_10, if_pos c_11, h_12, ob1_no])
    refine rd_V (val := r_12) (As := [.int x4]) (rest := [.int (st x4.toNatClampNeg), .ref aM]) ⟨hx, hb, hml, hown, hT⟩ (c_MO_valueOf l D cB cI aM aMst aMdcs aMtot aMfrm aMsiz aMffr aMfsz aMlkd aMlat aMkkd aMkat aModr aMgrp aMikd aMiat fu thr tpd frs frt top bgn mst ovr tgr lvs its hgh loo dfl st x4 r_12 h_12) (cwV 1 hT (gV_of k_1182 k_1184 kp_MO_valueOf k_12 kc_MO_valueOf) rfl rfl rfl hd_MO_valueOf ⟨rl_s (Nat.le_of_ble_eq_true rfl), rl_s (Nat.le_of_ble_eq_true rfl)⟩) hk hP (q0 := 0) rfl rfl rfl rfl hl.1 rfl (Nat.le_of_ble_eq_true rfl) d_MO_orderBoxes_116 ⟨Nat.zero_le _, Nat.zero_le _⟩ ?_
    refine lv_aload_n hx hb d_MO_orderBoxes_119 rfl (lv_at hl 0 rfl) ?_
    refine va_get (D := D) (ci := 11) (v := .ref aMst) (C := R_MO) (T := T_MO) (N := 29) hx hb hT u_MO hown hK hP 0 rfl rfl 1 (by decide) (hT _ k_1044) (fun _ h9 => h9) rfl d_MO_orderBoxes_120 ?_
    refine lv_iload hx hb d_MO_orderBoxes_123 (lv_at hl 3 rfl) ?_
    by_cases c_13 : 0 ≤ x5 ∧ x5 < 136400
    rotate_left
    · exact op_no hs (by rw [hV, tw_MO_orderBoxes_r100, if_pos c_10, if_pos c_11, h_12, ob1_mk, if_neg c_13])
    refine va_iald hx hb hK hP 1 1 rfl rfl (in_pp c_13.1 c_13.2 rfl) d_MO_orderBoxes_125 ?_
    refine lv_aload_n hx hb d_MO_orderBoxes_126 rfl (lv_at hl 0 rfl) ?_
    refine lv_iload hx hb d_MO_orderBoxes_127 (lv_at hl 3 rfl) ?_
    rcases h_14 : tw_MO_valueOf fu st x5 with _ | r_14
    · exact op_no hs (by rw [hV, tw_MO_orderBoxes_r100, if_pos c_10, if_pos c_11, h_12, ob1_mk, if_pos c_13, h_14, ob1_no])
    refine rd_V (val := r_14) (As := [.int x5]) (rest := [.int (st x5.toNatClampNeg), .int r_12, .int (st x4.toNatClampNeg), .ref aM]) ⟨hx, hb, hml, hown, hT⟩ (c_MO_valueOf l D cB cI aM aMst aMdcs aMtot aMfrm aMsiz aMffr aMfsz aMlkd aMlat aMkkd aMkat aModr aMgrp aMikd aMiat fu thr tpd frs frt top bgn mst ovr tgr lvs its hgh loo dfl st x5 r_14 h_14) (cwV 1 hT (gV_of k_1182 k_1184 kp_MO_valueOf k_12 kc_MO_valueOf) rfl rfl rfl hd_MO_valueOf ⟨rl_s (Nat.le_of_ble_eq_true rfl), rl_s (Nat.le_of_ble_eq_true rfl)⟩) hk hP (q0 := 0) rfl rfl rfl rfl hl.1 rfl (Nat.le_of_ble_eq_true rfl) d_MO_orderBoxes_129 ⟨Nat.zero_le _, Nat.zero_le _⟩ ?_
    rcases h_15 : fo (st x4.toNatClampNeg) r_12 (st x5.toNatClampNeg) r_14 with _ | r_15
    · exact op_no hs (by rw [hV, tw_MO_orderBoxes_r100, if_pos c_10, if_pos c_11, h_12, ob1_mk, if_pos c_13, h_14, ob1_mk, h_15, ob1_no])
    refine rd_V (val := r_15) (As := [.int (st x4.toNatClampNeg), .int r_12, .int (st x5.toNatClampNeg), .int r_14]) (rest := []) ⟨hx, hb, hml, hown, hT⟩ (hfo (st x4.toNatClampNeg) r_12 (st x5.toNatClampNeg) r_14 r_15 h_15) (cwV 4 hT (gV_of k_1408 k_1410 kp_MO_orderOf k_12 kc_MO_orderOf) rfl rfl rfl hd_MO_orderOf ⟨rl_f (Nat.le_of_ble_eq_true rfl), rl_l (Nat.le_of_ble_eq_true rfl)⟩) hk hP (q0 := 0) rfl rfl rfl rfl hl.1 rfl (Nat.le_of_ble_eq_true rfl) d_MO_orderBoxes_132 ⟨Nat.zero_le _, Nat.zero_le _⟩ ?_
    refine lv_istore (lv' := [(6, .int r_15), (0, .ref aM), (3, .int x3), (4, .int x4), (5, .int x5)]) hx hb d_MO_orderBoxes_135 hl (by decide) rfl (fun ls hl => ?_)
    exact hKx r_15 (by rw [hV, tw_MO_orderBoxes_r100, if_pos c_10, if_pos c_11, h_12, ob1_mk, if_pos c_13, h_14, ob1_mk, h_15, ob1_mk]) ls (lv_sub hl [1, 2, 3, 4, 0] rfl)
set_option maxHeartbeats 4000000 in
set_option maxRecDepth 100000 in
theorem l_MO_orderBoxes_h14 {p : Program} {e : Env} {s : State} {m : MethodId} {args : Array Value} {below : List Frame} {meth : Method} {c : Code} {V : Option (Int32)} {V0 : Int32} (C0 : lc_C p s m meth c args b_MO_orderBoxes 7 (some .int) R_MO lw_g) (hs : V = some V0) (l : Launch) (D : va_G) (cB cI : ClassId) (aM aMst aMdcs aMtot aMfrm aMsiz aMffr aMfsz aMlkd aMlat aMkkd aMkat aModr aMgrp aMikd aMiat : Nat) (rF : Nat) (rL : Nat) (fu : Nat) (fo : Int32 → Int32 → Int32 → Int32 → Option (Int32)) (thr : Int32) (tpd : Int32) (frs : Int32) (frt : Int32) (top : Int32) (bgn : Int32) (mst : Int32) (ovr : Bool) (tgr : Bool) (lvs : Int32) (its : Int32) (hgh : Int64) (loo : Int64) (dfl : Bool) (st : Nat → Int32) (hP : va_P D vwCl [(aM, .inr (11, [.int thr, .ref aMst, .int tpd, .ref aMdcs, .ref aMtot, .ref aMfrm, .ref aMsiz, .int frs, .int frt, .ref aMffr, .ref aMfsz, .int top, .int bgn, .int mst, .int (b2i ovr), .int (b2i tgr), .int lvs, .ref aMlkd, .ref aMlat, .ref aMkkd, .ref aMkat, .ref aModr, .ref aMgrp, .int its, .ref aMikd, .ref aMiat, .long hgh, .long loo, .int (b2i dfl)])), (aMst, .inl (cI, 136400, .inl st))] s.heap) (hk : hk_ D cB cI s) (p2 : Int32) (hfo : ∀ (z0 z1 z2 z3 : Int32) (V1 : Int32), fo z0 z1 z2 z3 = some V1 → Met l y_MO_orderOf mw_MO_orderOf { frames := rF, cells := 0, slots := 0, locals := rL } (va_Pc [.ref aM, .int z0, .int z1, .int z2, .int z3] (fun U => va_P D vwCl [(aM, .inr (11, [.int thr, .ref aMst, .int tpd, .ref aMdcs, .ref aMtot, .ref aMfrm, .ref aMsiz, .int frs, .int frt, .ref aMffr, .ref aMfsz, .int top, .int bgn, .int mst, .int (b2i ovr), .int (b2i tgr), .int lvs, .ref aMlkd, .ref aMlat, .ref aMkkd, .ref aMkat, .ref aModr, .ref aMgrp, .int its, .ref aMikd, .ref aMiat, .long hgh, .long loo, .int (b2i dfl)])), (aMst, .inl (cI, 136400, .inl st))] U.heap ∧ hk_ D cB cI U)) (vp_Si (fun r => r = V1)) 0 0 (fun _ => False)) {K : Int32 → Int32 → Option (Int32)} (hKx : ∀ (x4 : Int32) (x5 : Int32), V = K x4 x5 → ∀ ls : Array Slot, lv_has ls 7 [(4, .int x4), (5, .int x5)] → W p l e ({ frames := rF + 8, cells := 0, slots := 0, locals := rL + 240 }) s m args below meth c s.heap [] 0 0 (MQ below (vp_Si (fun r => r = V0)) args s 0 0 (fun _ => False)) (F0 m 172 ls [])) : ∀ (n : Nat) (x4 : Int32) (x5 : Int32), V = tw_MO_orderBoxes_h14 fu fo K st p2 n x4 x5 → ∀ ls : Array Slot, lv_has ls 7 [(0, .ref aM), (3, .int p2), (4, .int x4), (5, .int x5)] → W p l e ({ frames := rF + 8, cells := 0, slots := 0, locals := rL + 240 }) s m args below meth c s.heap [] 0 0 (MQ below (vp_Si (fun r => r = V0)) args s 0 0 (fun _ => False)) (F0 m 14 ls []) := by
  obtain ⟨hx, hb, hml, hr, hown, hlocks, hT⟩ := id C0
  have hK := hk.1
  have hN := hk.2.1
  intro n
  induction n with
  | zero =>
    intro x4 x5 hV
    exact op_no hs (hV.trans rfl)
  | succ n ih =>
    intro x4 x5 hV ls hl
    refine lv_iload hx hb d_MO_orderBoxes_14 (lv_at hl 2 rfl) ?_
    refine lv_if_le (tgt := 172) hx hb d_MO_orderBoxes_16 (by decide) (fun c_3 => ?_) (fun c_3 => ?_)
    · exact hKx x4 x5 (by rw [hV, tw_MO_orderBoxes_h14, if_pos c_3]) ls (lv_sub hl [2, 3] rfl)
    · refine lv_iload hx hb d_MO_orderBoxes_19 (lv_at hl 3 rfl) ?_
      refine lv_if_le (tgt := 172) hx hb d_MO_orderBoxes_21 (by decide) (fun c_4 => ?_) (fun c_4 => ?_)
      · exact hKx x4 x5 (by rw [hV, tw_MO_orderBoxes_h14, if_neg c_3, if_pos c_4]) ls (lv_sub hl [2, 3] rfl)
      · refine l_MO_orderBoxes_r24 C0 hs l D cB cI aM aMst aMdcs aMtot aMfrm aMsiz aMffr aMfsz aMlkd aMlat aMkkd aMkat aModr aMgrp aMikd aMiat rF rL fu fo thr tpd frs frt top bgn mst ovr tgr lvs its hgh loo dfl st hP hk p2 x4 x5 hfo (K := (fun (y6_8 : Int32) =>
            if y6_8 = 0 then
              if p2 = 0 then
                tw_MO_orderBoxes_r100 fu fo (fun (y6_22 : Int32) =>
                if y6_22 = 0 then
                  ob1 (tw_MO_nextOf fu st x4) (fun r_24 =>
                    ob1 (tw_MO_nextOf fu st x5) (fun r_25 =>
                      tw_MO_orderBoxes_h14 fu fo K st p2 n r_24 r_25))
                else
                  if 0 ≤ y6_22 then
                    some 1
                  else
                    some (-1)) st p2 x4 x5 y6_8
              else
                ob1 (tw_MO_nameEndOf fu st x4) (fun r_27 =>
                  ob1 (tw_MO_nameEndOf fu st x5) (fun r_28 =>
                    ob1 (tw_MO_orderBytes fu st (x4 + 1) ((r_27 - x4) - 1) (x5 + 1) ((r_28 - x5) - 1)) (fun r_29 =>
                      tw_MO_orderBoxes_r100 fu fo (fun (y6_30 : Int32) =>
                if y6_30 = 0 then
                  ob1 (tw_MO_nextOf fu st x4) (fun r_32 =>
                    ob1 (tw_MO_nextOf fu st x5) (fun r_33 =>
                      tw_MO_orderBoxes_h14 fu fo K st p2 n r_32 r_33))
                else
                  if 0 ≤ y6_30 then
                    some 1
                  else
                    some (-1)) st p2 x4 x5 r_29)))
            else
              tw_MO_orderBoxes_r100 fu fo (fun (y6_16 : Int32) =>
              if y6_16 = 0 then
                ob1 (tw_MO_nextOf fu st x4) (fun r_18 =>
                  ob1 (tw_MO_nextOf fu st x5) (fun r_19 =>
                    tw_MO_orderBoxes_h14 fu fo K st p2 n r_18 r_19))
              else
                if 0 ≤ y6_16 then
                  some 1
                else
                  some (-1)) st p2 x4 x5 y6_8)) ?_ (by rw [hV, tw_MO_orderBoxes_h14, if_neg c_3, if_neg c_4]) ls (lv_sub hl [0, 1, 2, 3] rfl)
        intro y6_8 hV_8 ls hl
        refine lv_iload hx hb d_MO_orderBoxes_55 (lv_at hl 4 rfl) ?_
        refine lv_if_ne (tgt := 100) hx hb d_MO_orderBoxes_57 (by decide) (fun c_9 => ?_) (fun c_9 => ?_)
        · refine l_MO_orderBoxes_r100 C0 hs l D cB cI aM aMst aMdcs aMtot aMfrm aMsiz aMffr aMfsz aMlkd aMlat aMkkd aMkat aModr aMgrp aMikd aMiat rF rL fu fo thr tpd frs frt top bgn mst ovr tgr lvs its hgh loo dfl st hP hk p2 x4 x5 y6_8 hfo (K := (fun (y6_16 : Int32) =>
              if y6_16 = 0 then
                ob1 (tw_MO_nextOf fu st x4) (fun r_18 =>
                  ob1 (tw_MO_nextOf fu st x5) (fun r_19 =>
                    tw_MO_orderBoxes_h14 fu fo K st p2 n r_18 r_19))
              else
                if 0 ≤ y6_16 then
                  some 1
                else
                  some (-1))) ?_ (by rw [hV_8, if_neg c_9]) ls (lv_sub hl [0, 1, 2, 3, 4] rfl)
          intro y6_16 hV_16 ls hl
          refine lv_iload hx hb d_MO_orderBoxes_137 (lv_at hl 4 rfl) ?_
          refine lv_if_eq (tgt := 153) hx hb d_MO_orderBoxes_139 (by decide) (fun c_17 => ?_) (fun c_17 => ?_)
          · refine lv_aload_n hx hb d_MO_orderBoxes_153 rfl (lv_at hl 0 rfl) ?_
            refine lv_iload hx hb d_MO_orderBoxes_154 (lv_at hl 2 rfl) ?_
            rcases h_18 : tw_MO_nextOf fu st x4 with _ | r_18
            · exact op_no hs (by rw [hV_16, if_pos c_17, h_18, ob1_no])
            refine rd_V (val := r_18) (As := [.int x4]) (rest := []) ⟨hx, hb, hml, hown, hT⟩ (c_MO_nextOf l D cB cI aM aMst aMdcs aMtot aMfrm aMsiz aMffr aMfsz aMlkd aMlat aMkkd aMkat aModr aMgrp aMikd aMiat fu thr tpd frs frt top bgn mst ovr tgr lvs its hgh loo dfl st x4 r_18 h_18) (cwV 1 hT (gV_of k_1204 k_1206 kp_MO_nextOf k_12 kc_MO_nextOf) rfl rfl rfl hd_MO_nextOf ⟨rl_s (Nat.le_of_ble_eq_true rfl), rl_s (Nat.le_of_ble_eq_true rfl)⟩) hk hP (q0 := 0) rfl rfl rfl rfl hl.1 rfl (Nat.le_of_ble_eq_true rfl) d_MO_orderBoxes_156 ⟨Nat.zero_le _, Nat.zero_le _⟩ ?_
            refine lv_istore (lv' := [(4, .int r_18), (0, .ref aM), (3, .int p2), (5, .int x5), (6, .int y6_16)]) hx hb d_MO_orderBoxes_159 hl (by decide) rfl (fun ls hl => ?_)
            refine lv_aload_n hx hb d_MO_orderBoxes_161 rfl (lv_at hl 1 rfl) ?_
            refine lv_iload hx hb d_MO_orderBoxes_162 (lv_at hl 3 rfl) ?_
            rcases h_19 : tw_MO_nextOf fu st x5 with _ | r_19
            · exact op_no hs (by rw [hV_16, if_pos c_17, h_18, ob1_mk, h_19, ob1_no])
            refine rd_V (val := r_19) (As := [.int x5]) (rest := []) ⟨hx, hb, hml, hown, hT⟩ (c_MO_nextOf l D cB cI aM aMst aMdcs aMtot aMfrm aMsiz aMffr aMfsz aMlkd aMlat aMkkd aMkat aModr aMgrp aMikd aMiat fu thr tpd frs frt top bgn mst ovr tgr lvs its hgh loo dfl st x5 r_19 h_19) (cwV 1 hT (gV_of k_1204 k_1206 kp_MO_nextOf k_12 kc_MO_nextOf) rfl rfl rfl hd_MO_nextOf ⟨rl_s (Nat.le_of_ble_eq_true rfl), rl_s (Nat.le_of_ble_eq_true rfl)⟩) hk hP (q0 := 0) rfl rfl rfl rfl hl.1 rfl (Nat.le_of_ble_eq_true rfl) d_MO_orderBoxes_164 ⟨Nat.zero_le _, Nat.zero_le _⟩ ?_
            refine lv_istore (lv' := [(5, .int r_19), (4, .int r_18), (0, .ref aM), (3, .int p2), (6, .int y6_16)]) hx hb d_MO_orderBoxes_167 hl (by decide) rfl (fun ls hl => ?_)
            refine lv_goto (tgt := 14) hx hb d_MO_orderBoxes_169 (by decide) ?_
            exact ih r_18 r_19 (by rw [hV_16, if_pos c_17, h_18, ob1_mk, h_19, ob1_mk]) ls (lv_sub hl [2, 3, 1, 0] rfl)
          · refine lv_iload hx hb d_MO_orderBoxes_142 (lv_at hl 4 rfl) ?_
            refine lv_if_ge (tgt := 151) hx hb d_MO_orderBoxes_144 (by decide) (fun c_20 => ?_) (fun c_20 => ?_)
            · refine lv_iconst (v := 1) hx hb d_MO_orderBoxes_151 (by decide) ?_
              exact W.iret (v := 1) hx hb hr (fun t ht hW => ⟨1, rfl, (op_eq hs (by rw [hV_16, if_neg c_17, if_pos c_20])), ht⟩) (fun _ h => by cases h) d_MO_orderBoxes_152
            · refine lv_iconst (v := -1) hx hb d_MO_orderBoxes_147 (by decide) ?_
              refine lv_goto (tgt := 152) hx hb d_MO_orderBoxes_148 (by decide) ?_
              exact W.iret (v := (-1)) hx hb hr (fun t ht hW => ⟨(-1), rfl, (op_eq hs (by rw [hV_16, if_neg c_17, if_neg c_20])), ht⟩) (fun _ h => by cases h) d_MO_orderBoxes_152
        · refine lv_iload_n hx hb d_MO_orderBoxes_60 rfl (lv_at hl 1 rfl) ?_
          refine lv_if_eq (tgt := 100) hx hb d_MO_orderBoxes_61 (by decide) (fun c_21 => ?_) (fun c_21 => ?_)
          · refine l_MO_orderBoxes_r100 C0 hs l D cB cI aM aMst aMdcs aMtot aMfrm aMsiz aMffr aMfsz aMlkd aMlat aMkkd aMkat aModr aMgrp aMikd aMiat rF rL fu fo thr tpd frs frt top bgn mst ovr tgr lvs its hgh loo dfl st hP hk p2 x4 x5 y6_8 hfo (K := (fun (y6_22 : Int32) =>
                if y6_22 = 0 then
                  ob1 (tw_MO_nextOf fu st x4) (fun r_24 =>
                    ob1 (tw_MO_nextOf fu st x5) (fun r_25 =>
                      tw_MO_orderBoxes_h14 fu fo K st p2 n r_24 r_25))
                else
                  if 0 ≤ y6_22 then
                    some 1
                  else
                    some (-1))) ?_ (by rw [hV_8, if_pos c_9, if_pos c_21]) ls (lv_sub hl [0, 1, 2, 3, 4] rfl)
            intro y6_22 hV_22 ls hl
            refine lv_iload hx hb d_MO_orderBoxes_137 (lv_at hl 4 rfl) ?_
            refine lv_if_eq (tgt := 153) hx hb d_MO_orderBoxes_139 (by decide) (fun c_23 => ?_) (fun c_23 => ?_)
            · refine lv_aload_n hx hb d_MO_orderBoxes_153 rfl (lv_at hl 0 rfl) ?_
              refine lv_iload hx hb d_MO_orderBoxes_154 (lv_at hl 2 rfl) ?_
              rcases h_24 : tw_MO_nextOf fu st x4 with _ | r_24
              · exact op_no hs (by rw [hV_22, if_pos c_23, h_24, ob1_no])
              refine rd_V (val := r_24) (As := [.int x4]) (rest := []) ⟨hx, hb, hml, hown, hT⟩ (c_MO_nextOf l D cB cI aM aMst aMdcs aMtot aMfrm aMsiz aMffr aMfsz aMlkd aMlat aMkkd aMkat aModr aMgrp aMikd aMiat fu thr tpd frs frt top bgn mst ovr tgr lvs its hgh loo dfl st x4 r_24 h_24) (cwV 1 hT (gV_of k_1204 k_1206 kp_MO_nextOf k_12 kc_MO_nextOf) rfl rfl rfl hd_MO_nextOf ⟨rl_s (Nat.le_of_ble_eq_true rfl), rl_s (Nat.le_of_ble_eq_true rfl)⟩) hk hP (q0 := 0) rfl rfl rfl rfl hl.1 rfl (Nat.le_of_ble_eq_true rfl) d_MO_orderBoxes_156 ⟨Nat.zero_le _, Nat.zero_le _⟩ ?_
              refine lv_istore (lv' := [(4, .int r_24), (0, .ref aM), (3, .int p2), (5, .int x5), (6, .int y6_22)]) hx hb d_MO_orderBoxes_159 hl (by decide) rfl (fun ls hl => ?_)
              refine lv_aload_n hx hb d_MO_orderBoxes_161 rfl (lv_at hl 1 rfl) ?_
              refine lv_iload hx hb d_MO_orderBoxes_162 (lv_at hl 3 rfl) ?_
              rcases h_25 : tw_MO_nextOf fu st x5 with _ | r_25
              · exact op_no hs (by rw [hV_22, if_pos c_23, h_24, ob1_mk, h_25, ob1_no])
              refine rd_V (val := r_25) (As := [.int x5]) (rest := []) ⟨hx, hb, hml, hown, hT⟩ (c_MO_nextOf l D cB cI aM aMst aMdcs aMtot aMfrm aMsiz aMffr aMfsz aMlkd aMlat aMkkd aMkat aModr aMgrp aMikd aMiat fu thr tpd frs frt top bgn mst ovr tgr lvs its hgh loo dfl st x5 r_25 h_25) (cwV 1 hT (gV_of k_1204 k_1206 kp_MO_nextOf k_12 kc_MO_nextOf) rfl rfl rfl hd_MO_nextOf ⟨rl_s (Nat.le_of_ble_eq_true rfl), rl_s (Nat.le_of_ble_eq_true rfl)⟩) hk hP (q0 := 0) rfl rfl rfl rfl hl.1 rfl (Nat.le_of_ble_eq_true rfl) d_MO_orderBoxes_164 ⟨Nat.zero_le _, Nat.zero_le _⟩ ?_
              refine lv_istore (lv' := [(5, .int r_25), (4, .int r_24), (0, .ref aM), (3, .int p2), (6, .int y6_22)]) hx hb d_MO_orderBoxes_167 hl (by decide) rfl (fun ls hl => ?_)
              refine lv_goto (tgt := 14) hx hb d_MO_orderBoxes_169 (by decide) ?_
              exact ih r_24 r_25 (by rw [hV_22, if_pos c_23, h_24, ob1_mk, h_25, ob1_mk]) ls (lv_sub hl [2, 3, 1, 0] rfl)
            · refine lv_iload hx hb d_MO_orderBoxes_142 (lv_at hl 4 rfl) ?_
              refine lv_if_ge (tgt := 151) hx hb d_MO_orderBoxes_144 (by decide) (fun c_26 => ?_) (fun c_26 => ?_)
              · refine lv_iconst (v := 1) hx hb d_MO_orderBoxes_151 (by decide) ?_
                exact W.iret (v := 1) hx hb hr (fun t ht hW => ⟨1, rfl, (op_eq hs (by rw [hV_22, if_neg c_23, if_pos c_26])), ht⟩) (fun _ h => by cases h) d_MO_orderBoxes_152
              · refine lv_iconst (v := -1) hx hb d_MO_orderBoxes_147 (by decide) ?_
                refine lv_goto (tgt := 152) hx hb d_MO_orderBoxes_148 (by decide) ?_
                exact W.iret (v := (-1)) hx hb hr (fun t ht hW => ⟨(-1), rfl, (op_eq hs (by rw [hV_22, if_neg c_23, if_neg c_26])), ht⟩) (fun _ h => by cases h) d_MO_orderBoxes_152
          · refine lv_aload_n hx hb d_MO_orderBoxes_64 rfl (lv_at hl 0 rfl) ?_
            refine lv_iload hx hb d_MO_orderBoxes_65 (lv_at hl 2 rfl) ?_
            refine lv_iconst (v := 1) hx hb d_MO_orderBoxes_67 (by decide) ?_
            refine lv_iadd hx hb d_MO_orderBoxes_68 ?_
            refine lv_aload_n hx hb d_MO_orderBoxes_69 rfl (lv_at hl 0 rfl) ?_
            refine lv_iload hx hb d_MO_orderBoxes_70 (lv_at hl 2 rfl) ?_
            rcases h_27 : tw_MO_nameEndOf fu st x4 with _ | r_27
            · exact op_no hs (by rw [hV_8, if_pos c_9, if_neg c_21, h_27, ob1_no])
            refine rd_V (val := r_27) (As := [.int x4]) (rest := [.int (x4 + 1), .ref aM]) ⟨hx, hb, hml, hown, hT⟩ (c_MO_nameEndOf l D cB cI aM aMst aMdcs aMtot aMfrm aMsiz aMffr aMfsz aMlkd aMlat aMkkd aMkat aModr aMgrp aMikd aMiat fu thr tpd frs frt top bgn mst ovr tgr lvs its hgh loo dfl st x4 r_27 h_27) (cwV 1 hT (gV_of k_1174 k_1176 kp_MO_nameEndOf k_12 kc_MO_nameEndOf) rfl rfl rfl hd_MO_nameEndOf ⟨rl_s (Nat.le_of_ble_eq_true rfl), rl_s (Nat.le_of_ble_eq_true rfl)⟩) hk hP (q0 := 0) rfl rfl rfl rfl hl.1 rfl (Nat.le_of_ble_eq_true rfl) d_MO_orderBoxes_72 ⟨Nat.zero_le _, Nat.zero_le _⟩ ?_
            refine lv_iload hx hb d_MO_orderBoxes_75 (lv_at hl 2 rfl) ?_
            refine lv_isub hx hb d_MO_orderBoxes_77 ?_
            refine lv_iconst (v := 1) hx hb d_MO_orderBoxes_78 (by decide) ?_
            refine lv_isub hx hb d_MO_orderBoxes_79 ?_
            refine lv_iload hx hb d_MO_orderBoxes_80 (lv_at hl 3 rfl) ?_
            refine lv_iconst (v := 1) hx hb d_MO_orderBoxes_82 (by decide) ?_
            refine lv_iadd hx hb d_MO_orderBoxes_83 ?_
            refine lv_aload_n hx hb d_MO_orderBoxes_84 rfl (lv_at hl 0 rfl) ?_
            refine lv_iload hx hb d_MO_orderBoxes_85 (lv_at hl 3 rfl) ?_
            rcases h_28 : tw_MO_nameEndOf fu st x5 with _ | r_28
            · exact op_no hs (by rw [hV_8, if_pos c_9, if_neg c_21, h_27, ob1_mk, h_28, ob1_no])
            refine rd_V (val := r_28) (As := [.int x5]) (rest := [.int (x5 + 1), .int ((r_27 - x4) - 1), .int (x4 + 1), .ref aM]) ⟨hx, hb, hml, hown, hT⟩ (c_MO_nameEndOf l D cB cI aM aMst aMdcs aMtot aMfrm aMsiz aMffr aMfsz aMlkd aMlat aMkkd aMkat aModr aMgrp aMikd aMiat fu thr tpd frs frt top bgn mst ovr tgr lvs its hgh loo dfl st x5 r_28 h_28) (cwV 1 hT (gV_of k_1174 k_1176 kp_MO_nameEndOf k_12 kc_MO_nameEndOf) rfl rfl rfl hd_MO_nameEndOf ⟨rl_s (Nat.le_of_ble_eq_true rfl), rl_s (Nat.le_of_ble_eq_true rfl)⟩) hk hP (q0 := 0) rfl rfl rfl rfl hl.1 rfl (Nat.le_of_ble_eq_true rfl) d_MO_orderBoxes_87 ⟨Nat.zero_le _, Nat.zero_le _⟩ ?_
            refine lv_iload hx hb d_MO_orderBoxes_90 (lv_at hl 3 rfl) ?_
            refine lv_isub hx hb d_MO_orderBoxes_92 ?_
            refine lv_iconst (v := 1) hx hb d_MO_orderBoxes_93 (by decide) ?_
            refine lv_isub hx hb d_MO_orderBoxes_94 ?_
            rcases h_29 : tw_MO_orderBytes fu st (x4 + 1) ((r_27 - x4) - 1) (x5 + 1) ((r_28 - x5) - 1) with _ | r_29
            · exact op_no hs (by rw [hV_8, if_pos c_9, if_neg c_21, h_27, ob1_mk, h_28, ob1_mk, h_29, ob1_no])
            refine rd_V (val := r_29) (As := [.int (x4 + 1), .int ((r_27 - x4) - 1), .int (x5 + 1), .int ((r_28 - x5) - 1)]) (rest := []) ⟨hx, hb, hml, hown, hT⟩ (c_MO_orderBytes l D cB cI aM aMst aMdcs aMtot aMfrm aMsiz aMffr aMfsz aMlkd aMlat aMkkd aMkat aModr aMgrp aMikd aMiat fu thr tpd frs frt top bgn mst ovr tgr lvs its hgh loo dfl st (x4 + 1) ((r_27 - x4) - 1) (x5 + 1) ((r_28 - x5) - 1) r_29 h_29) (cwV 4 hT (gV_of k_1178 k_1180 kp_MO_orderBytes k_12 kc_MO_orderBytes) rfl rfl rfl hd_MO_orderBytes ⟨rl_s (Nat.le_of_ble_eq_true rfl), rl_s (Nat.le_of_ble_eq_true rfl)⟩) hk hP (q0 := 0) rfl rfl rfl rfl hl.1 rfl (Nat.le_of_ble_eq_true rfl) d_MO_orderBoxes_95 ⟨Nat.zero_le _, Nat.zero_le _⟩ ?_
            refine lv_istore (lv' := [(6, .int r_29), (0, .ref aM), (3, .int p2), (4, .int x4), (5, .int x5)]) hx hb d_MO_orderBoxes_98 hl (by decide) rfl (fun ls hl => ?_)
            refine l_MO_orderBoxes_r100 C0 hs l D cB cI aM aMst aMdcs aMtot aMfrm aMsiz aMffr aMfsz aMlkd aMlat aMkkd aMkat aModr aMgrp aMikd aMiat rF rL fu fo thr tpd frs frt top bgn mst ovr tgr lvs its hgh loo dfl st hP hk p2 x4 x5 r_29 hfo (K := (fun (y6_30 : Int32) =>
                if y6_30 = 0 then
                  ob1 (tw_MO_nextOf fu st x4) (fun r_32 =>
                    ob1 (tw_MO_nextOf fu st x5) (fun r_33 =>
                      tw_MO_orderBoxes_h14 fu fo K st p2 n r_32 r_33))
                else
                  if 0 ≤ y6_30 then
                    some 1
                  else
                    some (-1))) ?_ (by rw [hV_8, if_pos c_9, if_neg c_21, h_27, ob1_mk, h_28, ob1_mk, h_29, ob1_mk]) ls (lv_sub hl [1, 2, 3, 4, 0] rfl)
            intro y6_30 hV_30 ls hl
            refine lv_iload hx hb d_MO_orderBoxes_137 (lv_at hl 4 rfl) ?_
            refine lv_if_eq (tgt := 153) hx hb d_MO_orderBoxes_139 (by decide) (fun c_31 => ?_) (fun c_31 => ?_)
            · refine lv_aload_n hx hb d_MO_orderBoxes_153 rfl (lv_at hl 0 rfl) ?_
              refine lv_iload hx hb d_MO_orderBoxes_154 (lv_at hl 2 rfl) ?_
              rcases h_32 : tw_MO_nextOf fu st x4 with _ | r_32
              · exact op_no hs (by rw [hV_30, if_pos c_31, h_32, ob1_no])
              refine rd_V (val := r_32) (As := [.int x4]) (rest := []) ⟨hx, hb, hml, hown, hT⟩ (c_MO_nextOf l D cB cI aM aMst aMdcs aMtot aMfrm aMsiz aMffr aMfsz aMlkd aMlat aMkkd aMkat aModr aMgrp aMikd aMiat fu thr tpd frs frt top bgn mst ovr tgr lvs its hgh loo dfl st x4 r_32 h_32) (cwV 1 hT (gV_of k_1204 k_1206 kp_MO_nextOf k_12 kc_MO_nextOf) rfl rfl rfl hd_MO_nextOf ⟨rl_s (Nat.le_of_ble_eq_true rfl), rl_s (Nat.le_of_ble_eq_true rfl)⟩) hk hP (q0 := 0) rfl rfl rfl rfl hl.1 rfl (Nat.le_of_ble_eq_true rfl) d_MO_orderBoxes_156 ⟨Nat.zero_le _, Nat.zero_le _⟩ ?_
              refine lv_istore (lv' := [(4, .int r_32), (0, .ref aM), (3, .int p2), (5, .int x5), (6, .int y6_30)]) hx hb d_MO_orderBoxes_159 hl (by decide) rfl (fun ls hl => ?_)
              refine lv_aload_n hx hb d_MO_orderBoxes_161 rfl (lv_at hl 1 rfl) ?_
              refine lv_iload hx hb d_MO_orderBoxes_162 (lv_at hl 3 rfl) ?_
              rcases h_33 : tw_MO_nextOf fu st x5 with _ | r_33
              · exact op_no hs (by rw [hV_30, if_pos c_31, h_32, ob1_mk, h_33, ob1_no])
              refine rd_V (val := r_33) (As := [.int x5]) (rest := []) ⟨hx, hb, hml, hown, hT⟩ (c_MO_nextOf l D cB cI aM aMst aMdcs aMtot aMfrm aMsiz aMffr aMfsz aMlkd aMlat aMkkd aMkat aModr aMgrp aMikd aMiat fu thr tpd frs frt top bgn mst ovr tgr lvs its hgh loo dfl st x5 r_33 h_33) (cwV 1 hT (gV_of k_1204 k_1206 kp_MO_nextOf k_12 kc_MO_nextOf) rfl rfl rfl hd_MO_nextOf ⟨rl_s (Nat.le_of_ble_eq_true rfl), rl_s (Nat.le_of_ble_eq_true rfl)⟩) hk hP (q0 := 0) rfl rfl rfl rfl hl.1 rfl (Nat.le_of_ble_eq_true rfl) d_MO_orderBoxes_164 ⟨Nat.zero_le _, Nat.zero_le _⟩ ?_
              refine lv_istore (lv' := [(5, .int r_33), (4, .int r_32), (0, .ref aM), (3, .int p2), (6, .int y6_30)]) hx hb d_MO_orderBoxes_167 hl (by decide) rfl (fun ls hl => ?_)
              refine lv_goto (tgt := 14) hx hb d_MO_orderBoxes_169 (by decide) ?_
              exact ih r_32 r_33 (by rw [hV_30, if_pos c_31, h_32, ob1_mk, h_33, ob1_mk]) ls (lv_sub hl [2, 3, 1, 0] rfl)
            · refine lv_iload hx hb d_MO_orderBoxes_142 (lv_at hl 4 rfl) ?_
              refine lv_if_ge (tgt := 151) hx hb d_MO_orderBoxes_144 (by decide) (fun c_34 => ?_) (fun c_34 => ?_)
              · refine lv_iconst (v := 1) hx hb d_MO_orderBoxes_151 (by decide) ?_
                exact W.iret (v := 1) hx hb hr (fun t ht hW => ⟨1, rfl, (op_eq hs (by rw [hV_30, if_neg c_31, if_pos c_34])), ht⟩) (fun _ h => by cases h) d_MO_orderBoxes_152
              · refine lv_iconst (v := -1) hx hb d_MO_orderBoxes_147 (by decide) ?_
                refine lv_goto (tgt := 152) hx hb d_MO_orderBoxes_148 (by decide) ?_
                exact W.iret (v := (-1)) hx hb hr (fun t ht hW => ⟨(-1), rfl, (op_eq hs (by rw [hV_30, if_neg c_31, if_neg c_34])), ht⟩) (fun _ h => by cases h) d_MO_orderBoxes_152
set_option maxHeartbeats 4000000 in
set_option maxRecDepth 100000 in
theorem c_MO_orderBoxes (l : Launch) (D : va_G) (cB cI : ClassId) (aM aMst aMdcs aMtot aMfrm aMsiz aMffr aMfsz aMlkd aMlat aMkkd aMkat aModr aMgrp aMikd aMiat : Nat) (rF : Nat) (rL : Nat) (fu : Nat) (fo : Int32 → Int32 → Int32 → Int32 → Option (Int32)) (thr : Int32) (tpd : Int32) (frs : Int32) (frt : Int32) (top : Int32) (bgn : Int32) (mst : Int32) (ovr : Bool) (tgr : Bool) (lvs : Int32) (its : Int32) (hgh : Int64) (loo : Int64) (dfl : Bool) (st : Nat → Int32) (p0 : Int32) (p1 : Int32) (p2 : Int32) (hfo : ∀ (z0 z1 z2 z3 : Int32) (V1 : Int32), fo z0 z1 z2 z3 = some V1 → Met l y_MO_orderOf mw_MO_orderOf { frames := rF, cells := 0, slots := 0, locals := rL } (va_Pc [.ref aM, .int z0, .int z1, .int z2, .int z3] (fun U => va_P D vwCl [(aM, .inr (11, [.int thr, .ref aMst, .int tpd, .ref aMdcs, .ref aMtot, .ref aMfrm, .ref aMsiz, .int frs, .int frt, .ref aMffr, .ref aMfsz, .int top, .int bgn, .int mst, .int (b2i ovr), .int (b2i tgr), .int lvs, .ref aMlkd, .ref aMlat, .ref aMkkd, .ref aMkat, .ref aModr, .ref aMgrp, .int its, .ref aMikd, .ref aMiat, .long hgh, .long loo, .int (b2i dfl)])), (aMst, .inl (cI, 136400, .inl st))] U.heap ∧ hk_ D cB cI U)) (vp_Si (fun r => r = V1)) 0 0 (fun _ => False)) (V0 : Int32) (hs : tw_MO_orderBoxes fu fo st p0 p1 p2 = some V0) : Met l y_MO_orderBoxes mw_MO_orderBoxes { frames := rF + 8, cells := 0, slots := 0, locals := rL + 240 } (va_Pc [.ref aM, .int p0, .int p1, .int p2] (fun U => va_P D vwCl [(aM, .inr (11, [.int thr, .ref aMst, .int tpd, .ref aMdcs, .ref aMtot, .ref aMfrm, .ref aMsiz, .int frs, .int frt, .ref aMffr, .ref aMfsz, .int top, .int bgn, .int mst, .int (b2i ovr), .int (b2i tgr), .int lvs, .ref aMlkd, .ref aMlat, .ref aMkkd, .ref aMkat, .ref aModr, .ref aMgrp, .int its, .ref aMikd, .ref aMiat, .long hgh, .long loo, .int (b2i dfl)])), (aMst, .inl (cI, 136400, .inl st))] U.heap ∧ hk_ D cB cI U)) (vp_Si (fun r => r = V0)) 0 0 (fun _ => False) := by
  refine Met.ofW (cc := b_MO_orderBoxes) (maxL := 7) (ret := (some .int)) (by decide) rfl ?_
  intro p e s m args below meth c s₁ B0 hml hv
  obtain ⟨rfl, hP, hk⟩ := hv
  have hK := hk.1
  have hN := hk.2.1
  have hx := B0.exec
  have hb := B0.bytes
  have hr := B0.returns
  have hT : ∀ w ∈ lw_g, w.before _ s = true := fun w h => atoms_spec (ws := mw_MO_orderBoxes) B0.pre w (List.mem_cons_of_mem _ h)
  have hown : s.vm.findClass R_MO = some m.cls := findClass_of_methodNamed B0.named
  have hlocks := B0.notSynchronized
  have hl := lv_entry ([.ref aM, .int p0, .int p1, .int p2]) (n := 7) (Nat.le_of_ble_eq_true rfl)
  rw [lg_entry_eq]
  generalize (lg_sl ([.ref aM, .int p0, .int p1, .int p2]) ++ List.replicate (7 - (lg_sl ([.ref aM, .int p0, .int p1, .int p2])).length) Slot.unset).toArray = ls at hl ⊢
  have hl : lv_has ls 7 [(0, .ref aM), (1, .int p0), (2, .int p1), (3, .int p2)] := hl
  have C0 : lc_C p s m meth c _ b_MO_orderBoxes 7 (some .int) R_MO lw_g := ⟨hx, hb, hml, hr, hown, hlocks, hT⟩
  refine lv_aload_n hx hb d_MO_orderBoxes_0 rfl (lv_at hl 0 rfl) ?_
  refine lv_iload_n hx hb d_MO_orderBoxes_1 rfl (lv_at hl 1 rfl) ?_
  rcases h_1 : tw_MO_firstOf fu st p0 with _ | r_1
  · exact op_no hs (by rw [tw_MO_orderBoxes, h_1, ob1_no])
  refine rd_V (val := r_1) (As := [.int p0]) (rest := []) ⟨hx, hb, hml, hown, hT⟩ (c_MO_firstOf l D cB cI aM aMst aMdcs aMtot aMfrm aMsiz aMffr aMfsz aMlkd aMlat aMkkd aMkat aModr aMgrp aMikd aMiat fu thr tpd frs frt top bgn mst ovr tgr lvs its hgh loo dfl st p0 r_1 h_1) (cwV 1 hT (gV_of k_1196 k_1198 kp_MO_firstOf k_12 kc_MO_firstOf) rfl rfl rfl hd_MO_firstOf ⟨rl_s (Nat.le_of_ble_eq_true rfl), rl_s (Nat.le_of_ble_eq_true rfl)⟩) hk hP (q0 := 0) rfl rfl rfl rfl hl.1 rfl (Nat.le_of_ble_eq_true rfl) d_MO_orderBoxes_2 ⟨Nat.zero_le _, Nat.zero_le _⟩ ?_
  refine lv_istore (lv' := [(4, .int r_1), (0, .ref aM), (1, .int p0), (2, .int p1), (3, .int p2)]) hx hb d_MO_orderBoxes_5 hl (by decide) rfl (fun ls hl => ?_)
  refine lv_aload_n hx hb d_MO_orderBoxes_7 rfl (lv_at hl 1 rfl) ?_
  refine lv_iload_n hx hb d_MO_orderBoxes_8 rfl (lv_at hl 3 rfl) ?_
  rcases h_2 : tw_MO_firstOf fu st p1 with _ | r_2
  · exact op_no hs (by rw [tw_MO_orderBoxes, h_1, ob1_mk, h_2, ob1_no])
  refine rd_V (val := r_2) (As := [.int p1]) (rest := []) ⟨hx, hb, hml, hown, hT⟩ (c_MO_firstOf l D cB cI aM aMst aMdcs aMtot aMfrm aMsiz aMffr aMfsz aMlkd aMlat aMkkd aMkat aModr aMgrp aMikd aMiat fu thr tpd frs frt top bgn mst ovr tgr lvs its hgh loo dfl st p1 r_2 h_2) (cwV 1 hT (gV_of k_1196 k_1198 kp_MO_firstOf k_12 kc_MO_firstOf) rfl rfl rfl hd_MO_firstOf ⟨rl_s (Nat.le_of_ble_eq_true rfl), rl_s (Nat.le_of_ble_eq_true rfl)⟩) hk hP (q0 := 0) rfl rfl rfl rfl hl.1 rfl (Nat.le_of_ble_eq_true rfl) d_MO_orderBoxes_9 ⟨Nat.zero_le _, Nat.zero_le _⟩ ?_
  refine lv_istore (lv' := [(5, .int r_2), (4, .int r_1), (0, .ref aM), (1, .int p0), (2, .int p1), (3, .int p2)]) hx hb d_MO_orderBoxes_12 hl (by decide) rfl (fun ls hl => ?_)
  refine l_MO_orderBoxes_h14 C0 hs l D cB cI aM aMst aMdcs aMtot aMfrm aMsiz aMffr aMfsz aMlkd aMlat aMkkd aMkat aModr aMgrp aMikd aMiat rF rL fu fo thr tpd frs frt top bgn mst ovr tgr lvs its hgh loo dfl st hP hk p2 hfo  (K := (fun (x4_35 : Int32) (x5_35 : Int32) =>
      if x4_35 ≤ 0 then
        if x5_35 ≤ 0 then
          some 0
        else
          some (-1)
      else
        some 1)) ?_ fu r_1 r_2  (by rw [tw_MO_orderBoxes, h_1, ob1_mk, h_2, ob1_mk]) ls (lv_sub hl [2, 5, 1, 0] rfl)
  intro x4_35 x5_35 hV_35 ls hl
  refine lv_iload hx hb d_MO_orderBoxes_172 (lv_at hl 0 rfl) ?_
  refine lv_if_le (tgt := 181) hx hb d_MO_orderBoxes_174 (by decide) (fun c_36 => ?_) (fun c_36 => ?_)
  · refine lv_iload hx hb d_MO_orderBoxes_181 (lv_at hl 1 rfl) ?_
    refine lv_if_le (tgt := 190) hx hb d_MO_orderBoxes_183 (by decide) (fun c_37 => ?_) (fun c_37 => ?_)
    · refine lv_iconst (v := 0) hx hb d_MO_orderBoxes_190 (by decide) ?_
      exact W.iret (v := 0) hx hb hr (fun t ht hW => ⟨0, rfl, (op_eq hs (by rw [hV_35, if_pos c_36, if_pos c_37])), ht⟩) (fun _ h => by cases h) d_MO_orderBoxes_191
    · refine lv_iconst (v := -1) hx hb d_MO_orderBoxes_186 (by decide) ?_
      refine lv_goto (tgt := 191) hx hb d_MO_orderBoxes_187 (by decide) ?_
      exact W.iret (v := (-1)) hx hb hr (fun t ht hW => ⟨(-1), rfl, (op_eq hs (by rw [hV_35, if_pos c_36, if_neg c_37])), ht⟩) (fun _ h => by cases h) d_MO_orderBoxes_191
  · refine lv_iconst (v := 1) hx hb d_MO_orderBoxes_177 (by decide) ?_
    refine lv_goto (tgt := 191) hx hb d_MO_orderBoxes_178 (by decide) ?_
    exact W.iret (v := 1) hx hb hr (fun t ht hW => ⟨1, rfl, (op_eq hs (by rw [hV_35, if_neg c_36])), ht⟩) (fun _ h => by cases h) d_MO_orderBoxes_191
set_option maxHeartbeats 4000000 in
set_option maxRecDepth 100000 in
theorem c_MO_orderOf (l : Launch) (D : va_G) (cB cI : ClassId) (aM aMst aMdcs aMtot aMfrm aMsiz aMffr aMfsz aMlkd aMlat aMkkd aMkat aModr aMgrp aMikd aMiat : Nat) (rF : Nat) (rL : Nat) (fu : Nat) (fp : Int32 → Int32 → Int32 → Option (Int32)) (thr : Int32) (tpd : Int32) (frs : Int32) (frt : Int32) (top : Int32) (bgn : Int32) (mst : Int32) (ovr : Bool) (tgr : Bool) (lvs : Int32) (its : Int32) (hgh : Int64) (loo : Int64) (dfl : Bool) (st : Nat → Int32) (p0 : Int32) (p1 : Int32) (p2 : Int32) (p3 : Int32) (hfp : ∀ (z0 z1 z2 : Int32) (V1 : Int32), fp z0 z1 z2 = some V1 → Met l y_MO_orderBoxes mw_MO_orderBoxes { frames := rF, cells := 0, slots := 0, locals := rL } (va_Pc [.ref aM, .int z0, .int z1, .int z2] (fun U => va_P D vwCl [(aM, .inr (11, [.int thr, .ref aMst, .int tpd, .ref aMdcs, .ref aMtot, .ref aMfrm, .ref aMsiz, .int frs, .int frt, .ref aMffr, .ref aMfsz, .int top, .int bgn, .int mst, .int (b2i ovr), .int (b2i tgr), .int lvs, .ref aMlkd, .ref aMlat, .ref aMkkd, .ref aMkat, .ref aModr, .ref aMgrp, .int its, .ref aMikd, .ref aMiat, .long hgh, .long loo, .int (b2i dfl)])), (aMst, .inl (cI, 136400, .inl st))] U.heap ∧ hk_ D cB cI U)) (vp_Si (fun r => r = V1)) 0 0 (fun _ => False)) (V0 : Int32) (hs : tw_MO_orderOf fu fp st p0 p1 p2 p3 = some V0) : Met l y_MO_orderOf mw_MO_orderOf { frames := rF + 8, cells := 0, slots := 0, locals := rL + 240 } (va_Pc [.ref aM, .int p0, .int p1, .int p2, .int p3] (fun U => va_P D vwCl [(aM, .inr (11, [.int thr, .ref aMst, .int tpd, .ref aMdcs, .ref aMtot, .ref aMfrm, .ref aMsiz, .int frs, .int frt, .ref aMffr, .ref aMfsz, .int top, .int bgn, .int mst, .int (b2i ovr), .int (b2i tgr), .int lvs, .ref aMlkd, .ref aMlat, .ref aMkkd, .ref aMkat, .ref aModr, .ref aMgrp, .int its, .ref aMikd, .ref aMiat, .long hgh, .long loo, .int (b2i dfl)])), (aMst, .inl (cI, 136400, .inl st))] U.heap ∧ hk_ D cB cI U)) (vp_Si (fun r => r = V0)) 0 0 (fun _ => False) := by
  refine Met.ofW (cc := b_MO_orderOf) (maxL := 10) (ret := (some .int)) (by decide) rfl ?_
  intro p e s m args below meth c s₁ B0 hml hv
  obtain ⟨rfl, hP, hk⟩ := hv
  have hK := hk.1
  have hN := hk.2.1
  have hx := B0.exec
  have hb := B0.bytes
  have hr := B0.returns
  have hT : ∀ w ∈ lw_g, w.before _ s = true := fun w h => atoms_spec (ws := mw_MO_orderOf) B0.pre w (List.mem_cons_of_mem _ h)
  have hown : s.vm.findClass R_MO = some m.cls := findClass_of_methodNamed B0.named
  have hlocks := B0.notSynchronized
  have hl := lv_entry ([.ref aM, .int p0, .int p1, .int p2, .int p3]) (n := 10) (Nat.le_of_ble_eq_true rfl)
  rw [lg_entry_eq]
  generalize (lg_sl ([.ref aM, .int p0, .int p1, .int p2, .int p3]) ++ List.replicate (10 - (lg_sl ([.ref aM, .int p0, .int p1, .int p2, .int p3])).length) Slot.unset).toArray = ls at hl ⊢
  have hl : lv_has ls 10 [(0, .ref aM), (1, .int p0), (2, .int p1), (3, .int p2), (4, .int p3)] := hl
  refine lv_iload_n hx hb d_MO_orderOf_0 rfl (lv_at hl 1 rfl) ?_
  refine rd_S (val := tw_MO_classOf p0) (As := [.int p0]) (rest := []) ⟨hx, hb, hml, hown, hT⟩ (c_MO_classOf l D cB cI p0) (va_cwS 1 hT (gS_of k_1412 k_1413 k_12 kc_MO_classOf) rfl rfl rfl hd_MO_classOf ⟨rl_s (Nat.le_of_ble_eq_true rfl), rl_s (Nat.le_of_ble_eq_true rfl)⟩) hk (va_P_nil) rfl hl.1 rfl (Nat.le_of_ble_eq_true rfl) d_MO_orderOf_1 ⟨Nat.zero_le _, Nat.zero_le _⟩ ?_
  refine lv_istore (lv' := [(5, .int (tw_MO_classOf p0)), (0, .ref aM), (1, .int p0), (2, .int p1), (3, .int p2), (4, .int p3)]) hx hb d_MO_orderOf_4 hl (by decide) rfl (fun ls hl => ?_)
  refine lv_iload hx hb d_MO_orderOf_6 (lv_at hl 0 rfl) ?_
  refine lv_iload_n hx hb d_MO_orderOf_8 rfl (lv_at hl 4 rfl) ?_
  refine rd_S (val := tw_MO_classOf p2) (As := [.int p2]) (rest := [.int (tw_MO_classOf p0)]) ⟨hx, hb, hml, hown, hT⟩ (c_MO_classOf l D cB cI p2) (va_cwS 1 hT (gS_of k_1412 k_1413 k_12 kc_MO_classOf) rfl rfl rfl hd_MO_classOf ⟨rl_s (Nat.le_of_ble_eq_true rfl), rl_s (Nat.le_of_ble_eq_true rfl)⟩) hk (va_P_nil) rfl hl.1 rfl (Nat.le_of_ble_eq_true rfl) d_MO_orderOf_9 ⟨Nat.zero_le _, Nat.zero_le _⟩ ?_
  refine lv_icmp_eq (tgt := 30) hx hb d_MO_orderOf_12 (by decide) (fun c_1 => ?_) (fun c_1 => ?_)
  · refine lv_iload hx hb d_MO_orderOf_30 (lv_at hl 0 rfl) ?_
    refine lv_iconst (v := 2) hx hb d_MO_orderOf_32 (by decide) ?_
    refine lv_icmp_eq (tgt := 43) hx hb d_MO_orderOf_33 (by decide) (fun c_2 => ?_) (fun c_2 => ?_)
    · refine lv_aload_n hx hb d_MO_orderOf_43 rfl (lv_at hl 1 rfl) ?_
      refine lv_iload_n hx hb d_MO_orderOf_44 rfl (lv_at hl 2 rfl) ?_
      refine lv_iload_n hx hb d_MO_orderOf_45 rfl (lv_at hl 3 rfl) ?_
      rcases h_3 : tw_MO_number fu st p0 p1 with _ | r_3
      · exact op_no hs (by rw [tw_MO_orderOf, if_pos c_1, if_pos c_2, h_3, ob1_no])
      refine rd_Vl (val := r_3) (As := [.int p0, .int p1]) (rest := []) ⟨hx, hb, hml, hown, hT⟩ (c_MO_number l D cB cI aM aMst aMdcs aMtot aMfrm aMsiz aMffr aMfsz aMlkd aMlat aMkkd aMkat aModr aMgrp aMikd aMiat fu thr tpd frs frt top bgn mst ovr tgr lvs its hgh loo dfl st p0 p1 r_3 h_3) (cwV 2 hT (gV_of k_1277 k_1279 kp_MO_number k_12 kc_MO_number) rfl rfl rfl hd_MO_number ⟨rl_s (Nat.le_of_ble_eq_true rfl), rl_s (Nat.le_of_ble_eq_true rfl)⟩) hk hP (q0 := 0) rfl rfl rfl rfl hl.1 rfl (Nat.le_of_ble_eq_true rfl) d_MO_orderOf_46 ⟨Nat.zero_le _, Nat.zero_le _⟩ ?_
      refine lv_lstore (lv' := [(6, .long r_3), (5, .int (tw_MO_classOf p0)), (0, .ref aM), (1, .int p0), (2, .int p1), (3, .int p2), (4, .int p3)]) hx hb d_MO_orderOf_49 hl (by decide) rfl (fun ls hl => ?_)
      refine lv_aload_n hx hb d_MO_orderOf_51 rfl (lv_at hl 2 rfl) ?_
      refine lv_iload_n hx hb d_MO_orderOf_52 rfl (lv_at hl 5 rfl) ?_
      refine lv_iload hx hb d_MO_orderOf_53 (lv_at hl 6 rfl) ?_
      rcases h_4 : tw_MO_number fu st p2 p3 with _ | r_4
      · exact op_no hs (by rw [tw_MO_orderOf, if_pos c_1, if_pos c_2, h_3, ob1_mk, h_4, ob1_no])
      refine rd_Vl (val := r_4) (As := [.int p2, .int p3]) (rest := []) ⟨hx, hb, hml, hown, hT⟩ (c_MO_number l D cB cI aM aMst aMdcs aMtot aMfrm aMsiz aMffr aMfsz aMlkd aMlat aMkkd aMkat aModr aMgrp aMikd aMiat fu thr tpd frs frt top bgn mst ovr tgr lvs its hgh loo dfl st p2 p3 r_4 h_4) (cwV 2 hT (gV_of k_1277 k_1279 kp_MO_number k_12 kc_MO_number) rfl rfl rfl hd_MO_number ⟨rl_s (Nat.le_of_ble_eq_true rfl), rl_s (Nat.le_of_ble_eq_true rfl)⟩) hk hP (q0 := 0) rfl rfl rfl rfl hl.1 rfl (Nat.le_of_ble_eq_true rfl) d_MO_orderOf_55 ⟨Nat.zero_le _, Nat.zero_le _⟩ ?_
      refine lv_lstore (lv' := [(8, .long r_4), (6, .long r_3), (5, .int (tw_MO_classOf p0)), (0, .ref aM), (1, .int p0), (2, .int p1), (3, .int p2), (4, .int p3)]) hx hb d_MO_orderOf_58 hl (by decide) rfl (fun ls hl => ?_)
      refine lv_lload hx hb d_MO_orderOf_60 (lv_at hl 1 rfl) ?_
      refine lv_lload hx hb d_MO_orderOf_62 (lv_at hl 0 rfl) ?_
      refine W.lcmp hx hb d_MO_orderOf_64 ?_
      refine lv_if_ge (tgt := 72) hx hb d_MO_orderOf_65 (by decide) (fun c_5 => ?_) (fun c_5 => ?_)
      · refine lv_lload hx hb d_MO_orderOf_72 (lv_at hl 1 rfl) ?_
        refine lv_lload hx hb d_MO_orderOf_74 (lv_at hl 0 rfl) ?_
        refine W.lcmp hx hb d_MO_orderOf_76 ?_
        refine lv_if_le (tgt := 84) hx hb d_MO_orderOf_77 (by decide) (fun c_6 => ?_) (fun c_6 => ?_)
        · refine lv_iconst (v := 0) hx hb d_MO_orderOf_84 (by decide) ?_
          exact W.iret (v := 0) hx hb hr (fun t ht hW => ⟨0, rfl, (op_eq hs (by rw [tw_MO_orderOf, if_pos c_1, if_pos c_2, h_3, ob1_mk, h_4, ob1_mk, if_pos c_5, if_pos c_6])), ht⟩) (fun _ h => by cases h) d_MO_orderOf_85
        · refine lv_iconst (v := 1) hx hb d_MO_orderOf_80 (by decide) ?_
          refine lv_goto (tgt := 85) hx hb d_MO_orderOf_81 (by decide) ?_
          exact W.iret (v := 1) hx hb hr (fun t ht hW => ⟨1, rfl, (op_eq hs (by rw [tw_MO_orderOf, if_pos c_1, if_pos c_2, h_3, ob1_mk, h_4, ob1_mk, if_pos c_5, if_neg c_6])), ht⟩) (fun _ h => by cases h) d_MO_orderOf_85
      · refine lv_iconst (v := -1) hx hb d_MO_orderOf_68 (by decide) ?_
        refine lv_goto (tgt := 85) hx hb d_MO_orderOf_69 (by decide) ?_
        exact W.iret (v := (-1)) hx hb hr (fun t ht hW => ⟨(-1), rfl, (op_eq hs (by rw [tw_MO_orderOf, if_pos c_1, if_pos c_2, h_3, ob1_mk, h_4, ob1_mk, if_neg c_5])), ht⟩) (fun _ h => by cases h) d_MO_orderOf_85
    · refine lv_iload hx hb d_MO_orderOf_36 (lv_at hl 0 rfl) ?_
      refine lv_bipush (v := 6) hx hb d_MO_orderOf_38 (by decide) ?_
      refine lv_icmp_ne (tgt := 86) hx hb d_MO_orderOf_40 (by decide) (fun c_7 => ?_) (fun c_7 => ?_)
      · refine lv_iload hx hb d_MO_orderOf_86 (lv_at hl 0 rfl) ?_
        refine lv_iconst (v := 3) hx hb d_MO_orderOf_88 (by decide) ?_
        refine lv_icmp_ne (tgt := 119) hx hb d_MO_orderOf_89 (by decide) (fun c_8 => ?_) (fun c_8 => ?_)
        · refine lv_iload hx hb d_MO_orderOf_119 (lv_at hl 0 rfl) ?_
          refine lv_iconst (v := 4) hx hb d_MO_orderOf_121 (by decide) ?_
          refine lv_icmp_eq (tgt := 131) hx hb d_MO_orderOf_122 (by decide) (fun c_9 => ?_) (fun c_9 => ?_)
          · refine lv_aload_n hx hb d_MO_orderOf_131 rfl (lv_at hl 1 rfl) ?_
            refine lv_iload_n hx hb d_MO_orderOf_132 rfl (lv_at hl 3 rfl) ?_
            refine lv_iload hx hb d_MO_orderOf_133 (lv_at hl 5 rfl) ?_
            refine lv_iload hx hb d_MO_orderOf_135 (lv_at hl 0 rfl) ?_
            refine lv_iconst (v := 4) hx hb d_MO_orderOf_137 (by decide) ?_
            refine lv_icmp_ne (tgt := 145) hx hb d_MO_orderOf_138 (by decide) (fun c_10 => ?_) (fun c_10 => ?_)
            · refine lv_iconst (v := 0) hx hb d_MO_orderOf_145 (by decide) ?_
              rcases h_11 : fp p1 p3 0 with _ | r_11
              · exact op_no hs (by rw [tw_MO_orderOf, if_pos c_1, if_neg c_2, if_neg c_7, if_neg c_8, if_pos c_9, if_neg c_10, h_11, ob1_no])
              refine rd_V (val := r_11) (As := [.int p1, .int p3, .int 0]) (rest := []) ⟨hx, hb, hml, hown, hT⟩ (hfp p1 p3 0 r_11 h_11) (cwV 3 hT (gV_of k_1415 k_1417 kp_MO_orderBoxes k_12 kc_MO_orderBoxes) rfl rfl rfl hd_MO_orderBoxes ⟨rl_f (Nat.le_of_ble_eq_true rfl), rl_l (Nat.le_of_ble_eq_true rfl)⟩) hk hP (q0 := 0) rfl rfl rfl rfl hl.1 rfl (Nat.le_of_ble_eq_true rfl) d_MO_orderOf_146 ⟨Nat.zero_le _, Nat.zero_le _⟩ ?_
              refine lv_goto (tgt := 153) hx hb d_MO_orderOf_149 (by decide) ?_
              exact W.iret (v := r_11) hx hb hr (fun t ht hW => ⟨r_11, rfl, (op_eq hs (by rw [tw_MO_orderOf, if_pos c_1, if_neg c_2, if_neg c_7, if_neg c_8, if_pos c_9, if_neg c_10, h_11, ob1_mk])), ht⟩) (fun _ h => by cases h) d_MO_orderOf_153
            · refine lv_iconst (v := 1) hx hb d_MO_orderOf_141 (by decide) ?_
              refine lv_goto (tgt := 146) hx hb d_MO_orderOf_142 (by decide) ?_
              rcases h_12 : fp p1 p3 1 with _ | r_12
              · exact op_no hs (by rw [tw_MO_orderOf, if_pos c_1, if_neg c_2, if_neg c_7, if_neg c_8, if_pos c_9, if_pos c_10, h_12, ob1_no])
              refine rd_V (val := r_12) (As := [.int p1, .int p3, .int 1]) (rest := []) ⟨hx, hb, hml, hown, hT⟩ (hfp p1 p3 1 r_12 h_12) (cwV 3 hT (gV_of k_1415 k_1417 kp_MO_orderBoxes k_12 kc_MO_orderBoxes) rfl rfl rfl hd_MO_orderBoxes ⟨rl_f (Nat.le_of_ble_eq_true rfl), rl_l (Nat.le_of_ble_eq_true rfl)⟩) hk hP (q0 := 0) rfl rfl rfl rfl hl.1 rfl (Nat.le_of_ble_eq_true rfl) d_MO_orderOf_146 ⟨Nat.zero_le _, Nat.zero_le _⟩ ?_
              refine lv_goto (tgt := 153) hx hb d_MO_orderOf_149 (by decide) ?_
              exact W.iret (v := r_12) hx hb hr (fun t ht hW => ⟨r_12, rfl, (op_eq hs (by rw [tw_MO_orderOf, if_pos c_1, if_neg c_2, if_neg c_7, if_neg c_8, if_pos c_9, if_pos c_10, h_12, ob1_mk])), ht⟩) (fun _ h => by cases h) d_MO_orderOf_153
          · refine lv_iload hx hb d_MO_orderOf_125 (lv_at hl 0 rfl) ?_
            refine lv_iconst (v := 5) hx hb d_MO_orderOf_127 (by decide) ?_
            refine lv_icmp_ne (tgt := 152) hx hb d_MO_orderOf_128 (by decide) (fun c_13 => ?_) (fun c_13 => ?_)
            · refine lv_iconst (v := 0) hx hb d_MO_orderOf_152 (by decide) ?_
              exact W.iret (v := 0) hx hb hr (fun t ht hW => ⟨0, rfl, (op_eq hs (by rw [tw_MO_orderOf, if_pos c_1, if_neg c_2, if_neg c_7, if_neg c_8, if_neg c_9, if_neg c_13])), ht⟩) (fun _ h => by cases h) d_MO_orderOf_153
            · refine lv_aload_n hx hb d_MO_orderOf_131 rfl (lv_at hl 1 rfl) ?_
              refine lv_iload_n hx hb d_MO_orderOf_132 rfl (lv_at hl 3 rfl) ?_
              refine lv_iload hx hb d_MO_orderOf_133 (lv_at hl 5 rfl) ?_
              refine lv_iload hx hb d_MO_orderOf_135 (lv_at hl 0 rfl) ?_
              refine lv_iconst (v := 4) hx hb d_MO_orderOf_137 (by decide) ?_
              refine lv_icmp_ne (tgt := 145) hx hb d_MO_orderOf_138 (by decide) (fun c_14 => ?_) (fun c_14 => ?_)
              · refine lv_iconst (v := 0) hx hb d_MO_orderOf_145 (by decide) ?_
                rcases h_15 : fp p1 p3 0 with _ | r_15
                · exact op_no hs (by rw [tw_MO_orderOf, if_pos c_1, if_neg c_2, if_neg c_7, if_neg c_8, if_neg c_9, if_pos c_13, if_neg c_14, h_15, ob1_no])
                refine rd_V (val := r_15) (As := [.int p1, .int p3, .int 0]) (rest := []) ⟨hx, hb, hml, hown, hT⟩ (hfp p1 p3 0 r_15 h_15) (cwV 3 hT (gV_of k_1415 k_1417 kp_MO_orderBoxes k_12 kc_MO_orderBoxes) rfl rfl rfl hd_MO_orderBoxes ⟨rl_f (Nat.le_of_ble_eq_true rfl), rl_l (Nat.le_of_ble_eq_true rfl)⟩) hk hP (q0 := 0) rfl rfl rfl rfl hl.1 rfl (Nat.le_of_ble_eq_true rfl) d_MO_orderOf_146 ⟨Nat.zero_le _, Nat.zero_le _⟩ ?_
                refine lv_goto (tgt := 153) hx hb d_MO_orderOf_149 (by decide) ?_
                exact W.iret (v := r_15) hx hb hr (fun t ht hW => ⟨r_15, rfl, (op_eq hs (by rw [tw_MO_orderOf, if_pos c_1, if_neg c_2, if_neg c_7, if_neg c_8, if_neg c_9, if_pos c_13, if_neg c_14, h_15, ob1_mk])), ht⟩) (fun _ h => by cases h) d_MO_orderOf_153
              · refine lv_iconst (v := 1) hx hb d_MO_orderOf_141 (by decide) ?_
                refine lv_goto (tgt := 146) hx hb d_MO_orderOf_142 (by decide) ?_
                rcases h_16 : fp p1 p3 1 with _ | r_16
                · exact op_no hs (by rw [tw_MO_orderOf, if_pos c_1, if_neg c_2, if_neg c_7, if_neg c_8, if_neg c_9, if_pos c_13, if_pos c_14, h_16, ob1_no])
                refine rd_V (val := r_16) (As := [.int p1, .int p3, .int 1]) (rest := []) ⟨hx, hb, hml, hown, hT⟩ (hfp p1 p3 1 r_16 h_16) (cwV 3 hT (gV_of k_1415 k_1417 kp_MO_orderBoxes k_12 kc_MO_orderBoxes) rfl rfl rfl hd_MO_orderBoxes ⟨rl_f (Nat.le_of_ble_eq_true rfl), rl_l (Nat.le_of_ble_eq_true rfl)⟩) hk hP (q0 := 0) rfl rfl rfl rfl hl.1 rfl (Nat.le_of_ble_eq_true rfl) d_MO_orderOf_146 ⟨Nat.zero_le _, Nat.zero_le _⟩ ?_
                refine lv_goto (tgt := 153) hx hb d_MO_orderOf_149 (by decide) ?_
                exact W.iret (v := r_16) hx hb hr (fun t ht hW => ⟨r_16, rfl, (op_eq hs (by rw [tw_MO_orderOf, if_pos c_1, if_neg c_2, if_neg c_7, if_neg c_8, if_neg c_9, if_pos c_13, if_pos c_14, h_16, ob1_mk])), ht⟩) (fun _ h => by cases h) d_MO_orderOf_153
        · refine lv_aload_n hx hb d_MO_orderOf_92 rfl (lv_at hl 1 rfl) ?_
          refine lv_iload_n hx hb d_MO_orderOf_93 rfl (lv_at hl 3 rfl) ?_
          refine lv_iconst (v := 4) hx hb d_MO_orderOf_94 (by decide) ?_
          refine lv_iadd hx hb d_MO_orderOf_95 ?_
          refine lv_aload_n hx hb d_MO_orderOf_96 rfl (lv_at hl 1 rfl) ?_
          refine lv_iload_n hx hb d_MO_orderOf_97 rfl (lv_at hl 3 rfl) ?_
          rcases h_17 : tw_MO_whole fu st p1 with _ | r_17
          · exact op_no hs (by rw [tw_MO_orderOf, if_pos c_1, if_neg c_2, if_neg c_7, if_pos c_8, h_17, ob1_no])
          refine rd_V (val := r_17) (As := [.int p1]) (rest := [.int (p1 + 4), .ref aM]) ⟨hx, hb, hml, hown, hT⟩ (c_MO_whole l D cB cI aM aMst aMdcs aMtot aMfrm aMsiz aMffr aMfsz aMlkd aMlat aMkkd aMkat aModr aMgrp aMikd aMiat fu thr tpd frs frt top bgn mst ovr tgr lvs its hgh loo dfl st p1 r_17 h_17) (cwV 1 hT (gV_of k_1148 k_1150 kp_MO_whole k_12 kc_MO_whole) rfl rfl rfl hd_MO_whole ⟨rl_s (Nat.le_of_ble_eq_true rfl), rl_s (Nat.le_of_ble_eq_true rfl)⟩) hk hP (q0 := 0) rfl rfl rfl rfl hl.1 rfl (Nat.le_of_ble_eq_true rfl) d_MO_orderOf_98 ⟨Nat.zero_le _, Nat.zero_le _⟩ ?_
          refine lv_iconst (v := 1) hx hb d_MO_orderOf_101 (by decide) ?_
          refine lv_isub hx hb d_MO_orderOf_102 ?_
          refine lv_iload hx hb d_MO_orderOf_103 (lv_at hl 5 rfl) ?_
          refine lv_iconst (v := 4) hx hb d_MO_orderOf_105 (by decide) ?_
          refine lv_iadd hx hb d_MO_orderOf_106 ?_
          refine lv_aload_n hx hb d_MO_orderOf_107 rfl (lv_at hl 1 rfl) ?_
          refine lv_iload hx hb d_MO_orderOf_108 (lv_at hl 5 rfl) ?_
          rcases h_18 : tw_MO_whole fu st p3 with _ | r_18
          · exact op_no hs (by rw [tw_MO_orderOf, if_pos c_1, if_neg c_2, if_neg c_7, if_pos c_8, h_17, ob1_mk, h_18, ob1_no])
          refine rd_V (val := r_18) (As := [.int p3]) (rest := [.int (p3 + 4), .int (r_17 - 1), .int (p1 + 4), .ref aM]) ⟨hx, hb, hml, hown, hT⟩ (c_MO_whole l D cB cI aM aMst aMdcs aMtot aMfrm aMsiz aMffr aMfsz aMlkd aMlat aMkkd aMkat aModr aMgrp aMikd aMiat fu thr tpd frs frt top bgn mst ovr tgr lvs its hgh loo dfl st p3 r_18 h_18) (cwV 1 hT (gV_of k_1148 k_1150 kp_MO_whole k_12 kc_MO_whole) rfl rfl rfl hd_MO_whole ⟨rl_s (Nat.le_of_ble_eq_true rfl), rl_s (Nat.le_of_ble_eq_true rfl)⟩) hk hP (q0 := 0) rfl rfl rfl rfl hl.1 rfl (Nat.le_of_ble_eq_true rfl) d_MO_orderOf_110 ⟨Nat.zero_le _, Nat.zero_le _⟩ ?_
          refine lv_iconst (v := 1) hx hb d_MO_orderOf_113 (by decide) ?_
          refine lv_isub hx hb d_MO_orderOf_114 ?_
          rcases h_19 : tw_MO_orderBytes fu st (p1 + 4) (r_17 - 1) (p3 + 4) (r_18 - 1) with _ | r_19
          · exact op_no hs (by rw [tw_MO_orderOf, if_pos c_1, if_neg c_2, if_neg c_7, if_pos c_8, h_17, ob1_mk, h_18, ob1_mk, h_19, ob1_no])
          refine rd_V (val := r_19) (As := [.int (p1 + 4), .int (r_17 - 1), .int (p3 + 4), .int (r_18 - 1)]) (rest := []) ⟨hx, hb, hml, hown, hT⟩ (c_MO_orderBytes l D cB cI aM aMst aMdcs aMtot aMfrm aMsiz aMffr aMfsz aMlkd aMlat aMkkd aMkat aModr aMgrp aMikd aMiat fu thr tpd frs frt top bgn mst ovr tgr lvs its hgh loo dfl st (p1 + 4) (r_17 - 1) (p3 + 4) (r_18 - 1) r_19 h_19) (cwV 4 hT (gV_of k_1178 k_1180 kp_MO_orderBytes k_12 kc_MO_orderBytes) rfl rfl rfl hd_MO_orderBytes ⟨rl_s (Nat.le_of_ble_eq_true rfl), rl_s (Nat.le_of_ble_eq_true rfl)⟩) hk hP (q0 := 0) rfl rfl rfl rfl hl.1 rfl (Nat.le_of_ble_eq_true rfl) d_MO_orderOf_115 ⟨Nat.zero_le _, Nat.zero_le _⟩ ?_
          exact W.iret (v := r_19) hx hb hr (fun t ht hW => ⟨r_19, rfl, (op_eq hs (by rw [tw_MO_orderOf, if_pos c_1, if_neg c_2, if_neg c_7, if_pos c_8, h_17, ob1_mk, h_18, ob1_mk, h_19, ob1_mk])), ht⟩) (fun _ h => by cases h) d_MO_orderOf_118
      · refine lv_aload_n hx hb d_MO_orderOf_43 rfl (lv_at hl 1 rfl) ?_
        refine lv_iload_n hx hb d_MO_orderOf_44 rfl (lv_at hl 2 rfl) ?_
        refine lv_iload_n hx hb d_MO_orderOf_45 rfl (lv_at hl 3 rfl) ?_
        rcases h_20 : tw_MO_number fu st p0 p1 with _ | r_20
        · exact op_no hs (by rw [tw_MO_orderOf, if_pos c_1, if_neg c_2, if_pos c_7, h_20, ob1_no])
        refine rd_Vl (val := r_20) (As := [.int p0, .int p1]) (rest := []) ⟨hx, hb, hml, hown, hT⟩ (c_MO_number l D cB cI aM aMst aMdcs aMtot aMfrm aMsiz aMffr aMfsz aMlkd aMlat aMkkd aMkat aModr aMgrp aMikd aMiat fu thr tpd frs frt top bgn mst ovr tgr lvs its hgh loo dfl st p0 p1 r_20 h_20) (cwV 2 hT (gV_of k_1277 k_1279 kp_MO_number k_12 kc_MO_number) rfl rfl rfl hd_MO_number ⟨rl_s (Nat.le_of_ble_eq_true rfl), rl_s (Nat.le_of_ble_eq_true rfl)⟩) hk hP (q0 := 0) rfl rfl rfl rfl hl.1 rfl (Nat.le_of_ble_eq_true rfl) d_MO_orderOf_46 ⟨Nat.zero_le _, Nat.zero_le _⟩ ?_
        refine lv_lstore (lv' := [(6, .long r_20), (5, .int (tw_MO_classOf p0)), (0, .ref aM), (1, .int p0), (2, .int p1), (3, .int p2), (4, .int p3)]) hx hb d_MO_orderOf_49 hl (by decide) rfl (fun ls hl => ?_)
        refine lv_aload_n hx hb d_MO_orderOf_51 rfl (lv_at hl 2 rfl) ?_
        refine lv_iload_n hx hb d_MO_orderOf_52 rfl (lv_at hl 5 rfl) ?_
        refine lv_iload hx hb d_MO_orderOf_53 (lv_at hl 6 rfl) ?_
        rcases h_21 : tw_MO_number fu st p2 p3 with _ | r_21
        · exact op_no hs (by rw [tw_MO_orderOf, if_pos c_1, if_neg c_2, if_pos c_7, h_20, ob1_mk, h_21, ob1_no])
        refine rd_Vl (val := r_21) (As := [.int p2, .int p3]) (rest := []) ⟨hx, hb, hml, hown, hT⟩ (c_MO_number l D cB cI aM aMst aMdcs aMtot aMfrm aMsiz aMffr aMfsz aMlkd aMlat aMkkd aMkat aModr aMgrp aMikd aMiat fu thr tpd frs frt top bgn mst ovr tgr lvs its hgh loo dfl st p2 p3 r_21 h_21) (cwV 2 hT (gV_of k_1277 k_1279 kp_MO_number k_12 kc_MO_number) rfl rfl rfl hd_MO_number ⟨rl_s (Nat.le_of_ble_eq_true rfl), rl_s (Nat.le_of_ble_eq_true rfl)⟩) hk hP (q0 := 0) rfl rfl rfl rfl hl.1 rfl (Nat.le_of_ble_eq_true rfl) d_MO_orderOf_55 ⟨Nat.zero_le _, Nat.zero_le _⟩ ?_
        refine lv_lstore (lv' := [(8, .long r_21), (6, .long r_20), (5, .int (tw_MO_classOf p0)), (0, .ref aM), (1, .int p0), (2, .int p1), (3, .int p2), (4, .int p3)]) hx hb d_MO_orderOf_58 hl (by decide) rfl (fun ls hl => ?_)
        refine lv_lload hx hb d_MO_orderOf_60 (lv_at hl 1 rfl) ?_
        refine lv_lload hx hb d_MO_orderOf_62 (lv_at hl 0 rfl) ?_
        refine W.lcmp hx hb d_MO_orderOf_64 ?_
        refine lv_if_ge (tgt := 72) hx hb d_MO_orderOf_65 (by decide) (fun c_22 => ?_) (fun c_22 => ?_)
        · refine lv_lload hx hb d_MO_orderOf_72 (lv_at hl 1 rfl) ?_
          refine lv_lload hx hb d_MO_orderOf_74 (lv_at hl 0 rfl) ?_
          refine W.lcmp hx hb d_MO_orderOf_76 ?_
          refine lv_if_le (tgt := 84) hx hb d_MO_orderOf_77 (by decide) (fun c_23 => ?_) (fun c_23 => ?_)
          · refine lv_iconst (v := 0) hx hb d_MO_orderOf_84 (by decide) ?_
            exact W.iret (v := 0) hx hb hr (fun t ht hW => ⟨0, rfl, (op_eq hs (by rw [tw_MO_orderOf, if_pos c_1, if_neg c_2, if_pos c_7, h_20, ob1_mk, h_21, ob1_mk, if_pos c_22, if_pos c_23])), ht⟩) (fun _ h => by cases h) d_MO_orderOf_85
          · refine lv_iconst (v := 1) hx hb d_MO_orderOf_80 (by decide) ?_
            refine lv_goto (tgt := 85) hx hb d_MO_orderOf_81 (by decide) ?_
            exact W.iret (v := 1) hx hb hr (fun t ht hW => ⟨1, rfl, (op_eq hs (by rw [tw_MO_orderOf, if_pos c_1, if_neg c_2, if_pos c_7, h_20, ob1_mk, h_21, ob1_mk, if_pos c_22, if_neg c_23])), ht⟩) (fun _ h => by cases h) d_MO_orderOf_85
        · refine lv_iconst (v := -1) hx hb d_MO_orderOf_68 (by decide) ?_
          refine lv_goto (tgt := 85) hx hb d_MO_orderOf_69 (by decide) ?_
          exact W.iret (v := (-1)) hx hb hr (fun t ht hW => ⟨(-1), rfl, (op_eq hs (by rw [tw_MO_orderOf, if_pos c_1, if_neg c_2, if_pos c_7, h_20, ob1_mk, h_21, ob1_mk, if_neg c_22])), ht⟩) (fun _ h => by cases h) d_MO_orderOf_85
  · refine lv_iload hx hb d_MO_orderOf_15 (lv_at hl 0 rfl) ?_
    refine lv_iload_n hx hb d_MO_orderOf_17 rfl (lv_at hl 4 rfl) ?_
    refine rd_S (val := tw_MO_classOf p2) (As := [.int p2]) (rest := [.int (tw_MO_classOf p0)]) ⟨hx, hb, hml, hown, hT⟩ (c_MO_classOf l D cB cI p2) (va_cwS 1 hT (gS_of k_1412 k_1413 k_12 kc_MO_classOf) rfl rfl rfl hd_MO_classOf ⟨rl_s (Nat.le_of_ble_eq_true rfl), rl_s (Nat.le_of_ble_eq_true rfl)⟩) hk (va_P_nil) rfl hl.1 rfl (Nat.le_of_ble_eq_true rfl) d_MO_orderOf_18 ⟨Nat.zero_le _, Nat.zero_le _⟩ ?_
    refine lv_icmp_ge (tgt := 28) hx hb d_MO_orderOf_21 (by decide) (fun c_24 => ?_) (fun c_24 => ?_)
    · refine lv_iconst (v := 1) hx hb d_MO_orderOf_28 (by decide) ?_
      exact W.iret (v := 1) hx hb hr (fun t ht hW => ⟨1, rfl, (op_eq hs (by rw [tw_MO_orderOf, if_neg c_1, if_pos c_24])), ht⟩) (fun _ h => by cases h) d_MO_orderOf_29
    · refine lv_iconst (v := -1) hx hb d_MO_orderOf_24 (by decide) ?_
      refine lv_goto (tgt := 29) hx hb d_MO_orderOf_25 (by decide) ?_
      exact W.iret (v := (-1)) hx hb hr (fun t ht hW => ⟨(-1), rfl, (op_eq hs (by rw [tw_MO_orderOf, if_neg c_1, if_neg c_24])), ht⟩) (fun _ h => by cases h) d_MO_orderOf_29
set_option maxHeartbeats 4000000 in
set_option maxRecDepth 100000 in
theorem c_tw_MO_ord (l : Launch) (D : va_G) (cB cI : ClassId) (aM aMst aMdcs aMtot aMfrm aMsiz aMffr aMfsz aMlkd aMlat aMkkd aMkat aModr aMgrp aMikd aMiat : Nat) (fu : Nat) (thr : Int32) (tpd : Int32) (frs : Int32) (frt : Int32) (top : Int32) (bgn : Int32) (mst : Int32) (ovr : Bool) (tgr : Bool) (lvs : Int32) (its : Int32) (hgh : Int64) (loo : Int64) (dfl : Bool) (st : Nat → Int32) : ∀ (k : Nat) (z0 z1 z2 z3 : Int32) (V1 : Int32), tw_MO_ord fu st k z0 z1 z2 z3 = some V1 → Met l y_MO_orderOf mw_MO_orderOf { frames := 16 * k, cells := 0, slots := 0, locals := 480 * k } (va_Pc [.ref aM, .int z0, .int z1, .int z2, .int z3] (fun U => va_P D vwCl [(aM, .inr (11, [.int thr, .ref aMst, .int tpd, .ref aMdcs, .ref aMtot, .ref aMfrm, .ref aMsiz, .int frs, .int frt, .ref aMffr, .ref aMfsz, .int top, .int bgn, .int mst, .int (b2i ovr), .int (b2i tgr), .int lvs, .ref aMlkd, .ref aMlat, .ref aMkkd, .ref aMkat, .ref aModr, .ref aMgrp, .int its, .ref aMikd, .ref aMiat, .long hgh, .long loo, .int (b2i dfl)])), (aMst, .inl (cI, 136400, .inl st))] U.heap ∧ hk_ D cB cI U)) (vp_Si (fun r => r = V1)) 0 0 (fun _ => False) := by
  intro k
  induction k with
  | zero =>
    intro z0 z1 z2 z3 V1 hs
    cases hs
  | succ k ih =>
    intro z0 z1 z2 z3 V1 hs
    exact c_MO_orderOf l D cB cI aM aMst aMdcs aMtot aMfrm aMsiz aMffr aMfsz aMlkd aMlat aMkkd aMkat aModr aMgrp aMikd aMiat (16 * k + 8) (480 * k + 240) fu _ thr tpd frs frt top bgn mst ovr tgr lvs its hgh loo dfl st z0 z1 z2 z3 (fun a2 b2 c2 V2 h2 => c_MO_orderBoxes l D cB cI aM aMst aMdcs aMtot aMfrm aMsiz aMffr aMfsz aMlkd aMlat aMkkd aMkat aModr aMgrp aMikd aMiat (16 * k) (480 * k) fu _ thr tpd frs frt top bgn mst ovr tgr lvs its hgh loo dfl st a2 b2 c2 (fun a3 b3 c3 d3 V3 h3 => ih a3 b3 c3 d3 V3 h3) V2 h2) V1 hs
set_option maxHeartbeats 4000000 in
set_option maxRecDepth 100000 in
theorem c_tw_MO_ord0 (l : Launch) (D : va_G) (cB cI : ClassId) (aM aMst aMdcs aMtot aMfrm aMsiz aMffr aMfsz aMlkd aMlat aMkkd aMkat aModr aMgrp aMikd aMiat : Nat) (fu : Nat) (thr : Int32) (tpd : Int32) (frs : Int32) (frt : Int32) (top : Int32) (bgn : Int32) (mst : Int32) (ovr : Bool) (tgr : Bool) (lvs : Int32) (its : Int32) (hgh : Int64) (loo : Int64) (dfl : Bool) (st : Nat → Int32) (z0 z1 z2 z3 : Int32) (V1 : Int32) (hs : tw_MO_ord0 fu st z0 z1 z2 z3 = some V1) : Met l y_MO_orderOf mw_MO_orderOf { frames := 320, cells := 0, slots := 0, locals := 9600 } (va_Pc [.ref aM, .int z0, .int z1, .int z2, .int z3] (fun U => va_P D vwCl [(aM, .inr (11, [.int thr, .ref aMst, .int tpd, .ref aMdcs, .ref aMtot, .ref aMfrm, .ref aMsiz, .int frs, .int frt, .ref aMffr, .ref aMfsz, .int top, .int bgn, .int mst, .int (b2i ovr), .int (b2i tgr), .int lvs, .ref aMlkd, .ref aMlat, .ref aMkkd, .ref aMkat, .ref aModr, .ref aMgrp, .int its, .ref aMikd, .ref aMiat, .long hgh, .long loo, .int (b2i dfl)])), (aMst, .inl (cI, 136400, .inl st))] U.heap ∧ hk_ D cB cI U)) (vp_Si (fun r => r = V1)) 0 0 (fun _ => False) := c_tw_MO_ord l D cB cI aM aMst aMdcs aMtot aMfrm aMsiz aMffr aMfsz aMlkd aMlat aMkkd aMkat aModr aMgrp aMikd aMiat fu thr tpd frs frt top bgn mst ovr tgr lvs its hgh loo dfl st 20 z0 z1 z2 z3 V1 hs

set_option maxHeartbeats 4000000 in
set_option maxRecDepth 100000 in
theorem l_MO_deepOf_r45 {p : Program} {e : Env} {s : State} {m : MethodId} {args : Array Value} {below : List Frame} {meth : Method} {c : Code} {V : Option (Int32)} {V0 : Int32} (C0 : lc_C p s m meth c args b_MO_deepOf 6 (some .int) R_MO lw_g) (hs : V = some V0) (l : Launch) (D : va_G) (cB cI : ClassId) (aM aMst aMdcs aMtot aMfrm aMsiz aMffr aMfsz aMlkd aMlat aMkkd aMkat aModr aMgrp aMikd aMiat : Nat) (rF : Nat) (rL : Nat) (fu : Nat) (fd : Int32 → Int32 → Option (Int32)) (thr : Int32) (tpd : Int32) (frs : Int32) (frt : Int32) (top : Int32) (bgn : Int32) (mst : Int32) (ovr : Bool) (tgr : Bool) (lvs : Int32) (its : Int32) (hgh : Int64) (loo : Int64) (dfl : Bool) (st : Nat → Int32) (hP : va_P D vwCl [(aM, .inr (11, [.int thr, .ref aMst, .int tpd, .ref aMdcs, .ref aMtot, .ref aMfrm, .ref aMsiz, .int frs, .int frt, .ref aMffr, .ref aMfsz, .int top, .int bgn, .int mst, .int (b2i ovr), .int (b2i tgr), .int lvs, .ref aMlkd, .ref aMlat, .ref aMkkd, .ref aMkat, .ref aModr, .ref aMgrp, .int its, .ref aMikd, .ref aMiat, .long hgh, .long loo, .int (b2i dfl)])), (aMst, .inl (cI, 136400, .inl st))] s.heap) (hk : hk_ D cB cI s) (x3 : Int32) (x4 : Int32) (x5 : Int32) (hfd : ∀ (z0 z1 : Int32) (V1 : Int32), fd z0 z1 = some V1 → Met l y_MO_deepOf mw_MO_deepOf { frames := rF, cells := 0, slots := 0, locals := rL } (va_Pc [.ref aM, .int z0, .int z1] (fun U => va_P D vwCl [(aM, .inr (11, [.int thr, .ref aMst, .int tpd, .ref aMdcs, .ref aMtot, .ref aMfrm, .ref aMsiz, .int frs, .int frt, .ref aMffr, .ref aMfsz, .int top, .int bgn, .int mst, .int (b2i ovr), .int (b2i tgr), .int lvs, .ref aMlkd, .ref aMlat, .ref aMkkd, .ref aMkat, .ref aModr, .ref aMgrp, .int its, .ref aMikd, .ref aMiat, .long hgh, .long loo, .int (b2i dfl)])), (aMst, .inl (cI, 136400, .inl st))] U.heap ∧ hk_ D cB cI U)) (vp_Si (fun r => r = V1)) 0 0 (fun _ => False)) {K : Int32 → Option (Int32)} (hKx : ∀ (y3 : Int32), V = K y3 → ∀ ls : Array Slot, lv_has ls 6 [(0, .ref aM), (3, .int y3), (4, .int x4)] → W p l e ({ frames := rF + 8, cells := 0, slots := 0, locals := rL + 240 }) s m args below meth c s.heap [] 0 0 (MQ below (vp_Si (fun r => r = V0)) args s 0 0 (fun _ => False)) (F0 m 58 ls [])) (hV : V = tw_MO_deepOf_r45 fu fd K st x3 x4 x5) : ∀ ls : Array Slot, lv_has ls 6 [(0, .ref aM), (3, .int x3), (4, .int x4), (5, .int x5)] → W p l e ({ frames := rF + 8, cells := 0, slots := 0, locals := rL + 240 }) s m args below meth c s.heap [] 0 0 (MQ below (vp_Si (fun r => r = V0)) args s 0 0 (fun _ => False)) (F0 m 45 ls []) := by
  obtain ⟨hx, hb, hml, hr, hown, hlocks, hT⟩ := id C0
  have hK := hk.1
  have hN := hk.2.1
  intro ls hl
  refine lv_iload hx hb d_MO_deepOf_45 (lv_at hl 3 rfl) ?_
  refine lv_iload_n hx hb d_MO_deepOf_47 rfl (lv_at hl 1 rfl) ?_
  refine lv_icmp_le (tgt := 56) hx hb d_MO_deepOf_48 (by decide) (fun c_7 => ?_) (fun c_7 => ?_)
  · refine lv_iload_n hx hb d_MO_deepOf_56 rfl (lv_at hl 1 rfl) ?_
    refine lv_istore_n (lv' := [(3, .int x3), (0, .ref aM), (4, .int x4), (5, .int x5)]) hx hb d_MO_deepOf_57 rfl hl (by decide) rfl (fun ls hl => ?_)
    exact hKx x3 (by rw [hV, tw_MO_deepOf_r45, if_pos c_7]) ls (lv_sub hl [1, 0, 2] rfl)
  · refine lv_iload hx hb d_MO_deepOf_51 (lv_at hl 3 rfl) ?_
    refine lv_goto (tgt := 57) hx hb d_MO_deepOf_53 (by decide) ?_
    refine lv_istore_n (lv' := [(3, .int x5), (0, .ref aM), (4, .int x4), (5, .int x5)]) hx hb d_MO_deepOf_57 rfl hl (by decide) rfl (fun ls hl => ?_)
    exact hKx x5 (by rw [hV, tw_MO_deepOf_r45, if_neg c_7]) ls (lv_sub hl [1, 0, 2] rfl)
set_option maxHeartbeats 4000000 in
set_option maxRecDepth 100000 in
theorem l_MO_deepOf_h21 {p : Program} {e : Env} {s : State} {m : MethodId} {args : Array Value} {below : List Frame} {meth : Method} {c : Code} {V : Option (Int32)} {V0 : Int32} (C0 : lc_C p s m meth c args b_MO_deepOf 6 (some .int) R_MO lw_g) (hs : V = some V0) (l : Launch) (D : va_G) (cB cI : ClassId) (aM aMst aMdcs aMtot aMfrm aMsiz aMffr aMfsz aMlkd aMlat aMkkd aMkat aModr aMgrp aMikd aMiat : Nat) (rF : Nat) (rL : Nat) (fu : Nat) (fd : Int32 → Int32 → Option (Int32)) (thr : Int32) (tpd : Int32) (frs : Int32) (frt : Int32) (top : Int32) (bgn : Int32) (mst : Int32) (ovr : Bool) (tgr : Bool) (lvs : Int32) (its : Int32) (hgh : Int64) (loo : Int64) (dfl : Bool) (st : Nat → Int32) (hP : va_P D vwCl [(aM, .inr (11, [.int thr, .ref aMst, .int tpd, .ref aMdcs, .ref aMtot, .ref aMfrm, .ref aMsiz, .int frs, .int frt, .ref aMffr, .ref aMfsz, .int top, .int bgn, .int mst, .int (b2i ovr), .int (b2i tgr), .int lvs, .ref aMlkd, .ref aMlat, .ref aMkkd, .ref aMkat, .ref aModr, .ref aMgrp, .int its, .ref aMikd, .ref aMiat, .long hgh, .long loo, .int (b2i dfl)])), (aMst, .inl (cI, 136400, .inl st))] s.heap) (hk : hk_ D cB cI s)  (hfd : ∀ (z0 z1 : Int32) (V1 : Int32), fd z0 z1 = some V1 → Met l y_MO_deepOf mw_MO_deepOf { frames := rF, cells := 0, slots := 0, locals := rL } (va_Pc [.ref aM, .int z0, .int z1] (fun U => va_P D vwCl [(aM, .inr (11, [.int thr, .ref aMst, .int tpd, .ref aMdcs, .ref aMtot, .ref aMfrm, .ref aMsiz, .int frs, .int frt, .ref aMffr, .ref aMfsz, .int top, .int bgn, .int mst, .int (b2i ovr), .int (b2i tgr), .int lvs, .ref aMlkd, .ref aMlat, .ref aMkkd, .ref aMkat, .ref aModr, .ref aMgrp, .int its, .ref aMikd, .ref aMiat, .long hgh, .long loo, .int (b2i dfl)])), (aMst, .inl (cI, 136400, .inl st))] U.heap ∧ hk_ D cB cI U)) (vp_Si (fun r => r = V1)) 0 0 (fun _ => False)) {K : Int32 → Int32 → Option (Int32)} (hKx : ∀ (x3 : Int32) (x4 : Int32), V = K x3 x4 → ∀ ls : Array Slot, lv_has ls 6 [(3, .int x3)] → W p l e ({ frames := rF + 8, cells := 0, slots := 0, locals := rL + 240 }) s m args below meth c s.heap [] 0 0 (MQ below (vp_Si (fun r => r = V0)) args s 0 0 (fun _ => False)) (F0 m 69 ls [])) : ∀ (n : Nat) (x3 : Int32) (x4 : Int32), V = tw_MO_deepOf_h21 fu fd K st n x3 x4 → ∀ ls : Array Slot, lv_has ls 6 [(0, .ref aM), (3, .int x3), (4, .int x4)] → W p l e ({ frames := rF + 8, cells := 0, slots := 0, locals := rL + 240 }) s m args below meth c s.heap [] 0 0 (MQ below (vp_Si (fun r => r = V0)) args s 0 0 (fun _ => False)) (F0 m 21 ls []) := by
  obtain ⟨hx, hb, hml, hr, hown, hlocks, hT⟩ := id C0
  have hK := hk.1
  have hN := hk.2.1
  intro n
  induction n with
  | zero =>
    intro x3 x4 hV
    exact op_no hs (hV.trans rfl)
  | succ n ih =>
    intro x3 x4 hV ls hl
    refine lv_iload hx hb d_MO_deepOf_21 (lv_at hl 2 rfl) ?_
    refine lv_if_le (tgt := 69) hx hb d_MO_deepOf_23 (by decide) (fun c_3 => ?_) (fun c_3 => ?_)
    · exact hKx x3 x4 (by rw [hV, tw_MO_deepOf_h21, if_pos c_3]) ls (lv_sub hl [1] rfl)
    · refine lv_aload_n hx hb d_MO_deepOf_26 rfl (lv_at hl 0 rfl) ?_
      refine lv_aload_n hx hb d_MO_deepOf_27 rfl (lv_at hl 0 rfl) ?_
      refine va_get (D := D) (ci := 11) (v := .ref aMst) (C := R_MO) (T := T_MO) (N := 29) hx hb hT u_MO hown hK hP 0 rfl rfl 1 (by decide) (hT _ k_1044) (fun _ h9 => h9) rfl d_MO_deepOf_28 ?_
      refine lv_iload hx hb d_MO_deepOf_31 (lv_at hl 2 rfl) ?_
      by_cases c_4 : 0 ≤ x4 ∧ x4 < 136400
      rotate_left
      · exact op_no hs (by rw [hV, tw_MO_deepOf_h21, if_neg c_3, if_neg c_4])
      refine va_iald hx hb hK hP 1 1 rfl rfl (in_pp c_4.1 c_4.2 rfl) d_MO_deepOf_33 ?_
      refine lv_aload_n hx hb d_MO_deepOf_34 rfl (lv_at hl 0 rfl) ?_
      refine lv_iload hx hb d_MO_deepOf_35 (lv_at hl 2 rfl) ?_
      rcases h_5 : tw_MO_valueOf fu st x4 with _ | r_5
      · exact op_no hs (by rw [hV, tw_MO_deepOf_h21, if_neg c_3, if_pos c_4, h_5, ob1_no])
      refine rd_V (val := r_5) (As := [.int x4]) (rest := [.int (st x4.toNatClampNeg), .ref aM]) ⟨hx, hb, hml, hown, hT⟩ (c_MO_valueOf l D cB cI aM aMst aMdcs aMtot aMfrm aMsiz aMffr aMfsz aMlkd aMlat aMkkd aMkat aModr aMgrp aMikd aMiat fu thr tpd frs frt top bgn mst ovr tgr lvs its hgh loo dfl st x4 r_5 h_5) (cwV 1 hT (gV_of k_1182 k_1184 kp_MO_valueOf k_12 kc_MO_valueOf) rfl rfl rfl hd_MO_valueOf ⟨rl_s (Nat.le_of_ble_eq_true rfl), rl_s (Nat.le_of_ble_eq_true rfl)⟩) hk hP (q0 := 0) rfl rfl rfl rfl hl.1 rfl (Nat.le_of_ble_eq_true rfl) d_MO_deepOf_37 ⟨Nat.zero_le _, Nat.zero_le _⟩ ?_
      rcases h_6 : fd (st x4.toNatClampNeg) r_5 with _ | r_6
      · exact op_no hs (by rw [hV, tw_MO_deepOf_h21, if_neg c_3, if_pos c_4, h_5, ob1_mk, h_6, ob1_no])
      refine rd_V (val := r_6) (As := [.int (st x4.toNatClampNeg), .int r_5]) (rest := []) ⟨hx, hb, hml, hown, hT⟩ (hfd (st x4.toNatClampNeg) r_5 r_6 h_6) (cwV 2 hT (gV_of k_1383 k_1385 kp_MO_deepOf k_12 kc_MO_deepOf) rfl rfl rfl hd_MO_deepOf ⟨rl_f (Nat.le_of_ble_eq_true rfl), rl_l (Nat.le_of_ble_eq_true rfl)⟩) hk hP (q0 := 0) rfl rfl rfl rfl hl.1 rfl (Nat.le_of_ble_eq_true rfl) d_MO_deepOf_40 ⟨Nat.zero_le _, Nat.zero_le _⟩ ?_
      refine lv_istore (lv' := [(5, .int r_6), (0, .ref aM), (3, .int x3), (4, .int x4)]) hx hb d_MO_deepOf_43 hl (by decide) rfl (fun ls hl => ?_)
      refine l_MO_deepOf_r45 C0 hs l D cB cI aM aMst aMdcs aMtot aMfrm aMsiz aMffr aMfsz aMlkd aMlat aMkkd aMkat aModr aMgrp aMikd aMiat rF rL fu fd thr tpd frs frt top bgn mst ovr tgr lvs its hgh loo dfl st hP hk x3 x4 r_6 hfd (K := (fun (y3_8 : Int32) =>
          ob1 (tw_MO_nextOf fu st x4) (fun r_9 =>
            tw_MO_deepOf_h21 fu fd K st n y3_8 r_9))) ?_ (by rw [hV, tw_MO_deepOf_h21, if_neg c_3, if_pos c_4, h_5, ob1_mk, h_6, ob1_mk]) ls (lv_sub hl [1, 2, 3, 0] rfl)
      intro y3_8 hV_8 ls hl
      refine lv_aload_n hx hb d_MO_deepOf_58 rfl (lv_at hl 0 rfl) ?_
      refine lv_iload hx hb d_MO_deepOf_59 (lv_at hl 2 rfl) ?_
      rcases h_9 : tw_MO_nextOf fu st x4 with _ | r_9
      · exact op_no hs (by rw [hV_8, h_9, ob1_no])
      refine rd_V (val := r_9) (As := [.int x4]) (rest := []) ⟨hx, hb, hml, hown, hT⟩ (c_MO_nextOf l D cB cI aM aMst aMdcs aMtot aMfrm aMsiz aMffr aMfsz aMlkd aMlat aMkkd aMkat aModr aMgrp aMikd aMiat fu thr tpd frs frt top bgn mst ovr tgr lvs its hgh loo dfl st x4 r_9 h_9) (cwV 1 hT (gV_of k_1204 k_1206 kp_MO_nextOf k_12 kc_MO_nextOf) rfl rfl rfl hd_MO_nextOf ⟨rl_s (Nat.le_of_ble_eq_true rfl), rl_s (Nat.le_of_ble_eq_true rfl)⟩) hk hP (q0 := 0) rfl rfl rfl rfl hl.1 rfl (Nat.le_of_ble_eq_true rfl) d_MO_deepOf_61 ⟨Nat.zero_le _, Nat.zero_le _⟩ ?_
      refine lv_istore (lv' := [(4, .int r_9), (0, .ref aM), (3, .int y3_8)]) hx hb d_MO_deepOf_64 hl (by decide) rfl (fun ls hl => ?_)
      refine lv_goto (tgt := 21) hx hb d_MO_deepOf_66 (by decide) ?_
      exact ih y3_8 r_9 (by rw [hV_8, h_9, ob1_mk]) ls (lv_sub hl [1, 2, 0] rfl)
set_option maxHeartbeats 4000000 in
set_option maxRecDepth 100000 in
theorem c_MO_deepOf (l : Launch) (D : va_G) (cB cI : ClassId) (aM aMst aMdcs aMtot aMfrm aMsiz aMffr aMfsz aMlkd aMlat aMkkd aMkat aModr aMgrp aMikd aMiat : Nat) (rF : Nat) (rL : Nat) (fu : Nat) (fd : Int32 → Int32 → Option (Int32)) (thr : Int32) (tpd : Int32) (frs : Int32) (frt : Int32) (top : Int32) (bgn : Int32) (mst : Int32) (ovr : Bool) (tgr : Bool) (lvs : Int32) (its : Int32) (hgh : Int64) (loo : Int64) (dfl : Bool) (st : Nat → Int32) (p0 : Int32) (p1 : Int32) (hfd : ∀ (z0 z1 : Int32) (V1 : Int32), fd z0 z1 = some V1 → Met l y_MO_deepOf mw_MO_deepOf { frames := rF, cells := 0, slots := 0, locals := rL } (va_Pc [.ref aM, .int z0, .int z1] (fun U => va_P D vwCl [(aM, .inr (11, [.int thr, .ref aMst, .int tpd, .ref aMdcs, .ref aMtot, .ref aMfrm, .ref aMsiz, .int frs, .int frt, .ref aMffr, .ref aMfsz, .int top, .int bgn, .int mst, .int (b2i ovr), .int (b2i tgr), .int lvs, .ref aMlkd, .ref aMlat, .ref aMkkd, .ref aMkat, .ref aModr, .ref aMgrp, .int its, .ref aMikd, .ref aMiat, .long hgh, .long loo, .int (b2i dfl)])), (aMst, .inl (cI, 136400, .inl st))] U.heap ∧ hk_ D cB cI U)) (vp_Si (fun r => r = V1)) 0 0 (fun _ => False)) (V0 : Int32) (hs : tw_MO_deepOf fu fd st p0 p1 = some V0) : Met l y_MO_deepOf mw_MO_deepOf { frames := rF + 8, cells := 0, slots := 0, locals := rL + 240 } (va_Pc [.ref aM, .int p0, .int p1] (fun U => va_P D vwCl [(aM, .inr (11, [.int thr, .ref aMst, .int tpd, .ref aMdcs, .ref aMtot, .ref aMfrm, .ref aMsiz, .int frs, .int frt, .ref aMffr, .ref aMfsz, .int top, .int bgn, .int mst, .int (b2i ovr), .int (b2i tgr), .int lvs, .ref aMlkd, .ref aMlat, .ref aMkkd, .ref aMkat, .ref aModr, .ref aMgrp, .int its, .ref aMikd, .ref aMiat, .long hgh, .long loo, .int (b2i dfl)])), (aMst, .inl (cI, 136400, .inl st))] U.heap ∧ hk_ D cB cI U)) (vp_Si (fun r => r = V0)) 0 0 (fun _ => False) := by
  refine Met.ofW (cc := b_MO_deepOf) (maxL := 6) (ret := (some .int)) (by decide) rfl ?_
  intro p e s m args below meth c s₁ B0 hml hv
  obtain ⟨rfl, hP, hk⟩ := hv
  have hK := hk.1
  have hN := hk.2.1
  have hx := B0.exec
  have hb := B0.bytes
  have hr := B0.returns
  have hT : ∀ w ∈ lw_g, w.before _ s = true := fun w h => atoms_spec (ws := mw_MO_deepOf) B0.pre w (List.mem_cons_of_mem _ h)
  have hown : s.vm.findClass R_MO = some m.cls := findClass_of_methodNamed B0.named
  have hlocks := B0.notSynchronized
  have hl := lv_entry ([.ref aM, .int p0, .int p1]) (n := 6) (Nat.le_of_ble_eq_true rfl)
  rw [lg_entry_eq]
  generalize (lg_sl ([.ref aM, .int p0, .int p1]) ++ List.replicate (6 - (lg_sl ([.ref aM, .int p0, .int p1])).length) Slot.unset).toArray = ls at hl ⊢
  have hl : lv_has ls 6 [(0, .ref aM), (1, .int p0), (2, .int p1)] := hl
  have C0 : lc_C p s m meth c _ b_MO_deepOf 6 (some .int) R_MO lw_g := ⟨hx, hb, hml, hr, hown, hlocks, hT⟩
  refine lv_iload_n hx hb d_MO_deepOf_0 rfl (lv_at hl 1 rfl) ?_
  refine lv_iconst (v := 3) hx hb d_MO_deepOf_1 (by decide) ?_
  refine lv_icmp_eq (tgt := 12) hx hb d_MO_deepOf_2 (by decide) (fun c_1 => ?_) (fun c_1 => ?_)
  · refine lv_iconst (v := 0) hx hb d_MO_deepOf_12 (by decide) ?_
    refine lv_istore_n (lv' := [(3, .int 0), (0, .ref aM), (1, .int p0), (2, .int p1)]) hx hb d_MO_deepOf_13 rfl hl (by decide) rfl (fun ls hl => ?_)
    refine lv_aload_n hx hb d_MO_deepOf_14 rfl (lv_at hl 1 rfl) ?_
    refine lv_iload_n hx hb d_MO_deepOf_15 rfl (lv_at hl 3 rfl) ?_
    rcases h_2 : tw_MO_firstOf fu st p1 with _ | r_2
    · exact op_no hs (by rw [tw_MO_deepOf, if_pos c_1, h_2, ob1_no])
    refine rd_V (val := r_2) (As := [.int p1]) (rest := []) ⟨hx, hb, hml, hown, hT⟩ (c_MO_firstOf l D cB cI aM aMst aMdcs aMtot aMfrm aMsiz aMffr aMfsz aMlkd aMlat aMkkd aMkat aModr aMgrp aMikd aMiat fu thr tpd frs frt top bgn mst ovr tgr lvs its hgh loo dfl st p1 r_2 h_2) (cwV 1 hT (gV_of k_1196 k_1198 kp_MO_firstOf k_12 kc_MO_firstOf) rfl rfl rfl hd_MO_firstOf ⟨rl_s (Nat.le_of_ble_eq_true rfl), rl_s (Nat.le_of_ble_eq_true rfl)⟩) hk hP (q0 := 0) rfl rfl rfl rfl hl.1 rfl (Nat.le_of_ble_eq_true rfl) d_MO_deepOf_16 ⟨Nat.zero_le _, Nat.zero_le _⟩ ?_
    refine lv_istore (lv' := [(4, .int r_2), (3, .int 0), (0, .ref aM), (1, .int p0), (2, .int p1)]) hx hb d_MO_deepOf_19 hl (by decide) rfl (fun ls hl => ?_)
    refine l_MO_deepOf_h21 C0 hs l D cB cI aM aMst aMdcs aMtot aMfrm aMsiz aMffr aMfsz aMlkd aMlat aMkkd aMkat aModr aMgrp aMikd aMiat rF rL fu fd thr tpd frs frt top bgn mst ovr tgr lvs its hgh loo dfl st hP hk  hfd  (K := (fun (x3_10 : Int32) (x4_10 : Int32) =>
        some (x3_10 + 1))) ?_ fu 0 r_2  (by rw [tw_MO_deepOf, if_pos c_1, h_2, ob1_mk]) ls (lv_sub hl [2, 1, 0] rfl)
    intro x3_10 x4_10 hV_10 ls hl
    refine lv_iload_n hx hb d_MO_deepOf_69 rfl (lv_at hl 0 rfl) ?_
    refine lv_iconst (v := 1) hx hb d_MO_deepOf_70 (by decide) ?_
    refine lv_iadd hx hb d_MO_deepOf_71 ?_
    exact W.iret (v := x3_10 + 1) hx hb hr (fun t ht hW => ⟨x3_10 + 1, rfl, (op_eq hs (by rw [hV_10])), ht⟩) (fun _ h => by cases h) d_MO_deepOf_72
  · refine lv_iload_n hx hb d_MO_deepOf_5 rfl (lv_at hl 1 rfl) ?_
    refine lv_iconst (v := 4) hx hb d_MO_deepOf_6 (by decide) ?_
    refine lv_icmp_eq (tgt := 12) hx hb d_MO_deepOf_7 (by decide) (fun c_11 => ?_) (fun c_11 => ?_)
    · refine lv_iconst (v := 0) hx hb d_MO_deepOf_12 (by decide) ?_
      refine lv_istore_n (lv' := [(3, .int 0), (0, .ref aM), (1, .int p0), (2, .int p1)]) hx hb d_MO_deepOf_13 rfl hl (by decide) rfl (fun ls hl => ?_)
      refine lv_aload_n hx hb d_MO_deepOf_14 rfl (lv_at hl 1 rfl) ?_
      refine lv_iload_n hx hb d_MO_deepOf_15 rfl (lv_at hl 3 rfl) ?_
      rcases h_12 : tw_MO_firstOf fu st p1 with _ | r_12
      · exact op_no hs (by rw [tw_MO_deepOf, if_neg c_1, if_pos c_11, h_12, ob1_no])
      refine rd_V (val := r_12) (As := [.int p1]) (rest := []) ⟨hx, hb, hml, hown, hT⟩ (c_MO_firstOf l D cB cI aM aMst aMdcs aMtot aMfrm aMsiz aMffr aMfsz aMlkd aMlat aMkkd aMkat aModr aMgrp aMikd aMiat fu thr tpd frs frt top bgn mst ovr tgr lvs its hgh loo dfl st p1 r_12 h_12) (cwV 1 hT (gV_of k_1196 k_1198 kp_MO_firstOf k_12 kc_MO_firstOf) rfl rfl rfl hd_MO_firstOf ⟨rl_s (Nat.le_of_ble_eq_true rfl), rl_s (Nat.le_of_ble_eq_true rfl)⟩) hk hP (q0 := 0) rfl rfl rfl rfl hl.1 rfl (Nat.le_of_ble_eq_true rfl) d_MO_deepOf_16 ⟨Nat.zero_le _, Nat.zero_le _⟩ ?_
      refine lv_istore (lv' := [(4, .int r_12), (3, .int 0), (0, .ref aM), (1, .int p0), (2, .int p1)]) hx hb d_MO_deepOf_19 hl (by decide) rfl (fun ls hl => ?_)
      refine l_MO_deepOf_h21 C0 hs l D cB cI aM aMst aMdcs aMtot aMfrm aMsiz aMffr aMfsz aMlkd aMlat aMkkd aMkat aModr aMgrp aMikd aMiat rF rL fu fd thr tpd frs frt top bgn mst ovr tgr lvs its hgh loo dfl st hP hk  hfd  (K := (fun (x3_13 : Int32) (x4_13 : Int32) =>
          some (x3_13 + 1))) ?_ fu 0 r_12  (by rw [tw_MO_deepOf, if_neg c_1, if_pos c_11, h_12, ob1_mk]) ls (lv_sub hl [2, 1, 0] rfl)
      intro x3_13 x4_13 hV_13 ls hl
      refine lv_iload_n hx hb d_MO_deepOf_69 rfl (lv_at hl 0 rfl) ?_
      refine lv_iconst (v := 1) hx hb d_MO_deepOf_70 (by decide) ?_
      refine lv_iadd hx hb d_MO_deepOf_71 ?_
      exact W.iret (v := x3_13 + 1) hx hb hr (fun t ht hW => ⟨x3_13 + 1, rfl, (op_eq hs (by rw [hV_13])), ht⟩) (fun _ h => by cases h) d_MO_deepOf_72
    · refine lv_iconst (v := 0) hx hb d_MO_deepOf_10 (by decide) ?_
      exact W.iret (v := 0) hx hb hr (fun t ht hW => ⟨0, rfl, (op_eq hs (by rw [tw_MO_deepOf, if_neg c_1, if_neg c_11])), ht⟩) (fun _ h => by cases h) d_MO_deepOf_11
set_option maxHeartbeats 4000000 in
set_option maxRecDepth 100000 in
theorem c_tw_MO_deep (l : Launch) (D : va_G) (cB cI : ClassId) (aM aMst aMdcs aMtot aMfrm aMsiz aMffr aMfsz aMlkd aMlat aMkkd aMkat aModr aMgrp aMikd aMiat : Nat) (fu : Nat) (thr : Int32) (tpd : Int32) (frs : Int32) (frt : Int32) (top : Int32) (bgn : Int32) (mst : Int32) (ovr : Bool) (tgr : Bool) (lvs : Int32) (its : Int32) (hgh : Int64) (loo : Int64) (dfl : Bool) (st : Nat → Int32) : ∀ (k : Nat) (z0 z1 : Int32) (V1 : Int32), tw_MO_deep fu st k z0 z1 = some V1 → Met l y_MO_deepOf mw_MO_deepOf { frames := 8 * k, cells := 0, slots := 0, locals := 240 * k } (va_Pc [.ref aM, .int z0, .int z1] (fun U => va_P D vwCl [(aM, .inr (11, [.int thr, .ref aMst, .int tpd, .ref aMdcs, .ref aMtot, .ref aMfrm, .ref aMsiz, .int frs, .int frt, .ref aMffr, .ref aMfsz, .int top, .int bgn, .int mst, .int (b2i ovr), .int (b2i tgr), .int lvs, .ref aMlkd, .ref aMlat, .ref aMkkd, .ref aMkat, .ref aModr, .ref aMgrp, .int its, .ref aMikd, .ref aMiat, .long hgh, .long loo, .int (b2i dfl)])), (aMst, .inl (cI, 136400, .inl st))] U.heap ∧ hk_ D cB cI U)) (vp_Si (fun r => r = V1)) 0 0 (fun _ => False) := by
  intro k
  induction k with
  | zero =>
    intro z0 z1 V1 hs
    cases hs
  | succ k ih =>
    intro z0 z1 V1 hs
    exact c_MO_deepOf l D cB cI aM aMst aMdcs aMtot aMfrm aMsiz aMffr aMfsz aMlkd aMlat aMkkd aMkat aModr aMgrp aMikd aMiat (8 * k) (240 * k) fu _ thr tpd frs frt top bgn mst ovr tgr lvs its hgh loo dfl st z0 z1 (fun z02 z12 V2 h2 => ih z02 z12 V2 h2) V1 hs
set_option maxHeartbeats 4000000 in
set_option maxRecDepth 100000 in
theorem c_tw_MO_deep0 (l : Launch) (D : va_G) (cB cI : ClassId) (aM aMst aMdcs aMtot aMfrm aMsiz aMffr aMfsz aMlkd aMlat aMkkd aMkat aModr aMgrp aMikd aMiat : Nat) (fu : Nat) (thr : Int32) (tpd : Int32) (frs : Int32) (frt : Int32) (top : Int32) (bgn : Int32) (mst : Int32) (ovr : Bool) (tgr : Bool) (lvs : Int32) (its : Int32) (hgh : Int64) (loo : Int64) (dfl : Bool) (st : Nat → Int32) (z0 z1 : Int32) (V1 : Int32) (hs : tw_MO_deep0 fu st z0 z1 = some V1) : Met l y_MO_deepOf mw_MO_deepOf { frames := 160, cells := 0, slots := 0, locals := 4800 } (va_Pc [.ref aM, .int z0, .int z1] (fun U => va_P D vwCl [(aM, .inr (11, [.int thr, .ref aMst, .int tpd, .ref aMdcs, .ref aMtot, .ref aMfrm, .ref aMsiz, .int frs, .int frt, .ref aMffr, .ref aMfsz, .int top, .int bgn, .int mst, .int (b2i ovr), .int (b2i tgr), .int lvs, .ref aMlkd, .ref aMlat, .ref aMkkd, .ref aMkat, .ref aModr, .ref aMgrp, .int its, .ref aMikd, .ref aMiat, .long hgh, .long loo, .int (b2i dfl)])), (aMst, .inl (cI, 136400, .inl st))] U.heap ∧ hk_ D cB cI U)) (vp_Si (fun r => r = V1)) 0 0 (fun _ => False) := c_tw_MO_deep l D cB cI aM aMst aMdcs aMtot aMfrm aMsiz aMffr aMfsz aMlkd aMlat aMkkd aMkat aModr aMgrp aMikd aMiat fu thr tpd frs frt top bgn mst ovr tgr lvs its hgh loo dfl st 20 z0 z1 V1 hs

set_option maxHeartbeats 4000000 in
set_option maxRecDepth 100000 in
theorem c_MO_isBehind (l : Launch) (D : va_G) (cB cI : ClassId) (aM aMst aMdcs aMtot aMfrm aMsiz aMffr aMfsz aMlkd aMlat aMkkd aMkat aModr aMgrp aMikd aMiat : Nat) (fu : Nat) (thr : Int32) (tpd : Int32) (frs : Int32) (frt : Int32) (top : Int32) (bgn : Int32) (mst : Int32) (ovr : Bool) (tgr : Bool) (lvs : Int32) (its : Int32) (hgh : Int64) (loo : Int64) (dfl : Bool) (st : Nat → Int32) (kkd : Nat → Int32) (kat : Nat → Int32) (p0 : Int32) (p1 : Int32) (p2 : Int32) (V0 : Bool) (hs : tw_MO_isBehind fu st kkd kat p0 p1 p2 = some V0) : Met l y_MO_isBehind mw_MO_isBehind { frames := 321, cells := 0, slots := 0, locals := 9629 } (va_Pc [.ref aM, .int p0, .int p1, .int p2] (fun U => va_P D vwCl [(aM, .inr (11, [.int thr, .ref aMst, .int tpd, .ref aMdcs, .ref aMtot, .ref aMfrm, .ref aMsiz, .int frs, .int frt, .ref aMffr, .ref aMfsz, .int top, .int bgn, .int mst, .int (b2i ovr), .int (b2i tgr), .int lvs, .ref aMlkd, .ref aMlat, .ref aMkkd, .ref aMkat, .ref aModr, .ref aMgrp, .int its, .ref aMikd, .ref aMiat, .long hgh, .long loo, .int (b2i dfl)])), (aMst, .inl (cI, 136400, .inl st)), (aMkkd, .inl (cI, 800, .inl kkd)), (aMkat, .inl (cI, 800, .inl kat))] U.heap ∧ hk_ D cB cI U)) (vp_Si (fun r => r = b2i V0)) 0 0 (fun _ => False) := by
  refine Met.ofW (cc := b_MO_isBehind) (maxL := 5) (ret := (some .boolean)) (by decide) rfl ?_
  intro p e s m args below meth c s₁ B0 hml hv
  obtain ⟨rfl, hP, hk⟩ := hv
  have hK := hk.1
  have hN := hk.2.1
  have hx := B0.exec
  have hb := B0.bytes
  have hr := B0.returns
  have hT : ∀ w ∈ lw_g, w.before _ s = true := fun w h => atoms_spec (ws := mw_MO_isBehind) B0.pre w (List.mem_cons_of_mem _ h)
  have hown : s.vm.findClass R_MO = some m.cls := findClass_of_methodNamed B0.named
  have hlocks := B0.notSynchronized
  have hl := lv_entry ([.ref aM, .int p0, .int p1, .int p2]) (n := 5) (Nat.le_of_ble_eq_true rfl)
  rw [lg_entry_eq]
  generalize (lg_sl ([.ref aM, .int p0, .int p1, .int p2]) ++ List.replicate (5 - (lg_sl ([.ref aM, .int p0, .int p1, .int p2])).length) Slot.unset).toArray = ls at hl ⊢
  have hl : lv_has ls 5 [(0, .ref aM), (1, .int p0), (2, .int p1), (3, .int p2)] := hl
  refine lv_aload_n hx hb d_MO_isBehind_0 rfl (lv_at hl 0 rfl) ?_
  refine lv_aload_n hx hb d_MO_isBehind_1 rfl (lv_at hl 0 rfl) ?_
  refine va_get (D := D) (ci := 11) (v := .ref aMkkd) (C := R_MO) (T := T_MO) (N := 29) hx hb hT u_MO hown hK hP 0 rfl rfl 19 (by decide) (hT _ k_1062) (fun _ h9 => h9) rfl d_MO_isBehind_2 ?_
  refine lv_iload_n hx hb d_MO_isBehind_5 rfl (lv_at hl 1 rfl) ?_
  by_cases c_1 : 0 ≤ p0 ∧ p0 < 800
  rotate_left
  · exact op_no hs (by rw [tw_MO_isBehind, if_neg c_1])
  refine va_iald hx hb hK hP 2 1 rfl rfl (in_pp c_1.1 c_1.2 rfl) d_MO_isBehind_6 ?_
  refine lv_aload_n hx hb d_MO_isBehind_7 rfl (lv_at hl 0 rfl) ?_
  refine va_get (D := D) (ci := 11) (v := .ref aMkat) (C := R_MO) (T := T_MO) (N := 29) hx hb hT u_MO hown hK hP 0 rfl rfl 20 (by decide) (hT _ k_1063) (fun _ h9 => h9) rfl d_MO_isBehind_8 ?_
  refine lv_iload_n hx hb d_MO_isBehind_11 rfl (lv_at hl 1 rfl) ?_
  refine va_iald hx hb hK hP 3 1 rfl rfl (in_pp c_1.1 c_1.2 rfl) d_MO_isBehind_12 ?_
  refine lv_aload_n hx hb d_MO_isBehind_13 rfl (lv_at hl 0 rfl) ?_
  refine va_get (D := D) (ci := 11) (v := .ref aMkkd) (C := R_MO) (T := T_MO) (N := 29) hx hb hT u_MO hown hK hP 0 rfl rfl 19 (by decide) (hT _ k_1062) (fun _ h9 => h9) rfl d_MO_isBehind_14 ?_
  refine lv_iload_n hx hb d_MO_isBehind_17 rfl (lv_at hl 2 rfl) ?_
  by_cases c_2 : 0 ≤ p1 ∧ p1 < 800
  rotate_left
  · exact op_no hs (by rw [tw_MO_isBehind, if_pos c_1, if_neg c_2])
  refine va_iald hx hb hK hP 2 1 rfl rfl (in_pp c_2.1 c_2.2 rfl) d_MO_isBehind_18 ?_
  refine lv_aload_n hx hb d_MO_isBehind_19 rfl (lv_at hl 0 rfl) ?_
  refine va_get (D := D) (ci := 11) (v := .ref aMkat) (C := R_MO) (T := T_MO) (N := 29) hx hb hT u_MO hown hK hP 0 rfl rfl 20 (by decide) (hT _ k_1063) (fun _ h9 => h9) rfl d_MO_isBehind_20 ?_
  refine lv_iload_n hx hb d_MO_isBehind_23 rfl (lv_at hl 2 rfl) ?_
  refine va_iald hx hb hK hP 3 1 rfl rfl (in_pp c_2.1 c_2.2 rfl) d_MO_isBehind_24 ?_
  rcases h_3 : tw_MO_ord0 fu st (kkd p0.toNatClampNeg) (kat p0.toNatClampNeg) (kkd p1.toNatClampNeg) (kat p1.toNatClampNeg) with _ | r_3
  · exact op_no hs (by rw [tw_MO_isBehind, if_pos c_1, if_pos c_2, h_3, ob1_no])
  refine rd_V (val := r_3) (As := [.int (kkd p0.toNatClampNeg), .int (kat p0.toNatClampNeg), .int (kkd p1.toNatClampNeg), .int (kat p1.toNatClampNeg)]) (rest := []) ⟨hx, hb, hml, hown, hT⟩ (c_tw_MO_ord0 l D cB cI aM aMst aMdcs aMtot aMfrm aMsiz aMffr aMfsz aMlkd aMlat aMkkd aMkat aModr aMgrp aMikd aMiat fu thr tpd frs frt top bgn mst ovr tgr lvs its hgh loo dfl st (kkd p0.toNatClampNeg) (kat p0.toNatClampNeg) (kkd p1.toNatClampNeg) (kat p1.toNatClampNeg) r_3 h_3) (cwV 4 hT (gV_of k_1408 k_1410 kp_MO_orderOf k_12 kc_MO_orderOf) rfl rfl rfl hd_MO_orderOf ⟨Nat.le_of_ble_eq_true rfl, Nat.le_of_ble_eq_true rfl⟩) hk (hP.sub (ws' := [(aM, .inr (11, [.int thr, .ref aMst, .int tpd, .ref aMdcs, .ref aMtot, .ref aMfrm, .ref aMsiz, .int frs, .int frt, .ref aMffr, .ref aMfsz, .int top, .int bgn, .int mst, .int (b2i ovr), .int (b2i tgr), .int lvs, .ref aMlkd, .ref aMlat, .ref aMkkd, .ref aMkat, .ref aModr, .ref aMgrp, .int its, .ref aMikd, .ref aMiat, .long hgh, .long loo, .int (b2i dfl)])), (aMst, .inl (cI, 136400, .inl st))]) [0, 1] rfl) (q0 := 0) rfl rfl rfl rfl hl.1 rfl (Nat.le_of_ble_eq_true rfl) d_MO_isBehind_25 ⟨Nat.zero_le _, Nat.zero_le _⟩ ?_
  refine lv_istore (lv' := [(4, .int r_3), (0, .ref aM), (1, .int p0), (2, .int p1), (3, .int p2)]) hx hb d_MO_isBehind_28 hl (by decide) rfl (fun ls hl => ?_)
  refine lv_iload_n hx hb d_MO_isBehind_30 rfl (lv_at hl 4 rfl) ?_
  refine lv_if_eq (tgt := 47) hx hb d_MO_isBehind_31 (by decide) (fun c_4 => ?_) (fun c_4 => ?_)
  · refine lv_iload hx hb d_MO_isBehind_47 (lv_at hl 0 rfl) ?_
    refine lv_if_ge (tgt := 56) hx hb d_MO_isBehind_49 (by decide) (fun c_5 => ?_) (fun c_5 => ?_)
    · refine lv_iconst (v := 0) hx hb d_MO_isBehind_56 (by decide) ?_
      exact W.zret (v := 0) (ty := .boolean) hx hb hr (rfl) (fun t ht hW => ⟨0, rfl, (op_b (x := false) hs (by rw [tw_MO_isBehind, if_pos c_1, if_pos c_2, h_3, ob1_mk, if_pos c_4, if_pos c_5])), ht⟩) (fun _ h => by cases h) d_MO_isBehind_57
    · refine lv_iconst (v := 1) hx hb d_MO_isBehind_52 (by decide) ?_
      refine lv_goto (tgt := 57) hx hb d_MO_isBehind_53 (by decide) ?_
      exact W.zret (v := 1) (ty := .boolean) hx hb hr (rfl) (fun t ht hW => ⟨1, rfl, (op_b (x := true) hs (by rw [tw_MO_isBehind, if_pos c_1, if_pos c_2, h_3, ob1_mk, if_pos c_4, if_neg c_5])), ht⟩) (fun _ h => by cases h) d_MO_isBehind_57
  · refine lv_iload hx hb d_MO_isBehind_34 (lv_at hl 0 rfl) ?_
    refine lv_if_le (tgt := 43) hx hb d_MO_isBehind_36 (by decide) (fun c_6 => ?_) (fun c_6 => ?_)
    · refine lv_iconst (v := 0) hx hb d_MO_isBehind_43 (by decide) ?_
      refine lv_goto (tgt := 57) hx hb d_MO_isBehind_44 (by decide) ?_
      exact W.zret (v := 0) (ty := .boolean) hx hb hr (rfl) (fun t ht hW => ⟨0, rfl, (op_b (x := false) hs (by rw [tw_MO_isBehind, if_pos c_1, if_pos c_2, h_3, ob1_mk, if_neg c_4, if_pos c_6])), ht⟩) (fun _ h => by cases h) d_MO_isBehind_57
    · refine lv_iconst (v := 1) hx hb d_MO_isBehind_39 (by decide) ?_
      refine lv_goto (tgt := 57) hx hb d_MO_isBehind_40 (by decide) ?_
      exact W.zret (v := 1) (ty := .boolean) hx hb hr (rfl) (fun t ht hW => ⟨1, rfl, (op_b (x := true) hs (by rw [tw_MO_isBehind, if_pos c_1, if_pos c_2, h_3, ob1_mk, if_neg c_4, if_neg c_6])), ht⟩) (fun _ h => by cases h) d_MO_isBehind_57
