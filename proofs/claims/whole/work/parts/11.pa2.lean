/-! printed by wip/gen -/
theorem k_350 : (Jvm.Cond.instanceMethod ({ cls := "PipelineBelt$Store", name := "write", desc := "(II)V" } : Jvm.MethodName)) ∈ lw_g := lw_gm (List.mem_append_right _ (List.mem_of_getElem? (i := 350) (by decide +kernel))) rfl
theorem k_351 : (Jvm.Cond.selects "PipelineBelt$Store" ({ cls := "PipelineBelt$Store", name := "write", desc := "(II)V" } : Jvm.MethodName) ({ cls := "PipelineBelt$Store", name := "write", desc := "(II)V" } : Jvm.MethodName)) ∈ lw_g := lw_gm (List.mem_append_right _ (List.mem_of_getElem? (i := 351) (by decide +kernel))) rfl
theorem k_598 : (Jvm.Cond.instanceMethod ({ cls := "PipelineBelt$Writer", name := "open", desc := "()I" } : Jvm.MethodName)) ∈ lw_g := lw_gm (List.mem_append_right _ (List.mem_of_getElem? (i := 598) (by decide +kernel))) rfl
theorem k_599 : (Jvm.Cond.selects "PipelineBelt$Writer" ({ cls := "PipelineBelt$Writer", name := "open", desc := "()I" } : Jvm.MethodName) ({ cls := "PipelineBelt$Writer", name := "open", desc := "()I" } : Jvm.MethodName)) ∈ lw_g := lw_gm (List.mem_append_right _ (List.mem_of_getElem? (i := 599) (by decide +kernel))) rfl
theorem k_623 : (Jvm.Cond.instanceMethod ({ cls := "PipelineBelt$Path", name := "value", desc := "(II)I" } : Jvm.MethodName)) ∈ lw_g := lw_gm (List.mem_append_right _ (List.mem_of_getElem? (i := 623) (by decide +kernel))) rfl
theorem k_624 : (Jvm.Cond.selects "PipelineBelt$Path" ({ cls := "PipelineBelt$Path", name := "value", desc := "(II)I" } : Jvm.MethodName) ({ cls := "PipelineBelt$Path", name := "value", desc := "(II)I" } : Jvm.MethodName)) ∈ lw_g := lw_gm (List.mem_append_right _ (List.mem_of_getElem? (i := 624) (by decide +kernel))) rfl
theorem k_626 : (Jvm.Cond.methodLink "PipelineBelt$Path" (90 : Nat) ({ cls := "java/lang/Math", name := "max", desc := "(II)I" } : Jvm.MethodName)) ∈ lw_g := lw_gm (List.mem_append_right _ (List.mem_of_getElem? (i := 626) (by decide +kernel))) rfl
theorem k_629 : (Jvm.Cond.methodLink "PipelineBelt$Path" (95 : Nat) ({ cls := "PipelineBelt$Path", name := "rowOfValues", desc := "(II)I" } : Jvm.MethodName)) ∈ lw_g := lw_gm (List.mem_append_right _ (List.mem_of_getElem? (i := 629) (by decide +kernel))) rfl
theorem k_631 : (Jvm.Cond.instanceMethod ({ cls := "PipelineBelt$Path", name := "rowOfValues", desc := "(II)I" } : Jvm.MethodName)) ∈ lw_g := lw_gm (List.mem_append_right _ (List.mem_of_getElem? (i := 631) (by decide +kernel))) rfl
theorem k_633 : (Jvm.Cond.methodLink "PipelineBelt$Path" (98 : Nat) ({ cls := "PipelineBelt$Writer", name := "open", desc := "()I" } : Jvm.MethodName)) ∈ lw_g := lw_gm (List.mem_append_right _ (List.mem_of_getElem? (i := 633) (by decide +kernel))) rfl
theorem k_635 : (Jvm.Cond.methodLink "PipelineBelt$Path" (108 : Nat) ({ cls := "PipelineBelt$Writer", name := "index", desc := "(II)V" } : Jvm.MethodName)) ∈ lw_g := lw_gm (List.mem_append_right _ (List.mem_of_getElem? (i := 635) (by decide +kernel))) rfl
theorem k_636 : (Jvm.Cond.instanceMethod ({ cls := "PipelineBelt$Writer", name := "index", desc := "(II)V" } : Jvm.MethodName)) ∈ lw_g := lw_gm (List.mem_append_right _ (List.mem_of_getElem? (i := 636) (by decide +kernel))) rfl
theorem k_637 : (Jvm.Cond.selects "PipelineBelt$Writer" ({ cls := "PipelineBelt$Writer", name := "index", desc := "(II)V" } : Jvm.MethodName) ({ cls := "PipelineBelt$Writer", name := "index", desc := "(II)V" } : Jvm.MethodName)) ∈ lw_g := lw_gm (List.mem_append_right _ (List.mem_of_getElem? (i := 637) (by decide +kernel))) rfl
theorem k_639 : (Jvm.Cond.methodLink "PipelineBelt$Path" (111 : Nat) ({ cls := "PipelineBelt$Path", name := "value", desc := "(II)I" } : Jvm.MethodName)) ∈ lw_g := lw_gm (List.mem_append_right _ (List.mem_of_getElem? (i := 639) (by decide +kernel))) rfl
theorem k_640 : (Jvm.Cond.methodLink "PipelineBelt$Path" (114 : Nat) ({ cls := "PipelineBelt$Store", name := "write", desc := "(II)V" } : Jvm.MethodName)) ∈ lw_g := lw_gm (List.mem_append_right _ (List.mem_of_getElem? (i := 640) (by decide +kernel))) rfl
theorem k_641 : (Jvm.Cond.methodLink "PipelineBelt$Path" (117 : Nat) ({ cls := "PipelineBelt$Writer", name := "copy", desc := "(II)V" } : Jvm.MethodName)) ∈ lw_g := lw_gm (List.mem_append_right _ (List.mem_of_getElem? (i := 641) (by decide +kernel))) rfl
theorem k_642 : (Jvm.Cond.methodLink "PipelineBelt$Path" (120 : Nat) ({ cls := "PipelineBelt$Writer", name := "close", desc := "(I)V" } : Jvm.MethodName)) ∈ lw_g := lw_gm (List.mem_append_right _ (List.mem_of_getElem? (i := 642) (by decide +kernel))) rfl
theorem k_643 : (Jvm.Cond.instanceMethod ({ cls := "PipelineBelt$Writer", name := "close", desc := "(I)V" } : Jvm.MethodName)) ∈ lw_g := lw_gm (List.mem_append_right _ (List.mem_of_getElem? (i := 643) (by decide +kernel))) rfl
theorem k_644 : (Jvm.Cond.selects "PipelineBelt$Writer" ({ cls := "PipelineBelt$Writer", name := "close", desc := "(I)V" } : Jvm.MethodName) ({ cls := "PipelineBelt$Writer", name := "close", desc := "(I)V" } : Jvm.MethodName)) ∈ lw_g := lw_gm (List.mem_append_right _ (List.mem_of_getElem? (i := 644) (by decide +kernel))) rfl
theorem k_650 : (Jvm.Cond.methodLink "PipelineBelt$Path" (124 : Nat) ({ cls := "PipelineBelt$Store", name := "ref", desc := "(II)I" } : Jvm.MethodName)) ∈ lw_g := lw_gm (List.mem_append_right _ (List.mem_of_getElem? (i := 650) (by decide +kernel))) rfl
abbrev b_PA_rowOfValues : ByteArray := prog_7_method_11_code
def y_PA_rowOfValues : MethodName := ⟨R_PA, "rowOfValues", "(II)I"⟩
theorem kc_PA_rowOfValues : Cond.code y_PA_rowOfValues b_PA_rowOfValues 12 (some .int) ∈ lw_g := lw_gm (List.mem_append_right _ (List.mem_of_getElem? (i := 632) (by decide +kernel))) rfl
abbrev mw_PA_rowOfValues : List Cond := Cond.code y_PA_rowOfValues b_PA_rowOfValues 12 (some .int) :: lw_g
theorem hd_PA_rowOfValues : y_PA_rowOfValues.cls = R_PA ∧ y_PA_rowOfValues.cls ≠ "java/lang/invoke/MethodHandle" ∧ y_PA_rowOfValues.cls ≠ "java/lang/invoke/VarHandle" ∧ (parseMethodDescriptor y_PA_rowOfValues.desc).map (fun d => d.parameters.length) = some 2 := by decide +kernel
theorem kp_PA_rowOfValues : Cond.selects R_PA y_PA_rowOfValues y_PA_rowOfValues ∈ lw_g := lw_gm (List.mem_append_left _ (by decide +kernel)) rfl
theorem d_PA_rowOfValues_0 : decode b_PA_rowOfValues 0 = .ok (.aload_n 0, 1) := by decide +kernel
theorem d_PA_rowOfValues_1 : decode b_PA_rowOfValues 1 = .ok (.getfield 39, 3) := by decide +kernel
theorem d_PA_rowOfValues_4 : decode b_PA_rowOfValues 4 = .ok (.invokevirtual 98, 3) := by decide +kernel
theorem d_PA_rowOfValues_7 : decode b_PA_rowOfValues 7 = .ok (.istore_n 3, 1) := by decide +kernel
theorem d_PA_rowOfValues_8 : decode b_PA_rowOfValues 8 = .ok (.aload_n 0, 1) := by decide +kernel
theorem d_PA_rowOfValues_9 : decode b_PA_rowOfValues 9 = .ok (.getfield 30, 3) := by decide +kernel
theorem d_PA_rowOfValues_12 : decode b_PA_rowOfValues 12 = .ok (.iload_n 1, 1) := by decide +kernel
theorem d_PA_rowOfValues_13 : decode b_PA_rowOfValues 13 = .ok (.invokevirtual 64, 3) := by decide +kernel
theorem d_PA_rowOfValues_16 : decode b_PA_rowOfValues 16 = .ok (.iconst 1, 1) := by decide +kernel
theorem d_PA_rowOfValues_17 : decode b_PA_rowOfValues 17 = .ok (.isub, 1) := by decide +kernel
theorem d_PA_rowOfValues_18 : decode b_PA_rowOfValues 18 = .ok (.istore 4, 2) := by decide +kernel
theorem d_PA_rowOfValues_20 : decode b_PA_rowOfValues 20 = .ok (.iload_n 1, 1) := by decide +kernel
theorem d_PA_rowOfValues_21 : decode b_PA_rowOfValues 21 = .ok (.invokestatic 61, 3) := by decide +kernel
theorem d_PA_rowOfValues_24 : decode b_PA_rowOfValues 24 = .ok (.iconst 4, 1) := by decide +kernel
theorem d_PA_rowOfValues_25 : decode b_PA_rowOfValues 25 = .ok (.iadd, 1) := by decide +kernel
theorem d_PA_rowOfValues_26 : decode b_PA_rowOfValues 26 = .ok (.istore 5, 2) := by decide +kernel
theorem d_PA_rowOfValues_28 : decode b_PA_rowOfValues 28 = .ok (.iconst 0, 1) := by decide +kernel
theorem d_PA_rowOfValues_29 : decode b_PA_rowOfValues 29 = .ok (.istore 6, 2) := by decide +kernel
theorem d_PA_rowOfValues_31 : decode b_PA_rowOfValues 31 = .ok (.iconst 0, 1) := by decide +kernel
theorem d_PA_rowOfValues_32 : decode b_PA_rowOfValues 32 = .ok (.istore 7, 2) := by decide +kernel
theorem d_PA_rowOfValues_34 : decode b_PA_rowOfValues 34 = .ok (.iload 7, 2) := by decide +kernel
theorem d_PA_rowOfValues_36 : decode b_PA_rowOfValues 36 = .ok (.sipush 1000, 3) := by decide +kernel
theorem d_PA_rowOfValues_39 : decode b_PA_rowOfValues 39 = .ok (.if_icmp .ge 149, 3) := by decide +kernel
theorem d_PA_rowOfValues_42 : decode b_PA_rowOfValues 42 = .ok (.iload 5, 2) := by decide +kernel
theorem d_PA_rowOfValues_44 : decode b_PA_rowOfValues 44 = .ok (.iload 4, 2) := by decide +kernel
theorem d_PA_rowOfValues_46 : decode b_PA_rowOfValues 46 = .ok (.if_icmp .ge 142, 3) := by decide +kernel
theorem d_PA_rowOfValues_49 : decode b_PA_rowOfValues 49 = .ok (.aload_n 0, 1) := by decide +kernel
theorem d_PA_rowOfValues_50 : decode b_PA_rowOfValues 50 = .ok (.getfield 30, 3) := by decide +kernel
theorem d_PA_rowOfValues_53 : decode b_PA_rowOfValues 53 = .ok (.iload 5, 2) := by decide +kernel
theorem d_PA_rowOfValues_55 : decode b_PA_rowOfValues 55 = .ok (.invokevirtual 102, 3) := by decide +kernel
theorem d_PA_rowOfValues_58 : decode b_PA_rowOfValues 58 = .ok (.istore 8, 2) := by decide +kernel
theorem d_PA_rowOfValues_60 : decode b_PA_rowOfValues 60 = .ok (.iload 8, 2) := by decide +kernel
theorem d_PA_rowOfValues_62 : decode b_PA_rowOfValues 62 = .ok (.invokestatic 78, 3) := by decide +kernel
theorem d_PA_rowOfValues_65 : decode b_PA_rowOfValues 65 = .ok (.iconst 3, 1) := by decide +kernel
theorem d_PA_rowOfValues_66 : decode b_PA_rowOfValues 66 = .ok (.if_icmp .ne 105, 3) := by decide +kernel
theorem d_PA_rowOfValues_69 : decode b_PA_rowOfValues 69 = .ok (.aload_n 0, 1) := by decide +kernel
theorem d_PA_rowOfValues_70 : decode b_PA_rowOfValues 70 = .ok (.getfield 39, 3) := by decide +kernel
theorem d_PA_rowOfValues_73 : decode b_PA_rowOfValues 73 = .ok (.getfield 105, 3) := by decide +kernel
theorem d_PA_rowOfValues_76 : decode b_PA_rowOfValues 76 = .ok (.istore 9, 2) := by decide +kernel
theorem d_PA_rowOfValues_78 : decode b_PA_rowOfValues 78 = .ok (.aload_n 0, 1) := by decide +kernel
theorem d_PA_rowOfValues_79 : decode b_PA_rowOfValues 79 = .ok (.getfield 39, 3) := by decide +kernel
theorem d_PA_rowOfValues_82 : decode b_PA_rowOfValues 82 = .ok (.iconst 4, 1) := by decide +kernel
theorem d_PA_rowOfValues_83 : decode b_PA_rowOfValues 83 = .ok (.iload 6, 2) := by decide +kernel
theorem d_PA_rowOfValues_85 : decode b_PA_rowOfValues 85 = .ok (.invokevirtual 108, 3) := by decide +kernel
theorem d_PA_rowOfValues_88 : decode b_PA_rowOfValues 88 = .ok (.aload_n 0, 1) := by decide +kernel
theorem d_PA_rowOfValues_89 : decode b_PA_rowOfValues 89 = .ok (.getfield 39, 3) := by decide +kernel
theorem d_PA_rowOfValues_92 : decode b_PA_rowOfValues 92 = .ok (.getfield 105, 3) := by decide +kernel
theorem d_PA_rowOfValues_95 : decode b_PA_rowOfValues 95 = .ok (.istore 10, 2) := by decide +kernel
theorem d_PA_rowOfValues_97 : decode b_PA_rowOfValues 97 = .ok (.aload_n 0, 1) := by decide +kernel
theorem d_PA_rowOfValues_98 : decode b_PA_rowOfValues 98 = .ok (.iload 8, 2) := by decide +kernel
theorem d_PA_rowOfValues_100 : decode b_PA_rowOfValues 100 = .ok (.iload_n 2, 1) := by decide +kernel
theorem d_PA_rowOfValues_101 : decode b_PA_rowOfValues 101 = .ok (.invokevirtual 111, 3) := by decide +kernel
theorem d_PA_rowOfValues_104 : decode b_PA_rowOfValues 104 = .ok (.istore 11, 2) := by decide +kernel
theorem d_PA_rowOfValues_106 : decode b_PA_rowOfValues 106 = .ok (.iload 11, 2) := by decide +kernel
theorem d_PA_rowOfValues_108 : decode b_PA_rowOfValues 108 = .ok (.ifCond .ne 15, 3) := by decide +kernel
theorem d_PA_rowOfValues_111 : decode b_PA_rowOfValues 111 = .ok (.aload_n 0, 1) := by decide +kernel
theorem d_PA_rowOfValues_112 : decode b_PA_rowOfValues 112 = .ok (.getfield 39, 3) := by decide +kernel
theorem d_PA_rowOfValues_115 : decode b_PA_rowOfValues 115 = .ok (.iload 9, 2) := by decide +kernel
theorem d_PA_rowOfValues_117 : decode b_PA_rowOfValues 117 = .ok (.putfield 105, 3) := by decide +kernel
theorem d_PA_rowOfValues_120 : decode b_PA_rowOfValues 120 = .ok (.goto 51, 3) := by decide +kernel
theorem d_PA_rowOfValues_123 : decode b_PA_rowOfValues 123 = .ok (.iinc 6 1, 3) := by decide +kernel
theorem d_PA_rowOfValues_126 : decode b_PA_rowOfValues 126 = .ok (.iload 11, 2) := by decide +kernel
theorem d_PA_rowOfValues_128 : decode b_PA_rowOfValues 128 = .ok (.invokestatic 61, 3) := by decide +kernel
theorem d_PA_rowOfValues_131 : decode b_PA_rowOfValues 131 = .ok (.iload 10, 2) := by decide +kernel
theorem d_PA_rowOfValues_133 : decode b_PA_rowOfValues 133 = .ok (.if_icmp .eq 38, 3) := by decide +kernel
theorem d_PA_rowOfValues_136 : decode b_PA_rowOfValues 136 = .ok (.aload_n 0, 1) := by decide +kernel
theorem d_PA_rowOfValues_137 : decode b_PA_rowOfValues 137 = .ok (.getfield 30, 3) := by decide +kernel
theorem d_PA_rowOfValues_140 : decode b_PA_rowOfValues 140 = .ok (.iload 9, 2) := by decide +kernel
theorem d_PA_rowOfValues_142 : decode b_PA_rowOfValues 142 = .ok (.iload 11, 2) := by decide +kernel
theorem d_PA_rowOfValues_144 : decode b_PA_rowOfValues 144 = .ok (.invokestatic 78, 3) := by decide +kernel
theorem d_PA_rowOfValues_147 : decode b_PA_rowOfValues 147 = .ok (.invokevirtual 114, 3) := by decide +kernel
theorem d_PA_rowOfValues_150 : decode b_PA_rowOfValues 150 = .ok (.aload_n 0, 1) := by decide +kernel
theorem d_PA_rowOfValues_151 : decode b_PA_rowOfValues 151 = .ok (.getfield 39, 3) := by decide +kernel
theorem d_PA_rowOfValues_154 : decode b_PA_rowOfValues 154 = .ok (.iload 11, 2) := by decide +kernel
theorem d_PA_rowOfValues_156 : decode b_PA_rowOfValues 156 = .ok (.invokestatic 61, 3) := by decide +kernel
theorem d_PA_rowOfValues_159 : decode b_PA_rowOfValues 159 = .ok (.aload_n 0, 1) := by decide +kernel
theorem d_PA_rowOfValues_160 : decode b_PA_rowOfValues 160 = .ok (.getfield 30, 3) := by decide +kernel
theorem d_PA_rowOfValues_163 : decode b_PA_rowOfValues 163 = .ok (.iload 11, 2) := by decide +kernel
theorem d_PA_rowOfValues_165 : decode b_PA_rowOfValues 165 = .ok (.invokevirtual 64, 3) := by decide +kernel
theorem d_PA_rowOfValues_168 : decode b_PA_rowOfValues 168 = .ok (.invokevirtual 117, 3) := by decide +kernel
theorem d_PA_rowOfValues_171 : decode b_PA_rowOfValues 171 = .ok (.aload_n 0, 1) := by decide +kernel
theorem d_PA_rowOfValues_172 : decode b_PA_rowOfValues 172 = .ok (.getfield 30, 3) := by decide +kernel
theorem d_PA_rowOfValues_175 : decode b_PA_rowOfValues 175 = .ok (.iload 8, 2) := by decide +kernel
theorem d_PA_rowOfValues_177 : decode b_PA_rowOfValues 177 = .ok (.invokevirtual 64, 3) := by decide +kernel
theorem d_PA_rowOfValues_180 : decode b_PA_rowOfValues 180 = .ok (.istore 5, 2) := by decide +kernel
theorem d_PA_rowOfValues_182 : decode b_PA_rowOfValues 182 = .ok (.iinc 7 1, 3) := by decide +kernel
theorem d_PA_rowOfValues_185 : decode b_PA_rowOfValues 185 = .ok (.goto (-151), 3) := by decide +kernel
theorem d_PA_rowOfValues_188 : decode b_PA_rowOfValues 188 = .ok (.aload_n 0, 1) := by decide +kernel
theorem d_PA_rowOfValues_189 : decode b_PA_rowOfValues 189 = .ok (.getfield 39, 3) := by decide +kernel
theorem d_PA_rowOfValues_192 : decode b_PA_rowOfValues 192 = .ok (.iload_n 3, 1) := by decide +kernel
theorem d_PA_rowOfValues_193 : decode b_PA_rowOfValues 193 = .ok (.invokevirtual 120, 3) := by decide +kernel
theorem d_PA_rowOfValues_196 : decode b_PA_rowOfValues 196 = .ok (.iconst 4, 1) := by decide +kernel
theorem d_PA_rowOfValues_197 : decode b_PA_rowOfValues 197 = .ok (.iload_n 3, 1) := by decide +kernel
theorem d_PA_rowOfValues_198 : decode b_PA_rowOfValues 198 = .ok (.invokestatic 124, 3) := by decide +kernel
theorem d_PA_rowOfValues_201 : decode b_PA_rowOfValues 201 = .ok (.ireturn, 1) := by decide +kernel
abbrev b_PA_value : ByteArray := prog_7_method_10_code
def y_PA_value : MethodName := ⟨R_PA, "value", "(II)I"⟩
theorem kc_PA_value : Cond.code y_PA_value b_PA_value 6 (some .int) ∈ lw_g := lw_gm (List.mem_append_right _ (List.mem_of_getElem? (i := 625) (by decide +kernel))) rfl
abbrev mw_PA_value : List Cond := Cond.code y_PA_value b_PA_value 6 (some .int) :: lw_g
theorem hd_PA_value : y_PA_value.cls = R_PA ∧ y_PA_value.cls ≠ "java/lang/invoke/MethodHandle" ∧ y_PA_value.cls ≠ "java/lang/invoke/VarHandle" ∧ (parseMethodDescriptor y_PA_value.desc).map (fun d => d.parameters.length) = some 2 := by decide +kernel
theorem d_PA_value_0 : decode b_PA_value 0 = .ok (.aload_n 0, 1) := by decide +kernel
theorem d_PA_value_1 : decode b_PA_value 1 = .ok (.getfield 43, 3) := by decide +kernel
theorem d_PA_value_4 : decode b_PA_value 4 = .ok (.ifCond .eq 8, 3) := by decide +kernel
theorem d_PA_value_7 : decode b_PA_value 7 = .ok (.aload_n 0, 1) := by decide +kernel
theorem d_PA_value_8 : decode b_PA_value 8 = .ok (.getfield 75, 3) := by decide +kernel
theorem d_PA_value_11 : decode b_PA_value 11 = .ok (.ireturn, 1) := by decide +kernel
theorem d_PA_value_12 : decode b_PA_value 12 = .ok (.iload_n 1, 1) := by decide +kernel
theorem d_PA_value_13 : decode b_PA_value 13 = .ok (.istore_n 3, 1) := by decide +kernel
theorem d_PA_value_14 : decode b_PA_value 14 = .ok (.iload_n 2, 1) := by decide +kernel
theorem d_PA_value_15 : decode b_PA_value 15 = .ok (.iconst 0, 1) := by decide +kernel
theorem d_PA_value_16 : decode b_PA_value 16 = .ok (.invokestatic 90, 3) := by decide +kernel
theorem d_PA_value_19 : decode b_PA_value 19 = .ok (.istore 4, 2) := by decide +kernel
theorem d_PA_value_21 : decode b_PA_value 21 = .ok (.iload 4, 2) := by decide +kernel
theorem d_PA_value_23 : decode b_PA_value 23 = .ok (.aload_n 0, 1) := by decide +kernel
theorem d_PA_value_24 : decode b_PA_value 24 = .ok (.getfield 47, 3) := by decide +kernel
theorem d_PA_value_27 : decode b_PA_value 27 = .ok (.if_icmp .ge 67, 3) := by decide +kernel
theorem d_PA_value_30 : decode b_PA_value 30 = .ok (.iload 4, 2) := by decide +kernel
theorem d_PA_value_32 : decode b_PA_value 32 = .ok (.bipush 8, 2) := by decide +kernel
theorem d_PA_value_34 : decode b_PA_value 34 = .ok (.if_icmp .ge 60, 3) := by decide +kernel
theorem d_PA_value_37 : decode b_PA_value 37 = .ok (.iload_n 3, 1) := by decide +kernel
theorem d_PA_value_38 : decode b_PA_value 38 = .ok (.invokestatic 78, 3) := by decide +kernel
theorem d_PA_value_41 : decode b_PA_value 41 = .ok (.istore 5, 2) := by decide +kernel
theorem d_PA_value_43 : decode b_PA_value 43 = .ok (.iload 5, 2) := by decide +kernel
theorem d_PA_value_45 : decode b_PA_value 45 = .ok (.iconst 4, 1) := by decide +kernel
theorem d_PA_value_46 : decode b_PA_value 46 = .ok (.if_icmp .ne 11, 3) := by decide +kernel
theorem d_PA_value_49 : decode b_PA_value 49 = .ok (.aload_n 0, 1) := by decide +kernel
theorem d_PA_value_50 : decode b_PA_value 50 = .ok (.iload_n 3, 1) := by decide +kernel
theorem d_PA_value_51 : decode b_PA_value 51 = .ok (.iload 4, 2) := by decide +kernel
theorem d_PA_value_53 : decode b_PA_value 53 = .ok (.invokevirtual 95, 3) := by decide +kernel
theorem d_PA_value_56 : decode b_PA_value 56 = .ok (.ireturn, 1) := by decide +kernel
theorem d_PA_value_57 : decode b_PA_value 57 = .ok (.iload 5, 2) := by decide +kernel
theorem d_PA_value_59 : decode b_PA_value 59 = .ok (.iconst 3, 1) := by decide +kernel
theorem d_PA_value_60 : decode b_PA_value 60 = .ok (.if_icmp .eq 5, 3) := by decide +kernel
theorem d_PA_value_63 : decode b_PA_value 63 = .ok (.iconst 0, 1) := by decide +kernel
theorem d_PA_value_64 : decode b_PA_value 64 = .ok (.ireturn, 1) := by decide +kernel
theorem d_PA_value_65 : decode b_PA_value 65 = .ok (.aload_n 0, 1) := by decide +kernel
theorem d_PA_value_66 : decode b_PA_value 66 = .ok (.getfield 30, 3) := by decide +kernel
theorem d_PA_value_69 : decode b_PA_value 69 = .ok (.iload_n 3, 1) := by decide +kernel
theorem d_PA_value_70 : decode b_PA_value 70 = .ok (.aload_n 0, 1) := by decide +kernel
theorem d_PA_value_71 : decode b_PA_value 71 = .ok (.getfield 9, 3) := by decide +kernel
theorem d_PA_value_74 : decode b_PA_value 74 = .ok (.iload 4, 2) := by decide +kernel
theorem d_PA_value_76 : decode b_PA_value 76 = .ok (.iaload, 1) := by decide +kernel
theorem d_PA_value_77 : decode b_PA_value 77 = .ok (.aload_n 0, 1) := by decide +kernel
theorem d_PA_value_78 : decode b_PA_value 78 = .ok (.getfield 15, 3) := by decide +kernel
theorem d_PA_value_81 : decode b_PA_value 81 = .ok (.iload 4, 2) := by decide +kernel
theorem d_PA_value_83 : decode b_PA_value 83 = .ok (.iaload, 1) := by decide +kernel
theorem d_PA_value_84 : decode b_PA_value 84 = .ok (.invokevirtual 81, 3) := by decide +kernel
theorem d_PA_value_87 : decode b_PA_value 87 = .ok (.istore_n 3, 1) := by decide +kernel
theorem d_PA_value_88 : decode b_PA_value 88 = .ok (.iinc 4 1, 3) := by decide +kernel
theorem d_PA_value_91 : decode b_PA_value 91 = .ok (.goto (-70), 3) := by decide +kernel
theorem d_PA_value_94 : decode b_PA_value 94 = .ok (.iload_n 3, 1) := by decide +kernel
theorem d_PA_value_95 : decode b_PA_value 95 = .ok (.ireturn, 1) := by decide +kernel
abbrev wd_PV (aP aS aV aPs aPe aPi aPh aPl aPn aB : Nat) (cB cI : ClassId) (pcnt : Int32) (pfix : Bool) (pown : Int32) (plc : Int32) (psr : Int32) (pbs : Int32) (pms : Bool) (pst : Nat → Int32) (pen : Nat → Int32) (vplace : Int32) (vlimit : Int32) (vfull : Bool) (b : Nat → UInt8) : va_W := [(aP, .inr (5, [.ref aS, .ref aV, .ref aPs, .ref aPe, .ref aPi, .ref aPh, .int pcnt, .int (b2i pfix), .int pown, .ref aPl, .ref aPn, .int plc, .int psr, .int pbs, .int (b2i pms)])), (aV, .inr (1, [.ref aS, .int vplace, .int vlimit, .int (b2i vfull)])), (aS, .inr (0, [.ref aB])), (aB, .inl (cB, 202000, .inl (by_ b))), (aPs, .inl (cI, 8, .inl pst)), (aPe, .inl (cI, 8, .inl pen))]
abbrev wd_PA_rowOfValues (aP aS aV aPs aPe aPi aPh aPl aPn aB : Nat) (cB cI : ClassId) (pcnt : Int32) (pfix : Bool) (pown : Int32) (plc : Int32) (psr : Int32) (pbs : Int32) (pms : Bool) (pst : Nat → Int32) (pen : Nat → Int32) (vplace : Int32) (vlimit : Int32) (vfull : Bool) (b : Nat → UInt8) : va_W := [(aP, .inr (5, [.ref aS, .ref aV, .ref aPs, .ref aPe, .ref aPi, .ref aPh, .int pcnt, .int (b2i pfix), .int pown, .ref aPl, .ref aPn, .int plc, .int psr, .int pbs, .int (b2i pms)])), (aV, .inr (1, [.ref aS, .int vplace, .int vlimit, .int (b2i vfull)])), (aS, .inr (0, [.ref aB])), (aB, .inl (cB, 202000, .inl (by_ b))), (aPs, .inl (cI, 8, .inl pst)), (aPe, .inl (cI, 8, .inl pen))]
set_option maxHeartbeats 4000000 in
set_option maxRecDepth 100000 in
theorem l_PA_rowOfValues_h34 {p : Program} {e : Env} {s : State} {m : MethodId} {args : Array Value} {below : List Frame} {meth : Method} {c : Code} {V : Int32 × Int32 × Int32 × Bool × (Nat → UInt8)} (C0 : lc_C p s m meth c args b_PA_rowOfValues 12 (some .int) R_PA lw_g) (l : Launch) (D : va_G) (cB cI : ClassId) (aP aS aV aPs aPe aPi aPh aPl aPn aB : Nat) (rF : Nat) (rL : Nat) (L9 : Int32) (U9 : Bool) (A9 : Int32) (fv : Int32 → Int32 → Bool → (Nat → UInt8) → Int32 → Int32 × Int32 × Int32 × Bool × (Nat → UInt8)) (pcnt : Int32) (pfix : Bool) (pown : Int32) (plc : Int32) (psr : Int32) (pbs : Int32) (pms : Bool) (pst : Nat → Int32) (pen : Nat → Int32) {A : Nat → Prop} (hk : hk_ D cB cI s) (hA : ∀ q : Nat, s.heap.size ≤ q → A q) (p1 : Int32) (x3 : Int32) (x4 : Int32) (hv : ∀ (LL : Int32) (UU : Bool) (AA : Int32), ∀ (sz : Nat) (vplace : Int32) (vlimit : Int32) (vfull : Bool) (b : Nat → UInt8) (x : Int32) (_ : tw_ST_kindOf x = 3), w_okr LL UU AA vplace vlimit vfull → Met l y_PA_value mw_PA_value { frames := rF, cells := 0, slots := 0, locals := rL } (va_Pc [.ref aP, .int x, .int p1] (mt_P D cB cI (wd_PV aP aS aV aPs aPe aPi aPh aPl aPn aB cB cI pcnt pfix pown plc psr pbs pms pst pen vplace vlimit vfull b) sz)) (va_Qi (fun (r : Int32) (u : Int32 × Int32 × Bool × (Nat → UInt8)) => (r, u) = fv vplace vlimit vfull b x ∧ w_okr LL UU AA u.1 u.2.1 u.2.2.1) (mt_B D (va_A (wd_PV aP aS aV aPs aPe aPi aPh aPl aPn aB cB cI pcnt pfix pown plc psr pbs pms pst pen vplace vlimit vfull b) sz) (fun u => wd_PV aP aS aV aPs aPe aPi aPh aPl aPn aB cB cI pcnt pfix pown plc psr pbs pms pst pen u.1 u.2.1 u.2.2.1 u.2.2.2)) (va_A (wd_PV aP aS aV aPs aPe aPi aPh aPl aPn aB cB cI pcnt pfix pown plc psr pbs pms pst pen vplace vlimit vfull b) sz)) 0 0 (va_A (wd_PV aP aS aV aPs aPe aPi aPh aPl aPn aB cB cI pcnt pfix pown plc psr pbs pms pst pen vplace vlimit vfull b) sz)) : ∀ (n : Nat) (x5 : Int32) (x6 : Int32) (x7 : Int32) (vplace : Int32) (vlimit : Int32) (vfull : Bool) (b : Nat → UInt8), ((1000 : Int32).toInt - x7.toInt).toNat < n → w_okr L9 U9 A9 vplace vlimit vfull → V = tw_PA_rowOfValues_h34 fv p1 x3 x4 n x5 x6 x7 vplace vlimit vfull b → ∀ (H : Heap) (locs : List Loc), va_P D vwCl [(aP, .inr (5, [.ref aS, .ref aV, .ref aPs, .ref aPe, .ref aPi, .ref aPh, .int pcnt, .int (b2i pfix), .int pown, .ref aPl, .ref aPn, .int plc, .int psr, .int pbs, .int (b2i pms)])), (aV, .inr (1, [.ref aS, .int vplace, .int vlimit, .int (b2i vfull)])), (aS, .inr (0, [.ref aB])), (aB, .inl (cB, 202000, .inl (by_ b))), (aPs, .inl (cI, 8, .inl pst)), (aPe, .inl (cI, 8, .inl pen))] H → va_D A [(aP, .inr (5, [.ref aS, .ref aV, .ref aPs, .ref aPe, .ref aPi, .ref aPh, .int pcnt, .int (b2i pfix), .int pown, .ref aPl, .ref aPn, .int plc, .int psr, .int pbs, .int (b2i pms)])), (aV, .inr (1, [.ref aS, .int vplace, .int vlimit, .int (b2i vfull)])), (aS, .inr (0, [.ref aB])), (aB, .inl (cB, 202000, .inl (by_ b))), (aPs, .inl (cI, 8, .inl pst)), (aPe, .inl (cI, 8, .inl pen))] → va_S A s.heap H locs → ∀ ls : Array Slot, lv_has ls 12 [(0, .ref aP), (2, .int p1), (3, .int x3), (4, .int x4), (5, .int x5), (6, .int x6), (7, .int x7)] → W p l e ({ frames := rF + 5, cells := 0, slots := 0, locals := rL + 120 }) s m args below meth c H locs 0 0 (MQ below (va_Qi (fun (r : Int32) (u : Int32 × Int32 × Bool × (Nat → UInt8)) => (r, u) = V ∧ w_okr L9 U9 A9 u.1 u.2.1 u.2.2.1) (mt_B D A (fun u => wd_PA_rowOfValues aP aS aV aPs aPe aPi aPh aPl aPn aB cB cI pcnt pfix pown plc psr pbs pms pst pen u.1 u.2.1 u.2.2.1 u.2.2.2)) A) args s 0 0 A) (F0 m 34 ls []) := by
  obtain ⟨hx, hb, hml, hr, hown, hlocks, hT⟩ := id C0
  have hK := hk.1
  have hN := hk.2.1
  intro n
  induction n with
  | zero =>
    intro x5 x6 x7 vplace vlimit vfull b hm
    exact absurd hm (Nat.not_lt_zero _)
  | succ n ih =>
    intro x5 x6 x7 vplace vlimit vfull b hm hi hV H locs hP hD hS ls hl
    refine lv_iload hx hb d_PA_rowOfValues_34 (lv_at hl 6 rfl) ?_
    refine lv_sipush (v := 1000) hx hb d_PA_rowOfValues_36 (by decide) ?_
    refine lv_icmp_ge (tgt := 188) hx hb d_PA_rowOfValues_39 (by decide) (fun c_2 => ?_) (fun c_2 => ?_)
    · refine lv_aload_n hx hb d_PA_rowOfValues_188 rfl (lv_at hl 0 rfl) ?_
      refine va_get (D := D) (ci := 5) (v := .ref aV) (C := R_PA) (T := T_PA) (N := 15) hx hb hT u_PA hown hK hP 0 rfl rfl 1 (by decide) (hT _ k_141) (fun _ h9 => h9) rfl d_PA_rowOfValues_189 ?_
      refine lv_iload_n hx hb d_PA_rowOfValues_192 rfl (lv_at hl 2 rfl) ?_
      refine mt_Vv (As := [.int x3]) (rest := []) (wr := [(aP, .inr (5, [.ref aS, .ref aV, .ref aPs, .ref aPe, .ref aPi, .ref aPh, .int pcnt, .int (b2i pfix), .int pown, .ref aPl, .ref aPn, .int plc, .int psr, .int pbs, .int (b2i pms)])), (aPs, .inl (cI, 8, .inl pst)), (aPe, .inl (cI, 8, .inl pen))]) ⟨hx, hb, hml, hown, hT⟩ (c_WR_close l D cB cI aV aS aB L9 U9 A9 _ vplace vlimit vfull b x3 hi) (cwV 1 hT (gV_of k_642 k_643 k_644 k_5 kc_WR_close) rfl rfl rfl hd_WR_close ⟨rl_s (Nat.le_of_ble_eq_true rfl), rl_s (Nat.le_of_ble_eq_true rfl)⟩) hk hP hD hS hA [1, 2, 3] [0, 4, 5] rfl rfl rfl (by decide) (by decide) (by decide) (q0 := 0) rfl rfl rfl rfl hl.1 rfl (Nat.le_of_ble_eq_true rfl) d_PA_rowOfValues_193 ⟨Nat.zero_le _, Nat.zero_le _⟩ (fun u_3 H locs hw_3 hP hD hS => ?_)
      obtain ⟨place_3, limit_3, full_3, b_3⟩ := u_3
      obtain ⟨hw_3, hi_3⟩ := hw_3
      have hP : va_P D vwCl [(aP, .inr (5, [.ref aS, .ref aV, .ref aPs, .ref aPe, .ref aPi, .ref aPh, .int pcnt, .int (b2i pfix), .int pown, .ref aPl, .ref aPn, .int plc, .int psr, .int pbs, .int (b2i pms)])), (aV, .inr (1, [.ref aS, .int place_3, .int limit_3, .int (b2i full_3)])), (aS, .inr (0, [.ref aB])), (aB, .inl (cB, 202000, .inl (by_ b_3))), (aPs, .inl (cI, 8, .inl pst)), (aPe, .inl (cI, 8, .inl pen))] H := hP.sub [0, 3, 4, 5, 1, 2] rfl
      have hD : va_D A [(aP, .inr (5, [.ref aS, .ref aV, .ref aPs, .ref aPe, .ref aPi, .ref aPh, .int pcnt, .int (b2i pfix), .int pown, .ref aPl, .ref aPn, .int plc, .int psr, .int pbs, .int (b2i pms)])), (aV, .inr (1, [.ref aS, .int place_3, .int limit_3, .int (b2i full_3)])), (aS, .inr (0, [.ref aB])), (aB, .inl (cB, 202000, .inl (by_ b_3))), (aPs, .inl (cI, 8, .inl pst)), (aPe, .inl (cI, 8, .inl pen))] := hD.sub [0, 3, 4, 5, 1, 2] (by decide) rfl
      refine lv_iconst (v := 4) hx hb d_PA_rowOfValues_196 (by decide) ?_
      refine lv_iload_n hx hb d_PA_rowOfValues_197 rfl (lv_at hl 2 rfl) ?_
      refine rd_S (val := tw_ST_ref 4 x3) (As := [.int 4, .int x3]) (rest := []) ⟨hx, hb, hml, hown, hT⟩ (c_ST_ref l D cB cI 4 x3) (va_cwS 2 hT (gS_of k_650 k_477 k_2 kc_ST_ref) rfl rfl rfl hd_ST_ref ⟨rl_s (Nat.le_of_ble_eq_true rfl), rl_s (Nat.le_of_ble_eq_true rfl)⟩) hk (va_P_nil) rfl hl.1 rfl (Nat.le_of_ble_eq_true rfl) d_PA_rowOfValues_198 ⟨Nat.zero_le _, Nat.zero_le _⟩ ?_
      exact W.iret (v := tw_ST_ref 4 x3) hx hb hr (fun t ht hW => ⟨⟨tw_ST_ref 4 x3, (place_3, limit_3, full_3, b_3), rfl, ⟨(by rw [hV, tw_PA_rowOfValues_h34, if_pos c_2, ← hw_3, tp4_mk]; first | done | rfl), hi_3⟩, by rw [ht]; exact hP, hD⟩, hS.F ht⟩) hS.2.2 d_PA_rowOfValues_201
    · refine lv_iload hx hb d_PA_rowOfValues_42 (lv_at hl 4 rfl) ?_
      refine lv_iload hx hb d_PA_rowOfValues_44 (lv_at hl 3 rfl) ?_
      refine lv_icmp_ge (tgt := 188) hx hb d_PA_rowOfValues_46 (by decide) (fun c_4 => ?_) (fun c_4 => ?_)
      · refine lv_aload_n hx hb d_PA_rowOfValues_188 rfl (lv_at hl 0 rfl) ?_
        refine va_get (D := D) (ci := 5) (v := .ref aV) (C := R_PA) (T := T_PA) (N := 15) hx hb hT u_PA hown hK hP 0 rfl rfl 1 (by decide) (hT _ k_141) (fun _ h9 => h9) rfl d_PA_rowOfValues_189 ?_
        refine lv_iload_n hx hb d_PA_rowOfValues_192 rfl (lv_at hl 2 rfl) ?_
        refine mt_Vv (As := [.int x3]) (rest := []) (wr := [(aP, .inr (5, [.ref aS, .ref aV, .ref aPs, .ref aPe, .ref aPi, .ref aPh, .int pcnt, .int (b2i pfix), .int pown, .ref aPl, .ref aPn, .int plc, .int psr, .int pbs, .int (b2i pms)])), (aPs, .inl (cI, 8, .inl pst)), (aPe, .inl (cI, 8, .inl pen))]) ⟨hx, hb, hml, hown, hT⟩ (c_WR_close l D cB cI aV aS aB L9 U9 A9 _ vplace vlimit vfull b x3 hi) (cwV 1 hT (gV_of k_642 k_643 k_644 k_5 kc_WR_close) rfl rfl rfl hd_WR_close ⟨rl_s (Nat.le_of_ble_eq_true rfl), rl_s (Nat.le_of_ble_eq_true rfl)⟩) hk hP hD hS hA [1, 2, 3] [0, 4, 5] rfl rfl rfl (by decide) (by decide) (by decide) (q0 := 0) rfl rfl rfl rfl hl.1 rfl (Nat.le_of_ble_eq_true rfl) d_PA_rowOfValues_193 ⟨Nat.zero_le _, Nat.zero_le _⟩ (fun u_5 H locs hw_5 hP hD hS => ?_)
        obtain ⟨place_5, limit_5, full_5, b_5⟩ := u_5
        obtain ⟨hw_5, hi_5⟩ := hw_5
        have hP : va_P D vwCl [(aP, .inr (5, [.ref aS, .ref aV, .ref aPs, .ref aPe, .ref aPi, .ref aPh, .int pcnt, .int (b2i pfix), .int pown, .ref aPl, .ref aPn, .int plc, .int psr, .int pbs, .int (b2i pms)])), (aV, .inr (1, [.ref aS, .int place_5, .int limit_5, .int (b2i full_5)])), (aS, .inr (0, [.ref aB])), (aB, .inl (cB, 202000, .inl (by_ b_5))), (aPs, .inl (cI, 8, .inl pst)), (aPe, .inl (cI, 8, .inl pen))] H := hP.sub [0, 3, 4, 5, 1, 2] rfl
        have hD : va_D A [(aP, .inr (5, [.ref aS, .ref aV, .ref aPs, .ref aPe, .ref aPi, .ref aPh, .int pcnt, .int (b2i pfix), .int pown, .ref aPl, .ref aPn, .int plc, .int psr, .int pbs, .int (b2i pms)])), (aV, .inr (1, [.ref aS, .int place_5, .int limit_5, .int (b2i full_5)])), (aS, .inr (0, [.ref aB])), (aB, .inl (cB, 202000, .inl (by_ b_5))), (aPs, .inl (cI, 8, .inl pst)), (aPe, .inl (cI, 8, .inl pen))] := hD.sub [0, 3, 4, 5, 1, 2] (by decide) rfl
        refine lv_iconst (v := 4) hx hb d_PA_rowOfValues_196 (by decide) ?_
        refine lv_iload_n hx hb d_PA_rowOfValues_197 rfl (lv_at hl 2 rfl) ?_
        refine rd_S (val := tw_ST_ref 4 x3) (As := [.int 4, .int x3]) (rest := []) ⟨hx, hb, hml, hown, hT⟩ (c_ST_ref l D cB cI 4 x3) (va_cwS 2 hT (gS_of k_650 k_477 k_2 kc_ST_ref) rfl rfl rfl hd_ST_ref ⟨rl_s (Nat.le_of_ble_eq_true rfl), rl_s (Nat.le_of_ble_eq_true rfl)⟩) hk (va_P_nil) rfl hl.1 rfl (Nat.le_of_ble_eq_true rfl) d_PA_rowOfValues_198 ⟨Nat.zero_le _, Nat.zero_le _⟩ ?_
        exact W.iret (v := tw_ST_ref 4 x3) hx hb hr (fun t ht hW => ⟨⟨tw_ST_ref 4 x3, (place_5, limit_5, full_5, b_5), rfl, ⟨(by rw [hV, tw_PA_rowOfValues_h34, if_neg c_2, if_pos c_4, ← hw_5, tp4_mk]; first | done | rfl), hi_5⟩, by rw [ht]; exact hP, hD⟩, hS.F ht⟩) hS.2.2 d_PA_rowOfValues_201
      · refine lv_aload_n hx hb d_PA_rowOfValues_49 rfl (lv_at hl 0 rfl) ?_
        refine va_get (D := D) (ci := 5) (v := .ref aS) (C := R_PA) (T := T_PA) (N := 15) hx hb hT u_PA hown hK hP 0 rfl rfl 0 (by decide) (hT _ k_140) (fun _ h9 => h9) rfl d_PA_rowOfValues_50 ?_
        refine lv_iload hx hb d_PA_rowOfValues_53 (lv_at hl 4 rfl) ?_
        refine rd_V (val := tw_ST_valueOf b x5) (As := [.int x5]) (rest := []) ⟨hx, hb, hml, hown, hT⟩ (c_ST_valueOf l D cB cI aS aB b x5) (cwV 1 hT (gV_of k_634 k_399 k_400 k_2 kc_ST_valueOf) rfl rfl rfl hd_ST_valueOf ⟨rl_s (Nat.le_of_ble_eq_true rfl), rl_s (Nat.le_of_ble_eq_true rfl)⟩) hk (hP.sub (ws' := [(aS, .inr (0, [.ref aB])), (aB, .inl (cB, 202000, .inl (by_ b)))]) [2, 3] rfl) (q0 := 0) rfl rfl rfl rfl hl.1 rfl (Nat.le_of_ble_eq_true rfl) d_PA_rowOfValues_55 ⟨Nat.zero_le _, Nat.zero_le _⟩ ?_
        refine lv_istore (lv' := [(8, .int (tw_ST_valueOf b x5)), (0, .ref aP), (2, .int p1), (3, .int x3), (4, .int x4), (5, .int x5), (6, .int x6), (7, .int x7)]) hx hb d_PA_rowOfValues_58 hl (by decide) rfl (fun ls hl => ?_)
        refine lv_iload hx hb d_PA_rowOfValues_60 (lv_at hl 0 rfl) ?_
        refine rd_S (val := tw_ST_kindOf (tw_ST_valueOf b x5)) (As := [.int (tw_ST_valueOf b x5)]) (rest := []) ⟨hx, hb, hml, hown, hT⟩ (c_ST_kindOf l D cB cI (tw_ST_valueOf b x5)) (va_cwS 1 hT (gS_of k_573 k_555 k_2 kc_ST_kindOf) rfl rfl rfl hd_ST_kindOf ⟨rl_s (Nat.le_of_ble_eq_true rfl), rl_s (Nat.le_of_ble_eq_true rfl)⟩) hk (va_P_nil) rfl hl.1 rfl (Nat.le_of_ble_eq_true rfl) d_PA_rowOfValues_62 ⟨Nat.zero_le _, Nat.zero_le _⟩ ?_
        refine lv_iconst (v := 3) hx hb d_PA_rowOfValues_65 (by decide) ?_
        refine lv_icmp_ne (tgt := 171) hx hb d_PA_rowOfValues_66 (by decide) (fun c_6 => ?_) (fun c_6 => ?_)
        · refine lv_aload_n hx hb d_PA_rowOfValues_171 rfl (lv_at hl 1 rfl) ?_
          refine va_get (D := D) (ci := 5) (v := .ref aS) (C := R_PA) (T := T_PA) (N := 15) hx hb hT u_PA hown hK hP 0 rfl rfl 0 (by decide) (hT _ k_140) (fun _ h9 => h9) rfl d_PA_rowOfValues_172 ?_
          refine lv_iload hx hb d_PA_rowOfValues_175 (lv_at hl 0 rfl) ?_
          refine rd_V (val := tw_ST_endOf b (tw_ST_valueOf b x5)) (As := [.int (tw_ST_valueOf b x5)]) (rest := []) ⟨hx, hb, hml, hown, hT⟩ (c_ST_endOf l D cB cI aS aB b (tw_ST_valueOf b x5)) (cwV 1 hT (gV_of k_576 k_416 k_417 k_2 kc_ST_endOf) rfl rfl rfl hd_ST_endOf ⟨rl_s (Nat.le_of_ble_eq_true rfl), rl_s (Nat.le_of_ble_eq_true rfl)⟩) hk (hP.sub (ws' := [(aS, .inr (0, [.ref aB])), (aB, .inl (cB, 202000, .inl (by_ b)))]) [2, 3] rfl) (q0 := 0) rfl rfl rfl rfl hl.1 rfl (Nat.le_of_ble_eq_true rfl) d_PA_rowOfValues_177 ⟨Nat.zero_le _, Nat.zero_le _⟩ ?_
          refine lv_istore (lv' := [(5, .int (tw_ST_endOf b (tw_ST_valueOf b x5))), (8, .int (tw_ST_valueOf b x5)), (0, .ref aP), (2, .int p1), (3, .int x3), (4, .int x4), (6, .int x6), (7, .int x7)]) hx hb d_PA_rowOfValues_180 hl (by decide) rfl (fun ls hl => ?_)
          refine lv_iinc (v := x7 + 1) (lv' := [(7, .int (x7 + 1)), (5, .int (tw_ST_endOf b (tw_ST_valueOf b x5))), (8, .int (tw_ST_valueOf b x5)), (0, .ref aP), (2, .int p1), (3, .int x3), (4, .int x4), (6, .int x6)]) hx hb d_PA_rowOfValues_182 hl (k := 7) rfl rfl (by decide) rfl (fun ls hl => ?_)
          refine lv_goto (tgt := 34) hx hb d_PA_rowOfValues_185 (by decide) ?_
          exact ih (tw_ST_endOf b (tw_ST_valueOf b x5)) x6 (x7 + 1) vplace vlimit vfull b (lp_up hm c_2) (hi) (by rw [hV, tw_PA_rowOfValues_h34, if_neg c_2, if_neg c_4, if_neg c_6]) _ _ hP hD hS ls (lv_sub hl [3, 4, 5, 6, 1, 7, 0] rfl)
        · refine lv_aload_n hx hb d_PA_rowOfValues_69 rfl (lv_at hl 1 rfl) ?_
          refine va_get (D := D) (ci := 5) (v := .ref aV) (C := R_PA) (T := T_PA) (N := 15) hx hb hT u_PA hown hK hP 0 rfl rfl 1 (by decide) (hT _ k_141) (fun _ h9 => h9) rfl d_PA_rowOfValues_70 ?_
          refine va_getN (D := D) (ci := 1) (v := .int vplace) (C := R_WR) (T := T_WR) (N := 4) hx hb hT u_WR hown hK hP 1 rfl rfl 1 (by decide) (va_Nw.use rfl (hN ("PipelineBelt$Path", 105, "PipelineBelt$Writer", "place", "I", "PipelineBelt") (by decide))) (fun _ h9 => h9) rfl d_PA_rowOfValues_73 ?_
          refine lv_istore (lv' := [(9, .int vplace), (8, .int (tw_ST_valueOf b x5)), (0, .ref aP), (2, .int p1), (3, .int x3), (4, .int x4), (5, .int x5), (6, .int x6), (7, .int x7)]) hx hb d_PA_rowOfValues_76 hl (by decide) rfl (fun ls hl => ?_)
          refine lv_aload_n hx hb d_PA_rowOfValues_78 rfl (lv_at hl 2 rfl) ?_
          refine va_get (D := D) (ci := 5) (v := .ref aV) (C := R_PA) (T := T_PA) (N := 15) hx hb hT u_PA hown hK hP 0 rfl rfl 1 (by decide) (hT _ k_141) (fun _ h9 => h9) rfl d_PA_rowOfValues_79 ?_
          refine lv_iconst (v := 4) hx hb d_PA_rowOfValues_82 (by decide) ?_
          refine lv_iload hx hb d_PA_rowOfValues_83 (lv_at hl 7 rfl) ?_
          refine mt_Vv (As := [.int 4, .int x6]) (rest := []) (wr := [(aP, .inr (5, [.ref aS, .ref aV, .ref aPs, .ref aPe, .ref aPi, .ref aPh, .int pcnt, .int (b2i pfix), .int pown, .ref aPl, .ref aPn, .int plc, .int psr, .int pbs, .int (b2i pms)])), (aPs, .inl (cI, 8, .inl pst)), (aPe, .inl (cI, 8, .inl pen))]) ⟨hx, hb, hml, hown, hT⟩ (c_WR_index l D cB cI aV aS aB vlimit vfull vplace _ vplace vlimit vfull b 4 x6 (w_r hi.1)) (cwV 2 hT (gV_of k_635 k_636 k_637 k_5 kc_WR_index) rfl rfl rfl hd_WR_index ⟨rl_s (Nat.le_of_ble_eq_true rfl), rl_s (Nat.le_of_ble_eq_true rfl)⟩) hk hP hD hS hA [1, 2, 3] [0, 4, 5] rfl rfl rfl (by decide) (by decide) (by decide) (q0 := 0) rfl rfl rfl rfl hl.1 rfl (Nat.le_of_ble_eq_true rfl) d_PA_rowOfValues_85 ⟨Nat.zero_le _, Nat.zero_le _⟩ (fun u_7 H locs hw_7 hP hD hS => ?_)
          obtain ⟨place_7, limit_7, full_7, b_7⟩ := u_7
          obtain ⟨hw_7, hi_7⟩ := hw_7
          have hP : va_P D vwCl [(aP, .inr (5, [.ref aS, .ref aV, .ref aPs, .ref aPe, .ref aPi, .ref aPh, .int pcnt, .int (b2i pfix), .int pown, .ref aPl, .ref aPn, .int plc, .int psr, .int pbs, .int (b2i pms)])), (aV, .inr (1, [.ref aS, .int place_7, .int limit_7, .int (b2i full_7)])), (aS, .inr (0, [.ref aB])), (aB, .inl (cB, 202000, .inl (by_ b_7))), (aPs, .inl (cI, 8, .inl pst)), (aPe, .inl (cI, 8, .inl pen))] H := hP.sub [0, 3, 4, 5, 1, 2] rfl
          have hD : va_D A [(aP, .inr (5, [.ref aS, .ref aV, .ref aPs, .ref aPe, .ref aPi, .ref aPh, .int pcnt, .int (b2i pfix), .int pown, .ref aPl, .ref aPn, .int plc, .int psr, .int pbs, .int (b2i pms)])), (aV, .inr (1, [.ref aS, .int place_7, .int limit_7, .int (b2i full_7)])), (aS, .inr (0, [.ref aB])), (aB, .inl (cB, 202000, .inl (by_ b_7))), (aPs, .inl (cI, 8, .inl pst)), (aPe, .inl (cI, 8, .inl pen))] := hD.sub [0, 3, 4, 5, 1, 2] (by decide) rfl
          refine lv_aload_n hx hb d_PA_rowOfValues_88 rfl (lv_at hl 2 rfl) ?_
          refine va_get (D := D) (ci := 5) (v := .ref aV) (C := R_PA) (T := T_PA) (N := 15) hx hb hT u_PA hown hK hP 0 rfl rfl 1 (by decide) (hT _ k_141) (fun _ h9 => h9) rfl d_PA_rowOfValues_89 ?_
          refine va_getN (D := D) (ci := 1) (v := .int place_7) (C := R_WR) (T := T_WR) (N := 4) hx hb hT u_WR hown hK hP 1 rfl rfl 1 (by decide) (va_Nw.use rfl (hN ("PipelineBelt$Path", 105, "PipelineBelt$Writer", "place", "I", "PipelineBelt") (by decide))) (fun _ h9 => h9) rfl d_PA_rowOfValues_92 ?_
          refine lv_istore (lv' := [(10, .int place_7), (9, .int vplace), (8, .int (tw_ST_valueOf b x5)), (0, .ref aP), (2, .int p1), (3, .int x3), (4, .int x4), (5, .int x5), (6, .int x6), (7, .int x7)]) hx hb d_PA_rowOfValues_95 hl (by decide) rfl (fun ls hl => ?_)
          refine lv_aload_n hx hb d_PA_rowOfValues_97 rfl (lv_at hl 3 rfl) ?_
          refine lv_iload hx hb d_PA_rowOfValues_98 (lv_at hl 2 rfl) ?_
          refine lv_iload_n hx hb d_PA_rowOfValues_100 rfl (lv_at hl 4 rfl) ?_
          refine mt_Vi (As := [.int (tw_ST_valueOf b x5), .int p1]) (rest := []) (wr := []) ⟨hx, hb, hml, hown, hT⟩ (hv vlimit vfull vplace _ place_7 limit_7 full_7 b_7 (tw_ST_valueOf b x5) c_6 hi_7) (cwV 2 hT (gV_of k_639 k_623 k_624 k_7 kc_PA_value) rfl rfl rfl hd_PA_value ⟨rl_f (Nat.le_of_ble_eq_true rfl), rl_l (Nat.le_of_ble_eq_true rfl)⟩) hk hP hD hS hA [0, 1, 2, 3, 4, 5] [] rfl rfl rfl (by decide) (by decide) (by decide) (q0 := 0) rfl rfl rfl rfl hl.1 rfl (Nat.le_of_ble_eq_true rfl) d_PA_rowOfValues_101 ⟨Nat.zero_le _, Nat.zero_le _⟩ (fun r_8 u_8 H locs hw_8 hP hD hS => ?_)
          obtain ⟨vplace_8, vlimit_8, vfull_8, b_8⟩ := u_8
          obtain ⟨hw_8, hi_8⟩ := hw_8
          have hP : va_P D vwCl [(aP, .inr (5, [.ref aS, .ref aV, .ref aPs, .ref aPe, .ref aPi, .ref aPh, .int pcnt, .int (b2i pfix), .int pown, .ref aPl, .ref aPn, .int plc, .int psr, .int pbs, .int (b2i pms)])), (aV, .inr (1, [.ref aS, .int vplace_8, .int vlimit_8, .int (b2i vfull_8)])), (aS, .inr (0, [.ref aB])), (aB, .inl (cB, 202000, .inl (by_ b_8))), (aPs, .inl (cI, 8, .inl pst)), (aPe, .inl (cI, 8, .inl pen))] H := hP.sub [0, 1, 2, 3, 4, 5] rfl
          have hD : va_D A [(aP, .inr (5, [.ref aS, .ref aV, .ref aPs, .ref aPe, .ref aPi, .ref aPh, .int pcnt, .int (b2i pfix), .int pown, .ref aPl, .ref aPn, .int plc, .int psr, .int pbs, .int (b2i pms)])), (aV, .inr (1, [.ref aS, .int vplace_8, .int vlimit_8, .int (b2i vfull_8)])), (aS, .inr (0, [.ref aB])), (aB, .inl (cB, 202000, .inl (by_ b_8))), (aPs, .inl (cI, 8, .inl pst)), (aPe, .inl (cI, 8, .inl pen))] := hD.sub [0, 1, 2, 3, 4, 5] (by decide) rfl
          refine lv_istore (lv' := [(11, .int r_8), (10, .int place_7), (9, .int vplace), (8, .int (tw_ST_valueOf b x5)), (0, .ref aP), (2, .int p1), (3, .int x3), (4, .int x4), (5, .int x5), (6, .int x6), (7, .int x7)]) hx hb d_PA_rowOfValues_104 hl (by decide) rfl (fun ls hl => ?_)
          refine lv_iload hx hb d_PA_rowOfValues_106 (lv_at hl 0 rfl) ?_
          refine lv_if_ne (tgt := 123) hx hb d_PA_rowOfValues_108 (by decide) (fun c_9 => ?_) (fun c_9 => ?_)
          · refine lv_iinc (v := x6 + 1) (lv' := [(6, .int (x6 + 1)), (11, .int r_8), (10, .int place_7), (9, .int vplace), (8, .int (tw_ST_valueOf b x5)), (0, .ref aP), (2, .int p1), (3, .int x3), (4, .int x4), (5, .int x5), (7, .int x7)]) hx hb d_PA_rowOfValues_123 hl (k := 9) rfl rfl (by decide) rfl (fun ls hl => ?_)
            refine lv_iload hx hb d_PA_rowOfValues_126 (lv_at hl 1 rfl) ?_
            refine rd_S (val := tw_ST_placeOf r_8) (As := [.int r_8]) (rest := []) ⟨hx, hb, hml, hown, hT⟩ (c_ST_placeOf l D cB cI r_8) (va_cwS 1 hT (gS_of k_574 k_403 k_2 kc_ST_placeOf) rfl rfl rfl hd_ST_placeOf ⟨rl_s (Nat.le_of_ble_eq_true rfl), rl_s (Nat.le_of_ble_eq_true rfl)⟩) hk (va_P_nil) rfl hl.1 rfl (Nat.le_of_ble_eq_true rfl) d_PA_rowOfValues_128 ⟨Nat.zero_le _, Nat.zero_le _⟩ ?_
            refine lv_iload hx hb d_PA_rowOfValues_131 (lv_at hl 2 rfl) ?_
            refine lv_icmp_eq (tgt := 171) hx hb d_PA_rowOfValues_133 (by decide) (fun c_10 => ?_) (fun c_10 => ?_)
            · refine lv_aload_n hx hb d_PA_rowOfValues_171 rfl (lv_at hl 5 rfl) ?_
              refine va_get (D := D) (ci := 5) (v := .ref aS) (C := R_PA) (T := T_PA) (N := 15) hx hb hT u_PA hown hK hP 0 rfl rfl 0 (by decide) (hT _ k_140) (fun _ h9 => h9) rfl d_PA_rowOfValues_172 ?_
              refine lv_iload hx hb d_PA_rowOfValues_175 (lv_at hl 4 rfl) ?_
              refine rd_V (val := tw_ST_endOf b_8 (tw_ST_valueOf b x5)) (As := [.int (tw_ST_valueOf b x5)]) (rest := []) ⟨hx, hb, hml, hown, hT⟩ (c_ST_endOf l D cB cI aS aB b_8 (tw_ST_valueOf b x5)) (cwV 1 hT (gV_of k_576 k_416 k_417 k_2 kc_ST_endOf) rfl rfl rfl hd_ST_endOf ⟨rl_s (Nat.le_of_ble_eq_true rfl), rl_s (Nat.le_of_ble_eq_true rfl)⟩) hk (hP.sub (ws' := [(aS, .inr (0, [.ref aB])), (aB, .inl (cB, 202000, .inl (by_ b_8)))]) [2, 3] rfl) (q0 := 0) rfl rfl rfl rfl hl.1 rfl (Nat.le_of_ble_eq_true rfl) d_PA_rowOfValues_177 ⟨Nat.zero_le _, Nat.zero_le _⟩ ?_
              refine lv_istore (lv' := [(5, .int (tw_ST_endOf b_8 (tw_ST_valueOf b x5))), (6, .int (x6 + 1)), (11, .int r_8), (10, .int place_7), (9, .int vplace), (8, .int (tw_ST_valueOf b x5)), (0, .ref aP), (2, .int p1), (3, .int x3), (4, .int x4), (7, .int x7)]) hx hb d_PA_rowOfValues_180 hl (by decide) rfl (fun ls hl => ?_)
              refine lv_iinc (v := x7 + 1) (lv' := [(7, .int (x7 + 1)), (5, .int (tw_ST_endOf b_8 (tw_ST_valueOf b x5))), (6, .int (x6 + 1)), (11, .int r_8), (10, .int place_7), (9, .int vplace), (8, .int (tw_ST_valueOf b x5)), (0, .ref aP), (2, .int p1), (3, .int x3), (4, .int x4)]) hx hb d_PA_rowOfValues_182 hl (k := 10) rfl rfl (by decide) rfl (fun ls hl => ?_)
              refine lv_goto (tgt := 34) hx hb d_PA_rowOfValues_185 (by decide) ?_
              exact ih (tw_ST_endOf b_8 (tw_ST_valueOf b x5)) (x6 + 1) (x7 + 1) vplace_8 vlimit_8 vfull_8 b_8 (lp_up hm c_2) ((w_sub hi_8 hi)) (by rw [hV, tw_PA_rowOfValues_h34, if_neg c_2, if_neg c_4, if_pos c_6, ← hw_7, tp4_mk, ← hw_8, tp5_mk, if_neg c_9, if_pos c_10]) _ _ hP hD hS ls (lv_sub hl [7, 8, 9, 10, 1, 2, 0] rfl)
            · refine lv_aload_n hx hb d_PA_rowOfValues_136 rfl (lv_at hl 5 rfl) ?_
              refine va_get (D := D) (ci := 5) (v := .ref aS) (C := R_PA) (T := T_PA) (N := 15) hx hb hT u_PA hown hK hP 0 rfl rfl 0 (by decide) (hT _ k_140) (fun _ h9 => h9) rfl d_PA_rowOfValues_137 ?_
              refine lv_iload hx hb d_PA_rowOfValues_140 (lv_at hl 3 rfl) ?_
              refine lv_iload hx hb d_PA_rowOfValues_142 (lv_at hl 1 rfl) ?_
              refine rd_S (val := tw_ST_kindOf r_8) (As := [.int r_8]) (rest := [.int vplace, .ref aS]) ⟨hx, hb, hml, hown, hT⟩ (c_ST_kindOf l D cB cI r_8) (va_cwS 1 hT (gS_of k_573 k_555 k_2 kc_ST_kindOf) rfl rfl rfl hd_ST_kindOf ⟨rl_s (Nat.le_of_ble_eq_true rfl), rl_s (Nat.le_of_ble_eq_true rfl)⟩) hk (va_P_nil) rfl hl.1 rfl (Nat.le_of_ble_eq_true rfl) d_PA_rowOfValues_144 ⟨Nat.zero_le _, Nat.zero_le _⟩ ?_
              refine mt_Vv (As := [.int vplace, .int (tw_ST_kindOf r_8)]) (rest := []) (wr := [(aP, .inr (5, [.ref aS, .ref aV, .ref aPs, .ref aPe, .ref aPi, .ref aPh, .int pcnt, .int (b2i pfix), .int pown, .ref aPl, .ref aPn, .int plc, .int psr, .int pbs, .int (b2i pms)])), (aV, .inr (1, [.ref aS, .int vplace_8, .int vlimit_8, .int (b2i vfull_8)])), (aPs, .inl (cI, 8, .inl pst)), (aPe, .inl (cI, 8, .inl pen))]) ⟨hx, hb, hml, hown, hT⟩ (c_ST_write l D cB cI aS aB _ b_8 vplace (tw_ST_kindOf r_8)) (cwV 2 hT (gV_of k_640 k_350 k_351 k_2 kc_ST_write) rfl rfl rfl hd_ST_write ⟨rl_s (Nat.le_of_ble_eq_true rfl), rl_s (Nat.le_of_ble_eq_true rfl)⟩) hk hP hD hS hA [2, 3] [0, 1, 4, 5] rfl rfl rfl (by decide) (by decide) (by decide) (q0 := 0) rfl rfl rfl rfl hl.1 rfl (Nat.le_of_ble_eq_true rfl) d_PA_rowOfValues_147 ⟨Nat.zero_le _, Nat.zero_le _⟩ (fun u_11 H locs hw_11 hP hD hS => ?_)
              obtain ⟨b_11, rfl⟩ : ∃ z, z = u_11 := ⟨_, rfl⟩
              have hP : va_P D vwCl [(aP, .inr (5, [.ref aS, .ref aV, .ref aPs, .ref aPe, .ref aPi, .ref aPh, .int pcnt, .int (b2i pfix), .int pown, .ref aPl, .ref aPn, .int plc, .int psr, .int pbs, .int (b2i pms)])), (aV, .inr (1, [.ref aS, .int vplace_8, .int vlimit_8, .int (b2i vfull_8)])), (aS, .inr (0, [.ref aB])), (aB, .inl (cB, 202000, .inl (by_ b_11))), (aPs, .inl (cI, 8, .inl pst)), (aPe, .inl (cI, 8, .inl pen))] H := hP.sub [0, 1, 4, 5, 2, 3] rfl
              have hD : va_D A [(aP, .inr (5, [.ref aS, .ref aV, .ref aPs, .ref aPe, .ref aPi, .ref aPh, .int pcnt, .int (b2i pfix), .int pown, .ref aPl, .ref aPn, .int plc, .int psr, .int pbs, .int (b2i pms)])), (aV, .inr (1, [.ref aS, .int vplace_8, .int vlimit_8, .int (b2i vfull_8)])), (aS, .inr (0, [.ref aB])), (aB, .inl (cB, 202000, .inl (by_ b_11))), (aPs, .inl (cI, 8, .inl pst)), (aPe, .inl (cI, 8, .inl pen))] := hD.sub [0, 1, 4, 5, 2, 3] (by decide) rfl
              refine lv_aload_n hx hb d_PA_rowOfValues_150 rfl (lv_at hl 5 rfl) ?_
              refine va_get (D := D) (ci := 5) (v := .ref aV) (C := R_PA) (T := T_PA) (N := 15) hx hb hT u_PA hown hK hP 0 rfl rfl 1 (by decide) (hT _ k_141) (fun _ h9 => h9) rfl d_PA_rowOfValues_151 ?_
              refine lv_iload hx hb d_PA_rowOfValues_154 (lv_at hl 1 rfl) ?_
              refine rd_S (val := tw_ST_placeOf r_8) (As := [.int r_8]) (rest := [.ref aV]) ⟨hx, hb, hml, hown, hT⟩ (c_ST_placeOf l D cB cI r_8) (va_cwS 1 hT (gS_of k_574 k_403 k_2 kc_ST_placeOf) rfl rfl rfl hd_ST_placeOf ⟨rl_s (Nat.le_of_ble_eq_true rfl), rl_s (Nat.le_of_ble_eq_true rfl)⟩) hk (va_P_nil) rfl hl.1 rfl (Nat.le_of_ble_eq_true rfl) d_PA_rowOfValues_156 ⟨Nat.zero_le _, Nat.zero_le _⟩ ?_
              refine lv_aload_n hx hb d_PA_rowOfValues_159 rfl (lv_at hl 5 rfl) ?_
              refine va_get (D := D) (ci := 5) (v := .ref aS) (C := R_PA) (T := T_PA) (N := 15) hx hb hT u_PA hown hK hP 0 rfl rfl 0 (by decide) (hT _ k_140) (fun _ h9 => h9) rfl d_PA_rowOfValues_160 ?_
              refine lv_iload hx hb d_PA_rowOfValues_163 (lv_at hl 1 rfl) ?_
              refine rd_V (val := tw_ST_endOf b_11 r_8) (As := [.int r_8]) (rest := [.int (tw_ST_placeOf r_8), .ref aV]) ⟨hx, hb, hml, hown, hT⟩ (c_ST_endOf l D cB cI aS aB b_11 r_8) (cwV 1 hT (gV_of k_576 k_416 k_417 k_2 kc_ST_endOf) rfl rfl rfl hd_ST_endOf ⟨rl_s (Nat.le_of_ble_eq_true rfl), rl_s (Nat.le_of_ble_eq_true rfl)⟩) hk (hP.sub (ws' := [(aS, .inr (0, [.ref aB])), (aB, .inl (cB, 202000, .inl (by_ b_11)))]) [2, 3] rfl) (q0 := 0) rfl rfl rfl rfl hl.1 rfl (Nat.le_of_ble_eq_true rfl) d_PA_rowOfValues_165 ⟨Nat.zero_le _, Nat.zero_le _⟩ ?_
              refine mt_Vv (As := [.int (tw_ST_placeOf r_8), .int (tw_ST_endOf b_11 r_8)]) (rest := []) (wr := [(aP, .inr (5, [.ref aS, .ref aV, .ref aPs, .ref aPe, .ref aPi, .ref aPh, .int pcnt, .int (b2i pfix), .int pown, .ref aPl, .ref aPn, .int plc, .int psr, .int pbs, .int (b2i pms)])), (aPs, .inl (cI, 8, .inl pst)), (aPe, .inl (cI, 8, .inl pen))]) ⟨hx, hb, hml, hown, hT⟩ (c_WR_copy l D cB cI aV aS aB L9 U9 A9 _ vplace_8 vlimit_8 vfull_8 b_11 (tw_ST_placeOf r_8) (tw_ST_endOf b_11 r_8) (Or.inl (pl_le _)) (w_sub hi_8 hi)) (cwV 2 hT (gV_of k_641 k_451 k_452 k_5 kc_WR_copy) rfl rfl rfl hd_WR_copy ⟨rl_s (Nat.le_of_ble_eq_true rfl), rl_s (Nat.le_of_ble_eq_true rfl)⟩) hk hP hD hS hA [1, 2, 3] [0, 4, 5] rfl rfl rfl (by decide) (by decide) (by decide) (q0 := 0) rfl rfl rfl rfl hl.1 rfl (Nat.le_of_ble_eq_true rfl) d_PA_rowOfValues_168 ⟨Nat.zero_le _, Nat.zero_le _⟩ (fun u_12 H locs hw_12 hP hD hS => ?_)
              obtain ⟨place_12, limit_12, full_12, b_12⟩ := u_12
              obtain ⟨hw_12, hi_12⟩ := hw_12
              have hP : va_P D vwCl [(aP, .inr (5, [.ref aS, .ref aV, .ref aPs, .ref aPe, .ref aPi, .ref aPh, .int pcnt, .int (b2i pfix), .int pown, .ref aPl, .ref aPn, .int plc, .int psr, .int pbs, .int (b2i pms)])), (aV, .inr (1, [.ref aS, .int place_12, .int limit_12, .int (b2i full_12)])), (aS, .inr (0, [.ref aB])), (aB, .inl (cB, 202000, .inl (by_ b_12))), (aPs, .inl (cI, 8, .inl pst)), (aPe, .inl (cI, 8, .inl pen))] H := hP.sub [0, 3, 4, 5, 1, 2] rfl
              have hD : va_D A [(aP, .inr (5, [.ref aS, .ref aV, .ref aPs, .ref aPe, .ref aPi, .ref aPh, .int pcnt, .int (b2i pfix), .int pown, .ref aPl, .ref aPn, .int plc, .int psr, .int pbs, .int (b2i pms)])), (aV, .inr (1, [.ref aS, .int place_12, .int limit_12, .int (b2i full_12)])), (aS, .inr (0, [.ref aB])), (aB, .inl (cB, 202000, .inl (by_ b_12))), (aPs, .inl (cI, 8, .inl pst)), (aPe, .inl (cI, 8, .inl pen))] := hD.sub [0, 3, 4, 5, 1, 2] (by decide) rfl
              refine lv_aload_n hx hb d_PA_rowOfValues_171 rfl (lv_at hl 5 rfl) ?_
              refine va_get (D := D) (ci := 5) (v := .ref aS) (C := R_PA) (T := T_PA) (N := 15) hx hb hT u_PA hown hK hP 0 rfl rfl 0 (by decide) (hT _ k_140) (fun _ h9 => h9) rfl d_PA_rowOfValues_172 ?_
              refine lv_iload hx hb d_PA_rowOfValues_175 (lv_at hl 4 rfl) ?_
              refine rd_V (val := tw_ST_endOf b_12 (tw_ST_valueOf b x5)) (As := [.int (tw_ST_valueOf b x5)]) (rest := []) ⟨hx, hb, hml, hown, hT⟩ (c_ST_endOf l D cB cI aS aB b_12 (tw_ST_valueOf b x5)) (cwV 1 hT (gV_of k_576 k_416 k_417 k_2 kc_ST_endOf) rfl rfl rfl hd_ST_endOf ⟨rl_s (Nat.le_of_ble_eq_true rfl), rl_s (Nat.le_of_ble_eq_true rfl)⟩) hk (hP.sub (ws' := [(aS, .inr (0, [.ref aB])), (aB, .inl (cB, 202000, .inl (by_ b_12)))]) [2, 3] rfl) (q0 := 0) rfl rfl rfl rfl hl.1 rfl (Nat.le_of_ble_eq_true rfl) d_PA_rowOfValues_177 ⟨Nat.zero_le _, Nat.zero_le _⟩ ?_
              refine lv_istore (lv' := [(5, .int (tw_ST_endOf b_12 (tw_ST_valueOf b x5))), (6, .int (x6 + 1)), (11, .int r_8), (10, .int place_7), (9, .int vplace), (8, .int (tw_ST_valueOf b x5)), (0, .ref aP), (2, .int p1), (3, .int x3), (4, .int x4), (7, .int x7)]) hx hb d_PA_rowOfValues_180 hl (by decide) rfl (fun ls hl => ?_)
              refine lv_iinc (v := x7 + 1) (lv' := [(7, .int (x7 + 1)), (5, .int (tw_ST_endOf b_12 (tw_ST_valueOf b x5))), (6, .int (x6 + 1)), (11, .int r_8), (10, .int place_7), (9, .int vplace), (8, .int (tw_ST_valueOf b x5)), (0, .ref aP), (2, .int p1), (3, .int x3), (4, .int x4)]) hx hb d_PA_rowOfValues_182 hl (k := 10) rfl rfl (by decide) rfl (fun ls hl => ?_)
              refine lv_goto (tgt := 34) hx hb d_PA_rowOfValues_185 (by decide) ?_
              exact ih (tw_ST_endOf b_12 (tw_ST_valueOf b x5)) (x6 + 1) (x7 + 1) place_12 limit_12 full_12 b_12 (lp_up hm c_2) (hi_12) (by rw [hV, tw_PA_rowOfValues_h34, if_neg c_2, if_neg c_4, if_pos c_6, ← hw_7, tp4_mk, ← hw_8, tp5_mk, if_neg c_9, if_neg c_10, ← hw_11, tp1_mk, ← hw_12, tp4_mk]) _ _ hP hD hS ls (lv_sub hl [7, 8, 9, 10, 1, 2, 0] rfl)
          · refine lv_aload_n hx hb d_PA_rowOfValues_111 rfl (lv_at hl 4 rfl) ?_
            refine va_get (D := D) (ci := 5) (v := .ref aV) (C := R_PA) (T := T_PA) (N := 15) hx hb hT u_PA hown hK hP 0 rfl rfl 1 (by decide) (hT _ k_141) (fun _ h9 => h9) rfl d_PA_rowOfValues_112 ?_
            refine lv_iload hx hb d_PA_rowOfValues_115 (lv_at hl 2 rfl) ?_
            refine va_putN (D := D) (ci := 1) (v := .int vplace) (ty := .int) (C := R_WR) (T := T_WR) (N := 4) hx hb hT u_WR ty_WR tyok_WR nm_WR hown hK hP hD hS 1 rfl rfl 1 (by decide) (va_Nw.use rfl (hN ("PipelineBelt$Path", 105, "PipelineBelt$Writer", "place", "I", "PipelineBelt") (by decide))) (fun _ h9 => h9) rfl (by decide +kernel) (rfl) (rfl) (Nat.le_of_ble_eq_true rfl) d_PA_rowOfValues_117 (fun H locs hP hD hS => ?_)
            have hP : va_P D vwCl [(aP, .inr (5, [.ref aS, .ref aV, .ref aPs, .ref aPe, .ref aPi, .ref aPh, .int pcnt, .int (b2i pfix), .int pown, .ref aPl, .ref aPn, .int plc, .int psr, .int pbs, .int (b2i pms)])), (aV, .inr (1, [.ref aS, .int vplace, .int vlimit_8, .int (b2i vfull_8)])), (aS, .inr (0, [.ref aB])), (aB, .inl (cB, 202000, .inl (by_ b_8))), (aPs, .inl (cI, 8, .inl pst)), (aPe, .inl (cI, 8, .inl pen))] H := hP
            have hD : va_D A [(aP, .inr (5, [.ref aS, .ref aV, .ref aPs, .ref aPe, .ref aPi, .ref aPh, .int pcnt, .int (b2i pfix), .int pown, .ref aPl, .ref aPn, .int plc, .int psr, .int pbs, .int (b2i pms)])), (aV, .inr (1, [.ref aS, .int vplace, .int vlimit_8, .int (b2i vfull_8)])), (aS, .inr (0, [.ref aB])), (aB, .inl (cB, 202000, .inl (by_ b_8))), (aPs, .inl (cI, 8, .inl pst)), (aPe, .inl (cI, 8, .inl pen))] := hD
            refine lv_goto (tgt := 171) hx hb d_PA_rowOfValues_120 (by decide) ?_
            refine lv_aload_n hx hb d_PA_rowOfValues_171 rfl (lv_at hl 4 rfl) ?_
            refine va_get (D := D) (ci := 5) (v := .ref aS) (C := R_PA) (T := T_PA) (N := 15) hx hb hT u_PA hown hK hP 0 rfl rfl 0 (by decide) (hT _ k_140) (fun _ h9 => h9) rfl d_PA_rowOfValues_172 ?_
            refine lv_iload hx hb d_PA_rowOfValues_175 (lv_at hl 3 rfl) ?_
            refine rd_V (val := tw_ST_endOf b_8 (tw_ST_valueOf b x5)) (As := [.int (tw_ST_valueOf b x5)]) (rest := []) ⟨hx, hb, hml, hown, hT⟩ (c_ST_endOf l D cB cI aS aB b_8 (tw_ST_valueOf b x5)) (cwV 1 hT (gV_of k_576 k_416 k_417 k_2 kc_ST_endOf) rfl rfl rfl hd_ST_endOf ⟨rl_s (Nat.le_of_ble_eq_true rfl), rl_s (Nat.le_of_ble_eq_true rfl)⟩) hk (hP.sub (ws' := [(aS, .inr (0, [.ref aB])), (aB, .inl (cB, 202000, .inl (by_ b_8)))]) [2, 3] rfl) (q0 := 0) rfl rfl rfl rfl hl.1 rfl (Nat.le_of_ble_eq_true rfl) d_PA_rowOfValues_177 ⟨Nat.zero_le _, Nat.zero_le _⟩ ?_
            refine lv_istore (lv' := [(5, .int (tw_ST_endOf b_8 (tw_ST_valueOf b x5))), (11, .int r_8), (10, .int place_7), (9, .int vplace), (8, .int (tw_ST_valueOf b x5)), (0, .ref aP), (2, .int p1), (3, .int x3), (4, .int x4), (6, .int x6), (7, .int x7)]) hx hb d_PA_rowOfValues_180 hl (by decide) rfl (fun ls hl => ?_)
            refine lv_iinc (v := x7 + 1) (lv' := [(7, .int (x7 + 1)), (5, .int (tw_ST_endOf b_8 (tw_ST_valueOf b x5))), (11, .int r_8), (10, .int place_7), (9, .int vplace), (8, .int (tw_ST_valueOf b x5)), (0, .ref aP), (2, .int p1), (3, .int x3), (4, .int x4), (6, .int x6)]) hx hb d_PA_rowOfValues_182 hl (k := 10) rfl rfl (by decide) rfl (fun ls hl => ?_)
            refine lv_goto (tgt := 34) hx hb d_PA_rowOfValues_185 (by decide) ?_
            exact ih (tw_ST_endOf b_8 (tw_ST_valueOf b x5)) x6 (x7 + 1) vplace vlimit_8 vfull_8 b_8 (lp_up hm c_2) ((w_back hi_8 hi)) (by rw [hV, tw_PA_rowOfValues_h34, if_neg c_2, if_neg c_4, if_pos c_6, ← hw_7, tp4_mk, ← hw_8, tp5_mk, if_pos c_9]) _ _ hP hD hS ls (lv_sub hl [6, 7, 8, 9, 1, 10, 0] rfl)
set_option maxHeartbeats 4000000 in
set_option maxRecDepth 100000 in
theorem c_PA_rowOfValues (l : Launch) (D : va_G) (cB cI : ClassId) (aP aS aV aPs aPe aPi aPh aPl aPn aB : Nat) (rF : Nat) (rL : Nat) (L9 : Int32) (U9 : Bool) (A9 : Int32) (fv : Int32 → Int32 → Bool → (Nat → UInt8) → Int32 → Int32 × Int32 × Int32 × Bool × (Nat → UInt8)) (pcnt : Int32) (pfix : Bool) (pown : Int32) (plc : Int32) (psr : Int32) (pbs : Int32) (pms : Bool) (pst : Nat → Int32) (pen : Nat → Int32) (sz : Nat) (vplace : Int32) (vlimit : Int32) (vfull : Bool) (b : Nat → UInt8) (p0 : Int32) (p1 : Int32) (hv : ∀ (LL : Int32) (UU : Bool) (AA : Int32), ∀ (sz : Nat) (vplace : Int32) (vlimit : Int32) (vfull : Bool) (b : Nat → UInt8) (x : Int32) (_ : tw_ST_kindOf x = 3), w_okr LL UU AA vplace vlimit vfull → Met l y_PA_value mw_PA_value { frames := rF, cells := 0, slots := 0, locals := rL } (va_Pc [.ref aP, .int x, .int p1] (mt_P D cB cI (wd_PV aP aS aV aPs aPe aPi aPh aPl aPn aB cB cI pcnt pfix pown plc psr pbs pms pst pen vplace vlimit vfull b) sz)) (va_Qi (fun (r : Int32) (u : Int32 × Int32 × Bool × (Nat → UInt8)) => (r, u) = fv vplace vlimit vfull b x ∧ w_okr LL UU AA u.1 u.2.1 u.2.2.1) (mt_B D (va_A (wd_PV aP aS aV aPs aPe aPi aPh aPl aPn aB cB cI pcnt pfix pown plc psr pbs pms pst pen vplace vlimit vfull b) sz) (fun u => wd_PV aP aS aV aPs aPe aPi aPh aPl aPn aB cB cI pcnt pfix pown plc psr pbs pms pst pen u.1 u.2.1 u.2.2.1 u.2.2.2)) (va_A (wd_PV aP aS aV aPs aPe aPi aPh aPl aPn aB cB cI pcnt pfix pown plc psr pbs pms pst pen vplace vlimit vfull b) sz)) 0 0 (va_A (wd_PV aP aS aV aPs aPe aPi aPh aPl aPn aB cB cI pcnt pfix pown plc psr pbs pms pst pen vplace vlimit vfull b) sz)) (hi : w_okr L9 U9 A9 vplace vlimit vfull) : Met l y_PA_rowOfValues mw_PA_rowOfValues { frames := rF + 5, cells := 0, slots := 0, locals := rL + 120 } (va_Pc [.ref aP, .int p0, .int p1] (mt_P D cB cI (wd_PA_rowOfValues aP aS aV aPs aPe aPi aPh aPl aPn aB cB cI pcnt pfix pown plc psr pbs pms pst pen vplace vlimit vfull b) sz)) (va_Qi (fun (r : Int32) (u : Int32 × Int32 × Bool × (Nat → UInt8)) => (r, u) = tw_PA_rowOfValues fv vplace vlimit vfull b p0 p1 ∧ w_okr L9 U9 A9 u.1 u.2.1 u.2.2.1) (mt_B D (va_A (wd_PA_rowOfValues aP aS aV aPs aPe aPi aPh aPl aPn aB cB cI pcnt pfix pown plc psr pbs pms pst pen vplace vlimit vfull b) sz) (fun u => wd_PA_rowOfValues aP aS aV aPs aPe aPi aPh aPl aPn aB cB cI pcnt pfix pown plc psr pbs pms pst pen u.1 u.2.1 u.2.2.1 u.2.2.2)) (va_A (wd_PA_rowOfValues aP aS aV aPs aPe aPi aPh aPl aPn aB cB cI pcnt pfix pown plc psr pbs pms pst pen vplace vlimit vfull b) sz)) 0 0 (va_A (wd_PA_rowOfValues aP aS aV aPs aPe aPi aPh aPl aPn aB cB cI pcnt pfix pown plc psr pbs pms pst pen vplace vlimit vfull b) sz) := by
  refine Met.ofW (cc := b_PA_rowOfValues) (maxL := 12) (ret := (some .int)) (by decide) rfl ?_
  intro p e s m args below meth c s₁ B0 hml hv
  obtain ⟨rfl, hsz, hP, hk, hD0⟩ := hv
  have hK := hk.1
  have hN := hk.2.1
  have hx := B0.exec
  have hb := B0.bytes
  have hr := B0.returns
  have hT : ∀ w ∈ lw_g, w.before _ s = true := fun w h => atoms_spec (ws := mw_PA_rowOfValues) B0.pre w (List.mem_cons_of_mem _ h)
  have hown : s.vm.findClass R_PA = some m.cls := findClass_of_methodNamed B0.named
  have hlocks := B0.notSynchronized
  subst hsz
  have hD := hD0.self (sz := s.heap.size)
  generalize hAe : va_A [(aP, .inr (5, [.ref aS, .ref aV, .ref aPs, .ref aPe, .ref aPi, .ref aPh, .int pcnt, .int (b2i pfix), .int pown, .ref aPl, .ref aPn, .int plc, .int psr, .int pbs, .int (b2i pms)])), (aV, .inr (1, [.ref aS, .int vplace, .int vlimit, .int (b2i vfull)])), (aS, .inr (0, [.ref aB])), (aB, .inl (cB, 202000, .inl (by_ b))), (aPs, .inl (cI, 8, .inl pst)), (aPe, .inl (cI, 8, .inl pen))] s.heap.size = A at hD ⊢
  have hA : ∀ q : Nat, s.heap.size ≤ q → A q := fun q h => by rw [← hAe]; exact Or.inr h
  have hS : va_S A s.heap s.heap [] := va_S.rf
  have hl := lv_entry ([.ref aP, .int p0, .int p1]) (n := 12) (Nat.le_of_ble_eq_true rfl)
  rw [lg_entry_eq]
  generalize (lg_sl ([.ref aP, .int p0, .int p1]) ++ List.replicate (12 - (lg_sl ([.ref aP, .int p0, .int p1])).length) Slot.unset).toArray = ls at hl ⊢
  have hl : lv_has ls 12 [(0, .ref aP), (1, .int p0), (2, .int p1)] := hl
  have C0 : lc_C p s m meth c _ b_PA_rowOfValues 12 (some .int) R_PA lw_g := ⟨hx, hb, hml, hr, hown, hlocks, hT⟩
  refine lv_aload_n hx hb d_PA_rowOfValues_0 rfl (lv_at hl 0 rfl) ?_
  refine va_get (D := D) (ci := 5) (v := .ref aV) (C := R_PA) (T := T_PA) (N := 15) hx hb hT u_PA hown hK hP 0 rfl rfl 1 (by decide) (hT _ k_141) (fun _ h9 => h9) rfl d_PA_rowOfValues_1 ?_
  refine mt_Vi (As := []) (rest := []) (wr := [(aP, .inr (5, [.ref aS, .ref aV, .ref aPs, .ref aPe, .ref aPi, .ref aPh, .int pcnt, .int (b2i pfix), .int pown, .ref aPl, .ref aPn, .int plc, .int psr, .int pbs, .int (b2i pms)])), (aPs, .inl (cI, 8, .inl pst)), (aPe, .inl (cI, 8, .inl pen))]) ⟨hx, hb, hml, hown, hT⟩ (c_WR_open l D cB cI aV aS aB L9 U9 A9 _ vplace vlimit vfull b hi) (cwV 0 hT (gV_of k_633 k_598 k_599 k_5 kc_WR_open) rfl rfl rfl hd_WR_open ⟨rl_s (Nat.le_of_ble_eq_true rfl), rl_s (Nat.le_of_ble_eq_true rfl)⟩) hk hP hD hS hA [1, 2, 3] [0, 4, 5] rfl rfl rfl (by decide) (by decide) (by decide) (q0 := 0) rfl rfl rfl rfl hl.1 rfl (Nat.le_of_ble_eq_true rfl) d_PA_rowOfValues_4 ⟨Nat.zero_le _, Nat.zero_le _⟩ (fun r_1 u_1 H locs hw_1 hP hD hS => ?_)
  obtain ⟨place_1, limit_1, full_1, b_1⟩ := u_1
  obtain ⟨hw_1, hi_1⟩ := hw_1
  have hP : va_P D vwCl [(aP, .inr (5, [.ref aS, .ref aV, .ref aPs, .ref aPe, .ref aPi, .ref aPh, .int pcnt, .int (b2i pfix), .int pown, .ref aPl, .ref aPn, .int plc, .int psr, .int pbs, .int (b2i pms)])), (aV, .inr (1, [.ref aS, .int place_1, .int limit_1, .int (b2i full_1)])), (aS, .inr (0, [.ref aB])), (aB, .inl (cB, 202000, .inl (by_ b_1))), (aPs, .inl (cI, 8, .inl pst)), (aPe, .inl (cI, 8, .inl pen))] H := hP.sub [0, 3, 4, 5, 1, 2] rfl
  have hD : va_D A [(aP, .inr (5, [.ref aS, .ref aV, .ref aPs, .ref aPe, .ref aPi, .ref aPh, .int pcnt, .int (b2i pfix), .int pown, .ref aPl, .ref aPn, .int plc, .int psr, .int pbs, .int (b2i pms)])), (aV, .inr (1, [.ref aS, .int place_1, .int limit_1, .int (b2i full_1)])), (aS, .inr (0, [.ref aB])), (aB, .inl (cB, 202000, .inl (by_ b_1))), (aPs, .inl (cI, 8, .inl pst)), (aPe, .inl (cI, 8, .inl pen))] := hD.sub [0, 3, 4, 5, 1, 2] (by decide) rfl
  refine lv_istore_n (lv' := [(3, .int r_1), (0, .ref aP), (1, .int p0), (2, .int p1)]) hx hb d_PA_rowOfValues_7 rfl hl (by decide) rfl (fun ls hl => ?_)
  refine lv_aload_n hx hb d_PA_rowOfValues_8 rfl (lv_at hl 1 rfl) ?_
  refine va_get (D := D) (ci := 5) (v := .ref aS) (C := R_PA) (T := T_PA) (N := 15) hx hb hT u_PA hown hK hP 0 rfl rfl 0 (by decide) (hT _ k_140) (fun _ h9 => h9) rfl d_PA_rowOfValues_9 ?_
  refine lv_iload_n hx hb d_PA_rowOfValues_12 rfl (lv_at hl 2 rfl) ?_
  refine rd_V (val := tw_ST_endOf b_1 p0) (As := [.int p0]) (rest := []) ⟨hx, hb, hml, hown, hT⟩ (c_ST_endOf l D cB cI aS aB b_1 p0) (cwV 1 hT (gV_of k_576 k_416 k_417 k_2 kc_ST_endOf) rfl rfl rfl hd_ST_endOf ⟨rl_s (Nat.le_of_ble_eq_true rfl), rl_s (Nat.le_of_ble_eq_true rfl)⟩) hk (hP.sub (ws' := [(aS, .inr (0, [.ref aB])), (aB, .inl (cB, 202000, .inl (by_ b_1)))]) [2, 3] rfl) (q0 := 0) rfl rfl rfl rfl hl.1 rfl (Nat.le_of_ble_eq_true rfl) d_PA_rowOfValues_13 ⟨Nat.zero_le _, Nat.zero_le _⟩ ?_
  refine lv_iconst (v := 1) hx hb d_PA_rowOfValues_16 (by decide) ?_
  refine lv_isub hx hb d_PA_rowOfValues_17 ?_
  refine lv_istore (lv' := [(4, .int ((tw_ST_endOf b_1 p0) - 1)), (3, .int r_1), (0, .ref aP), (1, .int p0), (2, .int p1)]) hx hb d_PA_rowOfValues_18 hl (by decide) rfl (fun ls hl => ?_)
  refine lv_iload_n hx hb d_PA_rowOfValues_20 rfl (lv_at hl 3 rfl) ?_
  refine rd_S (val := tw_ST_placeOf p0) (As := [.int p0]) (rest := []) ⟨hx, hb, hml, hown, hT⟩ (c_ST_placeOf l D cB cI p0) (va_cwS 1 hT (gS_of k_574 k_403 k_2 kc_ST_placeOf) rfl rfl rfl hd_ST_placeOf ⟨rl_s (Nat.le_of_ble_eq_true rfl), rl_s (Nat.le_of_ble_eq_true rfl)⟩) hk (va_P_nil) rfl hl.1 rfl (Nat.le_of_ble_eq_true rfl) d_PA_rowOfValues_21 ⟨Nat.zero_le _, Nat.zero_le _⟩ ?_
  refine lv_iconst (v := 4) hx hb d_PA_rowOfValues_24 (by decide) ?_
  refine lv_iadd hx hb d_PA_rowOfValues_25 ?_
  refine lv_istore (lv' := [(5, .int ((tw_ST_placeOf p0) + 4)), (4, .int ((tw_ST_endOf b_1 p0) - 1)), (3, .int r_1), (0, .ref aP), (1, .int p0), (2, .int p1)]) hx hb d_PA_rowOfValues_26 hl (by decide) rfl (fun ls hl => ?_)
  refine lv_iconst (v := 0) hx hb d_PA_rowOfValues_28 (by decide) ?_
  refine lv_istore (lv' := [(6, .int 0), (5, .int ((tw_ST_placeOf p0) + 4)), (4, .int ((tw_ST_endOf b_1 p0) - 1)), (3, .int r_1), (0, .ref aP), (1, .int p0), (2, .int p1)]) hx hb d_PA_rowOfValues_29 hl (by decide) rfl (fun ls hl => ?_)
  refine lv_iconst (v := 0) hx hb d_PA_rowOfValues_31 (by decide) ?_
  refine lv_istore (lv' := [(7, .int 0), (6, .int 0), (5, .int ((tw_ST_placeOf p0) + 4)), (4, .int ((tw_ST_endOf b_1 p0) - 1)), (3, .int r_1), (0, .ref aP), (1, .int p0), (2, .int p1)]) hx hb d_PA_rowOfValues_32 hl (by decide) rfl (fun ls hl => ?_)
  exact l_PA_rowOfValues_h34 C0 l D cB cI aP aS aV aPs aPe aPi aPh aPl aPn aB rF rL L9 U9 A9 fv pcnt pfix pown plc psr pbs pms pst pen hk hA p1 r_1 ((tw_ST_endOf b_1 p0) - 1) hv  ((((1000 : Int32).toInt - (0 : Int32).toInt).toNat) + 1) ((tw_ST_placeOf p0) + 4) 0 0 place_1 limit_1 full_1 b_1 (Nat.lt_succ_self _) (hi_1) (by rw [tw_PA_rowOfValues, ← hw_1, tp5_mk]) _ _ hP hD hS ls (lv_sub hl [5, 7, 4, 3, 2, 1, 0] rfl)
abbrev wd_PA_value (aP aS aV aPs aPe aPi aPh aPl aPn aB : Nat) (cB cI : ClassId) (pcnt : Int32) (pfix : Bool) (pown : Int32) (plc : Int32) (psr : Int32) (pbs : Int32) (pms : Bool) (pst : Nat → Int32) (pen : Nat → Int32) (vplace : Int32) (vlimit : Int32) (vfull : Bool) (b : Nat → UInt8) : va_W := [(aP, .inr (5, [.ref aS, .ref aV, .ref aPs, .ref aPe, .ref aPi, .ref aPh, .int pcnt, .int (b2i pfix), .int pown, .ref aPl, .ref aPn, .int plc, .int psr, .int pbs, .int (b2i pms)])), (aV, .inr (1, [.ref aS, .int vplace, .int vlimit, .int (b2i vfull)])), (aS, .inr (0, [.ref aB])), (aB, .inl (cB, 202000, .inl (by_ b))), (aPs, .inl (cI, 8, .inl pst)), (aPe, .inl (cI, 8, .inl pen))]
set_option maxHeartbeats 4000000 in
set_option maxRecDepth 100000 in
theorem l_PA_value_h21 {p : Program} {e : Env} {s : State} {m : MethodId} {args : Array Value} {below : List Frame} {meth : Method} {c : Code} {V : Int32 × Int32 × Int32 × Bool × (Nat → UInt8)} (C0 : lc_C p s m meth c args b_PA_value 6 (some .int) R_PA lw_g) (l : Launch) (D : va_G) (cB cI : ClassId) (aP aS aV aPs aPe aPi aPh aPl aPn aB : Nat) (rF : Nat) (rL : Nat) (L9 : Int32) (U9 : Bool) (A9 : Int32) (fr : Int32 → Int32 → Int32 → Bool → (Nat → UInt8) → Int32 → Int32 × Int32 × Int32 × Bool × (Nat → UInt8)) (pcnt : Int32) (pfix : Bool) (pown : Int32) (plc : Int32) (psr : Int32) (pbs : Int32) (pms : Bool) (pst : Nat → Int32) (pen : Nat → Int32) {A : Nat → Prop} (hk : hk_ D cB cI s) (hA : ∀ q : Nat, s.heap.size ≤ q → A q) (p1 : Int32) (hrv : ∀ (i : Int32), p1 < i → i < 8 → ∀ (sz : Nat) (vplace : Int32) (vlimit : Int32) (vfull : Bool) (b : Nat → UInt8) (x : Int32), w_okr L9 U9 A9 vplace vlimit vfull → Met l y_PA_rowOfValues mw_PA_rowOfValues { frames := rF, cells := 0, slots := 0, locals := rL } (va_Pc [.ref aP, .int x, .int i] (mt_P D cB cI (wd_PV aP aS aV aPs aPe aPi aPh aPl aPn aB cB cI pcnt pfix pown plc psr pbs pms pst pen vplace vlimit vfull b) sz)) (va_Qi (fun (r : Int32) (u : Int32 × Int32 × Bool × (Nat → UInt8)) => (r, u) = fr i vplace vlimit vfull b x ∧ w_okr L9 U9 A9 u.1 u.2.1 u.2.2.1) (mt_B D (va_A (wd_PV aP aS aV aPs aPe aPi aPh aPl aPn aB cB cI pcnt pfix pown plc psr pbs pms pst pen vplace vlimit vfull b) sz) (fun u => wd_PV aP aS aV aPs aPe aPi aPh aPl aPn aB cB cI pcnt pfix pown plc psr pbs pms pst pen u.1 u.2.1 u.2.2.1 u.2.2.2)) (va_A (wd_PV aP aS aV aPs aPe aPi aPh aPl aPn aB cB cI pcnt pfix pown plc psr pbs pms pst pen vplace vlimit vfull b) sz)) 0 0 (va_A (wd_PV aP aS aV aPs aPe aPi aPh aPl aPn aB cB cI pcnt pfix pown plc psr pbs pms pst pen vplace vlimit vfull b) sz)) : ∀ (n : Nat) (x3 : Int32) (x4 : Int32) (vplace : Int32) (vlimit : Int32) (vfull : Bool) (b : Nat → UInt8), ((8 : Int32).toInt - x4.toInt).toNat < n → ¬ x4 < 0 → (p1 < x4 ∨ tw_ST_kindOf x3 = 3) → p1 ≤ x4 → w_okr L9 U9 A9 vplace vlimit vfull → V = tw_PA_value_h21 fr pcnt pfix pown pst pen p1 n x3 x4 vplace vlimit vfull b → ∀ (H : Heap) (locs : List Loc), va_P D vwCl [(aP, .inr (5, [.ref aS, .ref aV, .ref aPs, .ref aPe, .ref aPi, .ref aPh, .int pcnt, .int (b2i pfix), .int pown, .ref aPl, .ref aPn, .int plc, .int psr, .int pbs, .int (b2i pms)])), (aV, .inr (1, [.ref aS, .int vplace, .int vlimit, .int (b2i vfull)])), (aS, .inr (0, [.ref aB])), (aB, .inl (cB, 202000, .inl (by_ b))), (aPs, .inl (cI, 8, .inl pst)), (aPe, .inl (cI, 8, .inl pen))] H → va_D A [(aP, .inr (5, [.ref aS, .ref aV, .ref aPs, .ref aPe, .ref aPi, .ref aPh, .int pcnt, .int (b2i pfix), .int pown, .ref aPl, .ref aPn, .int plc, .int psr, .int pbs, .int (b2i pms)])), (aV, .inr (1, [.ref aS, .int vplace, .int vlimit, .int (b2i vfull)])), (aS, .inr (0, [.ref aB])), (aB, .inl (cB, 202000, .inl (by_ b))), (aPs, .inl (cI, 8, .inl pst)), (aPe, .inl (cI, 8, .inl pen))] → va_S A s.heap H locs → ∀ ls : Array Slot, lv_has ls 6 [(0, .ref aP), (3, .int x3), (4, .int x4)] → W p l e ({ frames := rF + 5, cells := 0, slots := 0, locals := rL + 120 }) s m args below meth c H locs 0 0 (MQ below (va_Qi (fun (r : Int32) (u : Int32 × Int32 × Bool × (Nat → UInt8)) => (r, u) = V ∧ w_okr L9 U9 A9 u.1 u.2.1 u.2.2.1) (mt_B D A (fun u => wd_PA_value aP aS aV aPs aPe aPi aPh aPl aPn aB cB cI pcnt pfix pown plc psr pbs pms pst pen u.1 u.2.1 u.2.2.1 u.2.2.2)) A) args s 0 0 A) (F0 m 21 ls []) := by
  obtain ⟨hx, hb, hml, hr, hown, hlocks, hT⟩ := id C0
  have hK := hk.1
  have hN := hk.2.1
  intro n
  induction n with
  | zero =>
    intro x3 x4 vplace vlimit vfull b hm
    exact absurd hm (Nat.not_lt_zero _)
  | succ n ih =>
    intro x3 x4 vplace vlimit vfull b hm hv1 hv2 hv3 hi hV H locs hP hD hS ls hl
    refine lv_iload hx hb d_PA_value_21 (lv_at hl 2 rfl) ?_
    refine lv_aload_n hx hb d_PA_value_23 rfl (lv_at hl 0 rfl) ?_
    refine va_get (D := D) (ci := 5) (v := .int pcnt) (C := R_PA) (T := T_PA) (N := 15) hx hb hT u_PA hown hK hP 0 rfl rfl 6 (by decide) (hT _ k_147) (fun _ h9 => h9) rfl d_PA_value_24 ?_
    refine lv_icmp_ge (tgt := 94) hx hb d_PA_value_27 (by decide) (fun c_2 => ?_) (fun c_2 => ?_)
    · refine lv_iload_n hx hb d_PA_value_94 rfl (lv_at hl 1 rfl) ?_
      exact W.iret (v := x3) hx hb hr (fun t ht hW => ⟨⟨x3, (vplace, vlimit, vfull, b), rfl, ⟨(by rw [hV, tw_PA_value_h21, if_pos c_2]; first | done | rfl), hi⟩, by rw [ht]; exact hP, hD⟩, hS.F ht⟩) hS.2.2 d_PA_value_95
    · refine lv_iload hx hb d_PA_value_30 (lv_at hl 2 rfl) ?_
      refine lv_bipush (v := 8) hx hb d_PA_value_32 (by decide) ?_
      refine lv_icmp_ge (tgt := 94) hx hb d_PA_value_34 (by decide) (fun c_3 => ?_) (fun c_3 => ?_)
      · refine lv_iload_n hx hb d_PA_value_94 rfl (lv_at hl 1 rfl) ?_
        exact W.iret (v := x3) hx hb hr (fun t ht hW => ⟨⟨x3, (vplace, vlimit, vfull, b), rfl, ⟨(by rw [hV, tw_PA_value_h21, if_neg c_2, if_pos c_3]; first | done | rfl), hi⟩, by rw [ht]; exact hP, hD⟩, hS.F ht⟩) hS.2.2 d_PA_value_95
      · refine lv_iload_n hx hb d_PA_value_37 rfl (lv_at hl 1 rfl) ?_
        refine rd_S (val := tw_ST_kindOf x3) (As := [.int x3]) (rest := []) ⟨hx, hb, hml, hown, hT⟩ (c_ST_kindOf l D cB cI x3) (va_cwS 1 hT (gS_of k_573 k_555 k_2 kc_ST_kindOf) rfl rfl rfl hd_ST_kindOf ⟨rl_s (Nat.le_of_ble_eq_true rfl), rl_s (Nat.le_of_ble_eq_true rfl)⟩) hk (va_P_nil) rfl hl.1 rfl (Nat.le_of_ble_eq_true rfl) d_PA_value_38 ⟨Nat.zero_le _, Nat.zero_le _⟩ ?_
        refine lv_istore (lv' := [(5, .int (tw_ST_kindOf x3)), (0, .ref aP), (3, .int x3), (4, .int x4)]) hx hb d_PA_value_41 hl (by decide) rfl (fun ls hl => ?_)
        refine lv_iload hx hb d_PA_value_43 (lv_at hl 0 rfl) ?_
        refine lv_iconst (v := 4) hx hb d_PA_value_45 (by decide) ?_
        refine lv_icmp_ne (tgt := 57) hx hb d_PA_value_46 (by decide) (fun c_4 => ?_) (fun c_4 => ?_)
        · refine lv_iload hx hb d_PA_value_57 (lv_at hl 0 rfl) ?_
          refine lv_iconst (v := 3) hx hb d_PA_value_59 (by decide) ?_
          refine lv_icmp_eq (tgt := 65) hx hb d_PA_value_60 (by decide) (fun c_5 => ?_) (fun c_5 => ?_)
          · refine lv_aload_n hx hb d_PA_value_65 rfl (lv_at hl 1 rfl) ?_
            refine va_get (D := D) (ci := 5) (v := .ref aS) (C := R_PA) (T := T_PA) (N := 15) hx hb hT u_PA hown hK hP 0 rfl rfl 0 (by decide) (hT _ k_140) (fun _ h9 => h9) rfl d_PA_value_66 ?_
            refine lv_iload_n hx hb d_PA_value_69 rfl (lv_at hl 2 rfl) ?_
            refine lv_aload_n hx hb d_PA_value_70 rfl (lv_at hl 1 rfl) ?_
            refine va_get (D := D) (ci := 5) (v := .ref aPs) (C := R_PA) (T := T_PA) (N := 15) hx hb hT u_PA hown hK hP 0 rfl rfl 2 (by decide) (hT _ k_142) (fun _ h9 => h9) rfl d_PA_value_71 ?_
            refine lv_iload hx hb d_PA_value_74 (lv_at hl 3 rfl) ?_
            refine va_iald hx hb hK hP 4 1 rfl rfl (in_nn hv1 c_3 rfl) d_PA_value_76 ?_
            refine lv_aload_n hx hb d_PA_value_77 rfl (lv_at hl 1 rfl) ?_
            refine va_get (D := D) (ci := 5) (v := .ref aPe) (C := R_PA) (T := T_PA) (N := 15) hx hb hT u_PA hown hK hP 0 rfl rfl 3 (by decide) (hT _ k_143) (fun _ h9 => h9) rfl d_PA_value_78 ?_
            refine lv_iload hx hb d_PA_value_81 (lv_at hl 3 rfl) ?_
            refine va_iald hx hb hK hP 5 1 rfl rfl (in_nn hv1 c_3 rfl) d_PA_value_83 ?_
            refine rd_V (val := tw_ST_find b x3 (pst x4.toNatClampNeg) (pen x4.toNatClampNeg)) (As := [.int x3, .int (pst x4.toNatClampNeg), .int (pen x4.toNatClampNeg)]) (rest := []) ⟨hx, hb, hml, hown, hT⟩ (c_ST_find l D cB cI aS aB b x3 (pst x4.toNatClampNeg) (pen x4.toNatClampNeg)) (cwV 3 hT (gV_of k_651 k_611 k_612 k_2 kc_ST_find) rfl rfl rfl hd_ST_find ⟨rl_s (Nat.le_of_ble_eq_true rfl), rl_s (Nat.le_of_ble_eq_true rfl)⟩) hk (hP.sub (ws' := [(aS, .inr (0, [.ref aB])), (aB, .inl (cB, 202000, .inl (by_ b)))]) [2, 3] rfl) (q0 := 0) rfl rfl rfl rfl hl.1 rfl (Nat.le_of_ble_eq_true rfl) d_PA_value_84 ⟨Nat.zero_le _, Nat.zero_le _⟩ ?_
            refine lv_istore_n (lv' := [(3, .int (tw_ST_find b x3 (pst x4.toNatClampNeg) (pen x4.toNatClampNeg))), (5, .int (tw_ST_kindOf x3)), (0, .ref aP), (4, .int x4)]) hx hb d_PA_value_87 rfl hl (by decide) rfl (fun ls hl => ?_)
            refine lv_iinc (v := x4 + 1) (lv' := [(4, .int (x4 + 1)), (3, .int (tw_ST_find b x3 (pst x4.toNatClampNeg) (pen x4.toNatClampNeg))), (5, .int (tw_ST_kindOf x3)), (0, .ref aP)]) hx hb d_PA_value_88 hl (k := 3) rfl rfl (by decide) rfl (fun ls hl => ?_)
            refine lv_goto (tgt := 21) hx hb d_PA_value_91 (by decide) ?_
            exact ih (tw_ST_find b x3 (pst x4.toNatClampNeg) (pen x4.toNatClampNeg)) (x4 + 1) vplace vlimit vfull b (lp_up hm c_3) (i_upn hv1 c_3) (Or.inl (st_lt hv3 c_3)) (st_up hv3 c_3) (hi) (by rw [hV, tw_PA_value_h21, if_neg c_2, if_neg c_3, if_neg c_4, if_pos c_5]) _ _ hP hD hS ls (lv_sub hl [3, 1, 0] rfl)
          · refine lv_iconst (v := 0) hx hb d_PA_value_63 (by decide) ?_
            exact W.iret (v := 0) hx hb hr (fun t ht hW => ⟨⟨0, (vplace, vlimit, vfull, b), rfl, ⟨(by rw [hV, tw_PA_value_h21, if_neg c_2, if_neg c_3, if_neg c_4, if_neg c_5]; first | done | rfl), hi⟩, by rw [ht]; exact hP, hD⟩, hS.F ht⟩) hS.2.2 d_PA_value_64
        · refine lv_aload_n hx hb d_PA_value_49 rfl (lv_at hl 1 rfl) ?_
          refine lv_iload_n hx hb d_PA_value_50 rfl (lv_at hl 2 rfl) ?_
          refine lv_iload hx hb d_PA_value_51 (lv_at hl 3 rfl) ?_
          refine mt_Vi (As := [.int x3, .int x4]) (rest := []) (wr := []) ⟨hx, hb, hml, hown, hT⟩ (hrv x4 (st_row hv2 c_4) (i_lt_of c_3) _ vplace vlimit vfull b x3 hi) (cwV 2 hT (gV_of k_629 k_631 kp_PA_rowOfValues k_7 kc_PA_rowOfValues) rfl rfl rfl hd_PA_rowOfValues ⟨rl_f (Nat.le_of_ble_eq_true rfl), rl_l (Nat.le_of_ble_eq_true rfl)⟩) hk hP hD hS hA [0, 1, 2, 3, 4, 5] [] rfl rfl rfl (by decide) (by decide) (by decide) (q0 := 0) rfl rfl rfl rfl hl.1 rfl (Nat.le_of_ble_eq_true rfl) d_PA_value_53 ⟨Nat.zero_le _, Nat.zero_le _⟩ (fun r_6 u_6 H locs hw_6 hP hD hS => ?_)
          obtain ⟨vplace_6, vlimit_6, vfull_6, b_6⟩ := u_6
          obtain ⟨hw_6, hi_6⟩ := hw_6
          have hP : va_P D vwCl [(aP, .inr (5, [.ref aS, .ref aV, .ref aPs, .ref aPe, .ref aPi, .ref aPh, .int pcnt, .int (b2i pfix), .int pown, .ref aPl, .ref aPn, .int plc, .int psr, .int pbs, .int (b2i pms)])), (aV, .inr (1, [.ref aS, .int vplace_6, .int vlimit_6, .int (b2i vfull_6)])), (aS, .inr (0, [.ref aB])), (aB, .inl (cB, 202000, .inl (by_ b_6))), (aPs, .inl (cI, 8, .inl pst)), (aPe, .inl (cI, 8, .inl pen))] H := hP.sub [0, 1, 2, 3, 4, 5] rfl
          have hD : va_D A [(aP, .inr (5, [.ref aS, .ref aV, .ref aPs, .ref aPe, .ref aPi, .ref aPh, .int pcnt, .int (b2i pfix), .int pown, .ref aPl, .ref aPn, .int plc, .int psr, .int pbs, .int (b2i pms)])), (aV, .inr (1, [.ref aS, .int vplace_6, .int vlimit_6, .int (b2i vfull_6)])), (aS, .inr (0, [.ref aB])), (aB, .inl (cB, 202000, .inl (by_ b_6))), (aPs, .inl (cI, 8, .inl pst)), (aPe, .inl (cI, 8, .inl pen))] := hD.sub [0, 1, 2, 3, 4, 5] (by decide) rfl
          exact W.iret (v := r_6) hx hb hr (fun t ht hW => ⟨⟨r_6, (vplace_6, vlimit_6, vfull_6, b_6), rfl, ⟨(by rw [hV, tw_PA_value_h21, if_neg c_2, if_neg c_3, if_pos c_4, ← hw_6, tp5_mk]; first | done | rfl), hi_6⟩, by rw [ht]; exact hP, hD⟩, hS.F ht⟩) hS.2.2 d_PA_value_56
set_option maxHeartbeats 4000000 in
set_option maxRecDepth 100000 in
theorem c_PA_value (l : Launch) (D : va_G) (cB cI : ClassId) (aP aS aV aPs aPe aPi aPh aPl aPn aB : Nat) (rF : Nat) (rL : Nat) (L9 : Int32) (U9 : Bool) (A9 : Int32) (fr : Int32 → Int32 → Int32 → Bool → (Nat → UInt8) → Int32 → Int32 × Int32 × Int32 × Bool × (Nat → UInt8)) (pcnt : Int32) (pfix : Bool) (pown : Int32) (plc : Int32) (psr : Int32) (pbs : Int32) (pms : Bool) (pst : Nat → Int32) (pen : Nat → Int32) (sz : Nat) (vplace : Int32) (vlimit : Int32) (vfull : Bool) (b : Nat → UInt8) (p0 : Int32) (p1 : Int32) (hrv : ∀ (i : Int32), p1 < i → i < 8 → ∀ (sz : Nat) (vplace : Int32) (vlimit : Int32) (vfull : Bool) (b : Nat → UInt8) (x : Int32), w_okr L9 U9 A9 vplace vlimit vfull → Met l y_PA_rowOfValues mw_PA_rowOfValues { frames := rF, cells := 0, slots := 0, locals := rL } (va_Pc [.ref aP, .int x, .int i] (mt_P D cB cI (wd_PV aP aS aV aPs aPe aPi aPh aPl aPn aB cB cI pcnt pfix pown plc psr pbs pms pst pen vplace vlimit vfull b) sz)) (va_Qi (fun (r : Int32) (u : Int32 × Int32 × Bool × (Nat → UInt8)) => (r, u) = fr i vplace vlimit vfull b x ∧ w_okr L9 U9 A9 u.1 u.2.1 u.2.2.1) (mt_B D (va_A (wd_PV aP aS aV aPs aPe aPi aPh aPl aPn aB cB cI pcnt pfix pown plc psr pbs pms pst pen vplace vlimit vfull b) sz) (fun u => wd_PV aP aS aV aPs aPe aPi aPh aPl aPn aB cB cI pcnt pfix pown plc psr pbs pms pst pen u.1 u.2.1 u.2.2.1 u.2.2.2)) (va_A (wd_PV aP aS aV aPs aPe aPi aPh aPl aPn aB cB cI pcnt pfix pown plc psr pbs pms pst pen vplace vlimit vfull b) sz)) 0 0 (va_A (wd_PV aP aS aV aPs aPe aPi aPh aPl aPn aB cB cI pcnt pfix pown plc psr pbs pms pst pen vplace vlimit vfull b) sz)) (hkd : tw_ST_kindOf p0 = 3) (hi : w_okr L9 U9 A9 vplace vlimit vfull) : Met l y_PA_value mw_PA_value { frames := rF + 5, cells := 0, slots := 0, locals := rL + 120 } (va_Pc [.ref aP, .int p0, .int p1] (mt_P D cB cI (wd_PA_value aP aS aV aPs aPe aPi aPh aPl aPn aB cB cI pcnt pfix pown plc psr pbs pms pst pen vplace vlimit vfull b) sz)) (va_Qi (fun (r : Int32) (u : Int32 × Int32 × Bool × (Nat → UInt8)) => (r, u) = tw_PA_value fr pcnt pfix pown pst pen vplace vlimit vfull b p0 p1 ∧ w_okr L9 U9 A9 u.1 u.2.1 u.2.2.1) (mt_B D (va_A (wd_PA_value aP aS aV aPs aPe aPi aPh aPl aPn aB cB cI pcnt pfix pown plc psr pbs pms pst pen vplace vlimit vfull b) sz) (fun u => wd_PA_value aP aS aV aPs aPe aPi aPh aPl aPn aB cB cI pcnt pfix pown plc psr pbs pms pst pen u.1 u.2.1 u.2.2.1 u.2.2.2)) (va_A (wd_PA_value aP aS aV aPs aPe aPi aPh aPl aPn aB cB cI pcnt pfix pown plc psr pbs pms pst pen vplace vlimit vfull b) sz)) 0 0 (va_A (wd_PA_value aP aS aV aPs aPe aPi aPh aPl aPn aB cB cI pcnt pfix pown plc psr pbs pms pst pen vplace vlimit vfull b) sz) := by
  refine Met.ofW (cc := b_PA_value) (maxL := 6) (ret := (some .int)) (by decide) rfl ?_
  intro p e s m args below meth c s₁ B0 hml hv
  obtain ⟨rfl, hsz, hP, hk, hD0⟩ := hv
  have hK := hk.1
  have hN := hk.2.1
  have hx := B0.exec
  have hb := B0.bytes
  have hr := B0.returns
  have hT : ∀ w ∈ lw_g, w.before _ s = true := fun w h => atoms_spec (ws := mw_PA_value) B0.pre w (List.mem_cons_of_mem _ h)
  have hown : s.vm.findClass R_PA = some m.cls := findClass_of_methodNamed B0.named
  have hlocks := B0.notSynchronized
  subst hsz
  have hD := hD0.self (sz := s.heap.size)
  generalize hAe : va_A [(aP, .inr (5, [.ref aS, .ref aV, .ref aPs, .ref aPe, .ref aPi, .ref aPh, .int pcnt, .int (b2i pfix), .int pown, .ref aPl, .ref aPn, .int plc, .int psr, .int pbs, .int (b2i pms)])), (aV, .inr (1, [.ref aS, .int vplace, .int vlimit, .int (b2i vfull)])), (aS, .inr (0, [.ref aB])), (aB, .inl (cB, 202000, .inl (by_ b))), (aPs, .inl (cI, 8, .inl pst)), (aPe, .inl (cI, 8, .inl pen))] s.heap.size = A at hD ⊢
  have hA : ∀ q : Nat, s.heap.size ≤ q → A q := fun q h => by rw [← hAe]; exact Or.inr h
  have hS : va_S A s.heap s.heap [] := va_S.rf
  have hl := lv_entry ([.ref aP, .int p0, .int p1]) (n := 6) (Nat.le_of_ble_eq_true rfl)
  rw [lg_entry_eq]
  generalize (lg_sl ([.ref aP, .int p0, .int p1]) ++ List.replicate (6 - (lg_sl ([.ref aP, .int p0, .int p1])).length) Slot.unset).toArray = ls at hl ⊢
  have hl : lv_has ls 6 [(0, .ref aP), (1, .int p0), (2, .int p1)] := hl
  have C0 : lc_C p s m meth c _ b_PA_value 6 (some .int) R_PA lw_g := ⟨hx, hb, hml, hr, hown, hlocks, hT⟩
  refine lv_aload_n hx hb d_PA_value_0 rfl (lv_at hl 0 rfl) ?_
  refine va_get (D := D) (ci := 5) (v := .int (b2i pfix)) (C := R_PA) (T := T_PA) (N := 15) hx hb hT u_PA hown hK hP 0 rfl rfl 7 (by decide) (hT _ k_149) (fun _ h9 => h9) rfl d_PA_value_1 ?_
  refine lv_if_eq (tgt := 12) hx hb d_PA_value_4 (by decide) (fun c_1 => ?_) (fun c_1 => ?_)
  · refine lv_iload_n hx hb d_PA_value_12 rfl (lv_at hl 1 rfl) ?_
    refine lv_istore_n (lv' := [(3, .int p0), (0, .ref aP), (1, .int p0), (2, .int p1)]) hx hb d_PA_value_13 rfl hl (by decide) rfl (fun ls hl => ?_)
    refine lv_iload_n hx hb d_PA_value_14 rfl (lv_at hl 3 rfl) ?_
    refine lv_iconst (v := 0) hx hb d_PA_value_15 (by decide) ?_
    refine va_mmax hx hb (hml.trans hl.1.symm) hown (hT _ k_626) (hT _ k_627) (hT _ k_13) (hT _ kc_JM_max) (rl_s (Nat.le_of_ble_eq_true rfl)) (rl_s (Nat.le_of_ble_eq_true rfl)) (Nat.zero_le _) (Nat.zero_le _) d_PA_value_16 ?_
    refine lv_istore (lv' := [(4, .int (if p1 < 0 then 0 else p1)), (3, .int p0), (0, .ref aP), (1, .int p0), (2, .int p1)]) hx hb d_PA_value_19 hl (by decide) rfl (fun ls hl => ?_)
    exact l_PA_value_h21 C0 l D cB cI aP aS aV aPs aPe aPi aPh aPl aPn aB rF rL L9 U9 A9 fr pcnt pfix pown plc psr pbs pms pst pen hk hA p1 hrv  ((((8 : Int32).toInt - (if p1 < 0 then 0 else p1).toInt).toNat) + 1) p0 (if p1 < 0 then 0 else p1) vplace vlimit vfull b (Nat.lt_succ_self _) (mx_nn) (Or.inr hkd) (mx_le) (hi) (by rw [tw_PA_value, if_pos c_1]) _ _ hP hD hS ls (lv_sub hl [2, 1, 0] rfl)
  · refine lv_aload_n hx hb d_PA_value_7 rfl (lv_at hl 0 rfl) ?_
    refine va_get (D := D) (ci := 5) (v := .int pown) (C := R_PA) (T := T_PA) (N := 15) hx hb hT u_PA hown hK hP 0 rfl rfl 8 (by decide) (hT _ k_150) (fun _ h9 => h9) rfl d_PA_value_8 ?_
    exact W.iret (v := pown) hx hb hr (fun t ht hW => ⟨⟨pown, (vplace, vlimit, vfull, b), rfl, ⟨(by rw [tw_PA_value, if_neg c_1]; first | done | rfl), hi⟩, by rw [ht]; exact hP, hD⟩, hS.F ht⟩) hS.2.2 d_PA_value_11
