/-! printed by wip/gen -/
theorem k_875 : (Jvm.Cond.methodLink "PipelineBelt$Path" (139 : Nat) ({ cls := "PipelineBelt$Path", name := "goOn", desc := "(III)V" } : Jvm.MethodName)) ∈ lw_g := lw_gm (List.mem_append_right _ (List.mem_of_getElem? (i := 875) (by decide +kernel))) rfl
theorem k_877 : (Jvm.Cond.instanceMethod ({ cls := "PipelineBelt$Path", name := "goOn", desc := "(III)V" } : Jvm.MethodName)) ∈ lw_g := lw_gm (List.mem_append_right _ (List.mem_of_getElem? (i := 877) (by decide +kernel))) rfl
theorem k_883 : (Jvm.Cond.methodLink "PipelineBelt$Path" (146 : Nat) ({ cls := "PipelineBelt$Path", name := "meetItems", desc := "(I)V" } : Jvm.MethodName)) ∈ lw_g := lw_gm (List.mem_append_right _ (List.mem_of_getElem? (i := 883) (by decide +kernel))) rfl
theorem k_885 : (Jvm.Cond.instanceMethod ({ cls := "PipelineBelt$Path", name := "meetItems", desc := "(I)V" } : Jvm.MethodName)) ∈ lw_g := lw_gm (List.mem_append_right _ (List.mem_of_getElem? (i := 885) (by decide +kernel))) rfl
theorem k_887 : (Jvm.Cond.methodLink "PipelineBelt$Path" (149 : Nat) ({ cls := "PipelineBelt$Store", name := "item", desc := "(II)I" } : Jvm.MethodName)) ∈ lw_g := lw_gm (List.mem_append_right _ (List.mem_of_getElem? (i := 887) (by decide +kernel))) rfl
theorem k_888 : (Jvm.Cond.instanceMethod ({ cls := "PipelineBelt$Store", name := "item", desc := "(II)I" } : Jvm.MethodName)) ∈ lw_g := lw_gm (List.mem_append_right _ (List.mem_of_getElem? (i := 888) (by decide +kernel))) rfl
theorem k_889 : (Jvm.Cond.selects "PipelineBelt$Store" ({ cls := "PipelineBelt$Store", name := "item", desc := "(II)I" } : Jvm.MethodName) ({ cls := "PipelineBelt$Store", name := "item", desc := "(II)I" } : Jvm.MethodName)) ∈ lw_g := lw_gm (List.mem_append_right _ (List.mem_of_getElem? (i := 889) (by decide +kernel))) rfl
theorem k_891 : (Jvm.Cond.methodLink "PipelineBelt$Path" (152 : Nat) ({ cls := "PipelineBelt$Path", name := "goOnAtItems", desc := "(III)V" } : Jvm.MethodName)) ∈ lw_g := lw_gm (List.mem_append_right _ (List.mem_of_getElem? (i := 891) (by decide +kernel))) rfl
theorem k_893 : (Jvm.Cond.instanceMethod ({ cls := "PipelineBelt$Path", name := "goOnAtItems", desc := "(III)V" } : Jvm.MethodName)) ∈ lw_g := lw_gm (List.mem_append_right _ (List.mem_of_getElem? (i := 893) (by decide +kernel))) rfl
abbrev b_PA_goOnAtItems : ByteArray := prog_7_method_14_code
def y_PA_goOnAtItems : MethodName := ⟨R_PA, "goOnAtItems", "(III)V"⟩
theorem kc_PA_goOnAtItems : Cond.code y_PA_goOnAtItems b_PA_goOnAtItems 8 none ∈ lw_g := lw_gm (List.mem_append_right _ (List.mem_of_getElem? (i := 894) (by decide +kernel))) rfl
abbrev mw_PA_goOnAtItems : List Cond := Cond.code y_PA_goOnAtItems b_PA_goOnAtItems 8 none :: lw_g
theorem hd_PA_goOnAtItems : y_PA_goOnAtItems.cls = R_PA ∧ y_PA_goOnAtItems.cls ≠ "java/lang/invoke/MethodHandle" ∧ y_PA_goOnAtItems.cls ≠ "java/lang/invoke/VarHandle" ∧ (parseMethodDescriptor y_PA_goOnAtItems.desc).map (fun d => d.parameters.length) = some 3 := by decide +kernel
theorem kp_PA_goOnAtItems : Cond.selects R_PA y_PA_goOnAtItems y_PA_goOnAtItems ∈ lw_g := lw_gm (List.mem_append_left _ (by decide +kernel)) rfl
theorem d_PA_goOnAtItems_0 : decode b_PA_goOnAtItems 0 = .ok (.aload_n 0, 1) := by decide +kernel
theorem d_PA_goOnAtItems_1 : decode b_PA_goOnAtItems 1 = .ok (.getfield 30, 3) := by decide +kernel
theorem d_PA_goOnAtItems_4 : decode b_PA_goOnAtItems 4 = .ok (.iload_n 1, 1) := by decide +kernel
theorem d_PA_goOnAtItems_5 : decode b_PA_goOnAtItems 5 = .ok (.invokevirtual 64, 3) := by decide +kernel
theorem d_PA_goOnAtItems_8 : decode b_PA_goOnAtItems 8 = .ok (.iconst 1, 1) := by decide +kernel
theorem d_PA_goOnAtItems_9 : decode b_PA_goOnAtItems 9 = .ok (.isub, 1) := by decide +kernel
theorem d_PA_goOnAtItems_10 : decode b_PA_goOnAtItems 10 = .ok (.istore 4, 2) := by decide +kernel
theorem d_PA_goOnAtItems_12 : decode b_PA_goOnAtItems 12 = .ok (.iload_n 1, 1) := by decide +kernel
theorem d_PA_goOnAtItems_13 : decode b_PA_goOnAtItems 13 = .ok (.invokestatic 61, 3) := by decide +kernel
theorem d_PA_goOnAtItems_16 : decode b_PA_goOnAtItems 16 = .ok (.iconst 4, 1) := by decide +kernel
theorem d_PA_goOnAtItems_17 : decode b_PA_goOnAtItems 17 = .ok (.iadd, 1) := by decide +kernel
theorem d_PA_goOnAtItems_18 : decode b_PA_goOnAtItems 18 = .ok (.istore 5, 2) := by decide +kernel
theorem d_PA_goOnAtItems_20 : decode b_PA_goOnAtItems 20 = .ok (.iconst 0, 1) := by decide +kernel
theorem d_PA_goOnAtItems_21 : decode b_PA_goOnAtItems 21 = .ok (.istore 6, 2) := by decide +kernel
theorem d_PA_goOnAtItems_23 : decode b_PA_goOnAtItems 23 = .ok (.iload 6, 2) := by decide +kernel
theorem d_PA_goOnAtItems_25 : decode b_PA_goOnAtItems 25 = .ok (.sipush 1000, 3) := by decide +kernel
theorem d_PA_goOnAtItems_28 : decode b_PA_goOnAtItems 28 = .ok (.if_icmp .ge 57, 3) := by decide +kernel
theorem d_PA_goOnAtItems_31 : decode b_PA_goOnAtItems 31 = .ok (.iload 5, 2) := by decide +kernel
theorem d_PA_goOnAtItems_33 : decode b_PA_goOnAtItems 33 = .ok (.iload 4, 2) := by decide +kernel
theorem d_PA_goOnAtItems_35 : decode b_PA_goOnAtItems 35 = .ok (.if_icmp .ge 50, 3) := by decide +kernel
theorem d_PA_goOnAtItems_38 : decode b_PA_goOnAtItems 38 = .ok (.aload_n 0, 1) := by decide +kernel
theorem d_PA_goOnAtItems_39 : decode b_PA_goOnAtItems 39 = .ok (.getfield 30, 3) := by decide +kernel
theorem d_PA_goOnAtItems_42 : decode b_PA_goOnAtItems 42 = .ok (.iload 5, 2) := by decide +kernel
theorem d_PA_goOnAtItems_44 : decode b_PA_goOnAtItems 44 = .ok (.invokevirtual 102, 3) := by decide +kernel
theorem d_PA_goOnAtItems_47 : decode b_PA_goOnAtItems 47 = .ok (.istore 7, 2) := by decide +kernel
theorem d_PA_goOnAtItems_49 : decode b_PA_goOnAtItems 49 = .ok (.iload 7, 2) := by decide +kernel
theorem d_PA_goOnAtItems_51 : decode b_PA_goOnAtItems 51 = .ok (.invokestatic 78, 3) := by decide +kernel
theorem d_PA_goOnAtItems_54 : decode b_PA_goOnAtItems 54 = .ok (.iconst 3, 1) := by decide +kernel
theorem d_PA_goOnAtItems_55 : decode b_PA_goOnAtItems 55 = .ok (.if_icmp .ne 13, 3) := by decide +kernel
theorem d_PA_goOnAtItems_58 : decode b_PA_goOnAtItems 58 = .ok (.aload_n 0, 1) := by decide +kernel
theorem d_PA_goOnAtItems_59 : decode b_PA_goOnAtItems 59 = .ok (.iload 7, 2) := by decide +kernel
theorem d_PA_goOnAtItems_61 : decode b_PA_goOnAtItems 61 = .ok (.iload_n 2, 1) := by decide +kernel
theorem d_PA_goOnAtItems_62 : decode b_PA_goOnAtItems 62 = .ok (.iload_n 3, 1) := by decide +kernel
theorem d_PA_goOnAtItems_63 : decode b_PA_goOnAtItems 63 = .ok (.iconst 1, 1) := by decide +kernel
theorem d_PA_goOnAtItems_64 : decode b_PA_goOnAtItems 64 = .ok (.iadd, 1) := by decide +kernel
theorem d_PA_goOnAtItems_65 : decode b_PA_goOnAtItems 65 = .ok (.invokevirtual 139, 3) := by decide +kernel
theorem d_PA_goOnAtItems_68 : decode b_PA_goOnAtItems 68 = .ok (.aload_n 0, 1) := by decide +kernel
theorem d_PA_goOnAtItems_69 : decode b_PA_goOnAtItems 69 = .ok (.getfield 30, 3) := by decide +kernel
theorem d_PA_goOnAtItems_72 : decode b_PA_goOnAtItems 72 = .ok (.iload 7, 2) := by decide +kernel
theorem d_PA_goOnAtItems_74 : decode b_PA_goOnAtItems 74 = .ok (.invokevirtual 64, 3) := by decide +kernel
theorem d_PA_goOnAtItems_77 : decode b_PA_goOnAtItems 77 = .ok (.istore 5, 2) := by decide +kernel
theorem d_PA_goOnAtItems_79 : decode b_PA_goOnAtItems 79 = .ok (.iinc 6 1, 3) := by decide +kernel
theorem d_PA_goOnAtItems_82 : decode b_PA_goOnAtItems 82 = .ok (.goto (-59), 3) := by decide +kernel
theorem d_PA_goOnAtItems_85 : decode b_PA_goOnAtItems 85 = .ok (.return_, 1) := by decide +kernel
abbrev b_PA_goOn : ByteArray := prog_7_method_13_code
def y_PA_goOn : MethodName := ⟨R_PA, "goOn", "(III)V"⟩
theorem kc_PA_goOn : Cond.code y_PA_goOn b_PA_goOn 6 none ∈ lw_g := lw_gm (List.mem_append_right _ (List.mem_of_getElem? (i := 878) (by decide +kernel))) rfl
abbrev mw_PA_goOn : List Cond := Cond.code y_PA_goOn b_PA_goOn 6 none :: lw_g
theorem hd_PA_goOn : y_PA_goOn.cls = R_PA ∧ y_PA_goOn.cls ≠ "java/lang/invoke/MethodHandle" ∧ y_PA_goOn.cls ≠ "java/lang/invoke/VarHandle" ∧ (parseMethodDescriptor y_PA_goOn.desc).map (fun d => d.parameters.length) = some 3 := by decide +kernel
theorem kp_PA_goOn : Cond.selects R_PA y_PA_goOn y_PA_goOn ∈ lw_g := lw_gm (List.mem_append_left _ (by decide +kernel)) rfl
theorem d_PA_goOn_0 : decode b_PA_goOn 0 = .ok (.iload_n 1, 1) := by decide +kernel
theorem d_PA_goOn_1 : decode b_PA_goOn 1 = .ok (.invokestatic 78, 3) := by decide +kernel
theorem d_PA_goOn_4 : decode b_PA_goOn 4 = .ok (.istore 4, 2) := by decide +kernel
theorem d_PA_goOn_6 : decode b_PA_goOn 6 = .ok (.iload_n 2, 1) := by decide +kernel
theorem d_PA_goOn_7 : decode b_PA_goOn 7 = .ok (.ifCond .lt 17, 3) := by decide +kernel
theorem d_PA_goOn_10 : decode b_PA_goOn 10 = .ok (.iload_n 2, 1) := by decide +kernel
theorem d_PA_goOn_11 : decode b_PA_goOn 11 = .ok (.aload_n 0, 1) := by decide +kernel
theorem d_PA_goOn_12 : decode b_PA_goOn 12 = .ok (.getfield 47, 3) := by decide +kernel
theorem d_PA_goOn_15 : decode b_PA_goOn 15 = .ok (.if_icmp .ge 9, 3) := by decide +kernel
theorem d_PA_goOn_18 : decode b_PA_goOn 18 = .ok (.iload_n 2, 1) := by decide +kernel
theorem d_PA_goOn_19 : decode b_PA_goOn 19 = .ok (.bipush 8, 2) := by decide +kernel
theorem d_PA_goOn_21 : decode b_PA_goOn 21 = .ok (.if_icmp .lt 22, 3) := by decide +kernel
theorem d_PA_goOn_24 : decode b_PA_goOn 24 = .ok (.aload_n 0, 1) := by decide +kernel
theorem d_PA_goOn_25 : decode b_PA_goOn 25 = .ok (.iload_n 1, 1) := by decide +kernel
theorem d_PA_goOn_26 : decode b_PA_goOn 26 = .ok (.invokevirtual 143, 3) := by decide +kernel
theorem d_PA_goOn_29 : decode b_PA_goOn 29 = .ok (.iload 4, 2) := by decide +kernel
theorem d_PA_goOn_31 : decode b_PA_goOn 31 = .ok (.iconst 4, 1) := by decide +kernel
theorem d_PA_goOn_32 : decode b_PA_goOn 32 = .ok (.if_icmp .ne 146, 3) := by decide +kernel
theorem d_PA_goOn_35 : decode b_PA_goOn 35 = .ok (.aload_n 0, 1) := by decide +kernel
theorem d_PA_goOn_36 : decode b_PA_goOn 36 = .ok (.iload_n 1, 1) := by decide +kernel
theorem d_PA_goOn_37 : decode b_PA_goOn 37 = .ok (.invokevirtual 146, 3) := by decide +kernel
theorem d_PA_goOn_40 : decode b_PA_goOn 40 = .ok (.goto 138, 3) := by decide +kernel
theorem d_PA_goOn_43 : decode b_PA_goOn 43 = .ok (.iload 4, 2) := by decide +kernel
theorem d_PA_goOn_45 : decode b_PA_goOn 45 = .ok (.iconst 3, 1) := by decide +kernel
theorem d_PA_goOn_46 : decode b_PA_goOn 46 = .ok (.if_icmp .ne 59, 3) := by decide +kernel
theorem d_PA_goOn_49 : decode b_PA_goOn 49 = .ok (.iload_n 3, 1) := by decide +kernel
theorem d_PA_goOn_50 : decode b_PA_goOn 50 = .ok (.bipush 40, 2) := by decide +kernel
theorem d_PA_goOn_52 : decode b_PA_goOn 52 = .ok (.if_icmp .ge 53, 3) := by decide +kernel
theorem d_PA_goOn_55 : decode b_PA_goOn 55 = .ok (.aload_n 0, 1) := by decide +kernel
theorem d_PA_goOn_56 : decode b_PA_goOn 56 = .ok (.getfield 30, 3) := by decide +kernel
theorem d_PA_goOn_59 : decode b_PA_goOn 59 = .ok (.iload_n 1, 1) := by decide +kernel
theorem d_PA_goOn_60 : decode b_PA_goOn 60 = .ok (.aload_n 0, 1) := by decide +kernel
theorem d_PA_goOn_61 : decode b_PA_goOn 61 = .ok (.getfield 9, 3) := by decide +kernel
theorem d_PA_goOn_64 : decode b_PA_goOn 64 = .ok (.iload_n 2, 1) := by decide +kernel
theorem d_PA_goOn_65 : decode b_PA_goOn 65 = .ok (.iaload, 1) := by decide +kernel
theorem d_PA_goOn_66 : decode b_PA_goOn 66 = .ok (.aload_n 0, 1) := by decide +kernel
theorem d_PA_goOn_67 : decode b_PA_goOn 67 = .ok (.getfield 15, 3) := by decide +kernel
theorem d_PA_goOn_70 : decode b_PA_goOn 70 = .ok (.iload_n 2, 1) := by decide +kernel
theorem d_PA_goOn_71 : decode b_PA_goOn 71 = .ok (.iaload, 1) := by decide +kernel
theorem d_PA_goOn_72 : decode b_PA_goOn 72 = .ok (.invokevirtual 81, 3) := by decide +kernel
theorem d_PA_goOn_75 : decode b_PA_goOn 75 = .ok (.istore 5, 2) := by decide +kernel
theorem d_PA_goOn_77 : decode b_PA_goOn 77 = .ok (.iload 5, 2) := by decide +kernel
theorem d_PA_goOn_79 : decode b_PA_goOn 79 = .ok (.ifCond .ne 11, 3) := by decide +kernel
theorem d_PA_goOn_82 : decode b_PA_goOn 82 = .ok (.aload_n 0, 1) := by decide +kernel
theorem d_PA_goOn_83 : decode b_PA_goOn 83 = .ok (.iconst 0, 1) := by decide +kernel
theorem d_PA_goOn_84 : decode b_PA_goOn 84 = .ok (.invokevirtual 143, 3) := by decide +kernel
theorem d_PA_goOn_87 : decode b_PA_goOn 87 = .ok (.goto 15, 3) := by decide +kernel
theorem d_PA_goOn_90 : decode b_PA_goOn 90 = .ok (.aload_n 0, 1) := by decide +kernel
theorem d_PA_goOn_91 : decode b_PA_goOn 91 = .ok (.iload 5, 2) := by decide +kernel
theorem d_PA_goOn_93 : decode b_PA_goOn 93 = .ok (.iload_n 2, 1) := by decide +kernel
theorem d_PA_goOn_94 : decode b_PA_goOn 94 = .ok (.iconst 1, 1) := by decide +kernel
theorem d_PA_goOn_95 : decode b_PA_goOn 95 = .ok (.iadd, 1) := by decide +kernel
theorem d_PA_goOn_96 : decode b_PA_goOn 96 = .ok (.iload_n 3, 1) := by decide +kernel
theorem d_PA_goOn_97 : decode b_PA_goOn 97 = .ok (.iconst 1, 1) := by decide +kernel
theorem d_PA_goOn_98 : decode b_PA_goOn 98 = .ok (.iadd, 1) := by decide +kernel
theorem d_PA_goOn_99 : decode b_PA_goOn 99 = .ok (.invokevirtual 139, 3) := by decide +kernel
theorem d_PA_goOn_102 : decode b_PA_goOn 102 = .ok (.goto 76, 3) := by decide +kernel
theorem d_PA_goOn_105 : decode b_PA_goOn 105 = .ok (.iload 4, 2) := by decide +kernel
theorem d_PA_goOn_107 : decode b_PA_goOn 107 = .ok (.iconst 4, 1) := by decide +kernel
theorem d_PA_goOn_108 : decode b_PA_goOn 108 = .ok (.if_icmp .ne 65, 3) := by decide +kernel
theorem d_PA_goOn_111 : decode b_PA_goOn 111 = .ok (.iload_n 3, 1) := by decide +kernel
theorem d_PA_goOn_112 : decode b_PA_goOn 112 = .ok (.bipush 40, 2) := by decide +kernel
theorem d_PA_goOn_114 : decode b_PA_goOn 114 = .ok (.if_icmp .ge 59, 3) := by decide +kernel
theorem d_PA_goOn_117 : decode b_PA_goOn 117 = .ok (.aload_n 0, 1) := by decide +kernel
theorem d_PA_goOn_118 : decode b_PA_goOn 118 = .ok (.getfield 18, 3) := by decide +kernel
theorem d_PA_goOn_121 : decode b_PA_goOn 121 = .ok (.iload_n 2, 1) := by decide +kernel
theorem d_PA_goOn_122 : decode b_PA_goOn 122 = .ok (.iaload, 1) := by decide +kernel
theorem d_PA_goOn_123 : decode b_PA_goOn 123 = .ok (.ifCond .ge 7, 3) := by decide +kernel
theorem d_PA_goOn_126 : decode b_PA_goOn 126 = .ok (.iconst 0, 1) := by decide +kernel
theorem d_PA_goOn_127 : decode b_PA_goOn 127 = .ok (.goto 17, 3) := by decide +kernel
theorem d_PA_goOn_130 : decode b_PA_goOn 130 = .ok (.aload_n 0, 1) := by decide +kernel
theorem d_PA_goOn_131 : decode b_PA_goOn 131 = .ok (.getfield 30, 3) := by decide +kernel
theorem d_PA_goOn_134 : decode b_PA_goOn 134 = .ok (.iload_n 1, 1) := by decide +kernel
theorem d_PA_goOn_135 : decode b_PA_goOn 135 = .ok (.aload_n 0, 1) := by decide +kernel
theorem d_PA_goOn_136 : decode b_PA_goOn 136 = .ok (.getfield 18, 3) := by decide +kernel
theorem d_PA_goOn_139 : decode b_PA_goOn 139 = .ok (.iload_n 2, 1) := by decide +kernel
theorem d_PA_goOn_140 : decode b_PA_goOn 140 = .ok (.iaload, 1) := by decide +kernel
theorem d_PA_goOn_141 : decode b_PA_goOn 141 = .ok (.invokevirtual 149, 3) := by decide +kernel
theorem d_PA_goOn_144 : decode b_PA_goOn 144 = .ok (.istore 5, 2) := by decide +kernel
theorem d_PA_goOn_146 : decode b_PA_goOn 146 = .ok (.iload 5, 2) := by decide +kernel
theorem d_PA_goOn_148 : decode b_PA_goOn 148 = .ok (.ifCond .eq 15, 3) := by decide +kernel
theorem d_PA_goOn_151 : decode b_PA_goOn 151 = .ok (.aload_n 0, 1) := by decide +kernel
theorem d_PA_goOn_152 : decode b_PA_goOn 152 = .ok (.iload 5, 2) := by decide +kernel
theorem d_PA_goOn_154 : decode b_PA_goOn 154 = .ok (.iload_n 2, 1) := by decide +kernel
theorem d_PA_goOn_155 : decode b_PA_goOn 155 = .ok (.iconst 1, 1) := by decide +kernel
theorem d_PA_goOn_156 : decode b_PA_goOn 156 = .ok (.iadd, 1) := by decide +kernel
theorem d_PA_goOn_157 : decode b_PA_goOn 157 = .ok (.iload_n 3, 1) := by decide +kernel
theorem d_PA_goOn_158 : decode b_PA_goOn 158 = .ok (.iconst 1, 1) := by decide +kernel
theorem d_PA_goOn_159 : decode b_PA_goOn 159 = .ok (.iadd, 1) := by decide +kernel
theorem d_PA_goOn_160 : decode b_PA_goOn 160 = .ok (.invokevirtual 139, 3) := by decide +kernel
theorem d_PA_goOn_163 : decode b_PA_goOn 163 = .ok (.aload_n 0, 1) := by decide +kernel
theorem d_PA_goOn_164 : decode b_PA_goOn 164 = .ok (.iload_n 1, 1) := by decide +kernel
theorem d_PA_goOn_165 : decode b_PA_goOn 165 = .ok (.iload_n 2, 1) := by decide +kernel
theorem d_PA_goOn_166 : decode b_PA_goOn 166 = .ok (.iload_n 3, 1) := by decide +kernel
theorem d_PA_goOn_167 : decode b_PA_goOn 167 = .ok (.invokevirtual 152, 3) := by decide +kernel
theorem d_PA_goOn_170 : decode b_PA_goOn 170 = .ok (.goto 8, 3) := by decide +kernel
theorem d_PA_goOn_173 : decode b_PA_goOn 173 = .ok (.aload_n 0, 1) := by decide +kernel
theorem d_PA_goOn_174 : decode b_PA_goOn 174 = .ok (.iconst 0, 1) := by decide +kernel
theorem d_PA_goOn_175 : decode b_PA_goOn 175 = .ok (.invokevirtual 143, 3) := by decide +kernel
theorem d_PA_goOn_178 : decode b_PA_goOn 178 = .ok (.return_, 1) := by decide +kernel
abbrev b_PA_findLeaves : ByteArray := prog_7_method_12_code
def y_PA_findLeaves : MethodName := ⟨R_PA, "findLeaves", "(I)V"⟩
theorem kc_PA_findLeaves : Cond.code y_PA_findLeaves b_PA_findLeaves 2 none ∈ lw_g := lw_gm (List.mem_append_right _ (List.mem_of_getElem? (i := 874) (by decide +kernel))) rfl
abbrev mw_PA_findLeaves : List Cond := Cond.code y_PA_findLeaves b_PA_findLeaves 2 none :: lw_g
theorem hd_PA_findLeaves : y_PA_findLeaves.cls = R_PA ∧ y_PA_findLeaves.cls ≠ "java/lang/invoke/MethodHandle" ∧ y_PA_findLeaves.cls ≠ "java/lang/invoke/VarHandle" ∧ (parseMethodDescriptor y_PA_findLeaves.desc).map (fun d => d.parameters.length) = some 1 := by decide +kernel
theorem d_PA_findLeaves_0 : decode b_PA_findLeaves 0 = .ok (.aload_n 0, 1) := by decide +kernel
theorem d_PA_findLeaves_1 : decode b_PA_findLeaves 1 = .ok (.iconst 0, 1) := by decide +kernel
theorem d_PA_findLeaves_2 : decode b_PA_findLeaves 2 = .ok (.putfield 127, 3) := by decide +kernel
theorem d_PA_findLeaves_5 : decode b_PA_findLeaves 5 = .ok (.aload_n 0, 1) := by decide +kernel
theorem d_PA_findLeaves_6 : decode b_PA_findLeaves 6 = .ok (.iconst 0, 1) := by decide +kernel
theorem d_PA_findLeaves_7 : decode b_PA_findLeaves 7 = .ok (.putfield 130, 3) := by decide +kernel
theorem d_PA_findLeaves_10 : decode b_PA_findLeaves 10 = .ok (.aload_n 0, 1) := by decide +kernel
theorem d_PA_findLeaves_11 : decode b_PA_findLeaves 11 = .ok (.dup, 1) := by decide +kernel
theorem d_PA_findLeaves_12 : decode b_PA_findLeaves 12 = .ok (.getfield 133, 3) := by decide +kernel
theorem d_PA_findLeaves_15 : decode b_PA_findLeaves 15 = .ok (.iconst 1, 1) := by decide +kernel
theorem d_PA_findLeaves_16 : decode b_PA_findLeaves 16 = .ok (.iadd, 1) := by decide +kernel
theorem d_PA_findLeaves_17 : decode b_PA_findLeaves 17 = .ok (.putfield 133, 3) := by decide +kernel
theorem d_PA_findLeaves_20 : decode b_PA_findLeaves 20 = .ok (.aload_n 0, 1) := by decide +kernel
theorem d_PA_findLeaves_21 : decode b_PA_findLeaves 21 = .ok (.iload_n 1, 1) := by decide +kernel
theorem d_PA_findLeaves_22 : decode b_PA_findLeaves 22 = .ok (.invokestatic 61, 3) := by decide +kernel
theorem d_PA_findLeaves_25 : decode b_PA_findLeaves 25 = .ok (.putfield 136, 3) := by decide +kernel
theorem d_PA_findLeaves_28 : decode b_PA_findLeaves 28 = .ok (.aload_n 0, 1) := by decide +kernel
theorem d_PA_findLeaves_29 : decode b_PA_findLeaves 29 = .ok (.iload_n 1, 1) := by decide +kernel
theorem d_PA_findLeaves_30 : decode b_PA_findLeaves 30 = .ok (.iconst 0, 1) := by decide +kernel
theorem d_PA_findLeaves_31 : decode b_PA_findLeaves 31 = .ok (.iconst 1, 1) := by decide +kernel
theorem d_PA_findLeaves_32 : decode b_PA_findLeaves 32 = .ok (.invokevirtual 139, 3) := by decide +kernel
theorem d_PA_findLeaves_35 : decode b_PA_findLeaves 35 = .ok (.return_, 1) := by decide +kernel
theorem rl_g {a b c d : Nat} (h : a ≤ b) (q : c ≤ d) : a + c ≤ b + d := by omega
theorem rl_h {a b c d : Nat} (h : a ≤ b) (q : c ≤ d) : c + a ≤ b + d := by omega

theorem st_k {i j : Int32} {k : Nat} (h : 8 - i.toInt ≤ (k + 1 : Nat)) (q : i < j) : 8 - j.toInt ≤ (k : Nat) := by
  have := i_lt.mp q
  omega
theorem st_0 {i : Int32} (h : 8 - i.toInt ≤ (0 : Nat)) (q : i < 8) : False := by
  have := i_lt.mp q
  have y : (8 : Int32).toInt = 8 := rfl
  omega
/-- rowOfValues, by how many steps are left -/
theorem c_PA_rowk (l : Launch) (D : va_G) (cB cI : ClassId) (aP aS aV aPs aPe aPi aPh aPl aPn aB : Nat) (pcnt : Int32) (pfix : Bool) (pown : Int32) (plc : Int32) (psr : Int32) (pbs : Int32) (pms : Bool) (pst : Nat → Int32) (pen : Nat → Int32) : ∀ (k : Nat) (L9 : Int32) (U9 : Bool) (A9 : Int32) (i : Int32), i < 8 → 8 - i.toInt ≤ (k : Nat) → ∀ (sz : Nat) (vplace : Int32) (vlimit : Int32) (vfull : Bool) (b : Nat → UInt8) (x : Int32), w_okr L9 U9 A9 vplace vlimit vfull → Met l y_PA_rowOfValues mw_PA_rowOfValues { frames := 10 * k, cells := 0, slots := 0, locals := 240 * k } (va_Pc [.ref aP, .int x, .int i] (mt_P D cB cI (wd_PV aP aS aV aPs aPe aPi aPh aPl aPn aB cB cI pcnt pfix pown plc psr pbs pms pst pen vplace vlimit vfull b) sz)) (va_Qi (fun (r : Int32) (u : Int32 × Int32 × Bool × (Nat → UInt8)) => (r, u) = tw_PA_rowk pcnt pfix pown pst pen k i vplace vlimit vfull b x ∧ w_okr L9 U9 A9 u.1 u.2.1 u.2.2.1) (mt_B D (va_A (wd_PV aP aS aV aPs aPe aPi aPh aPl aPn aB cB cI pcnt pfix pown plc psr pbs pms pst pen vplace vlimit vfull b) sz) (fun u => wd_PV aP aS aV aPs aPe aPi aPh aPl aPn aB cB cI pcnt pfix pown plc psr pbs pms pst pen u.1 u.2.1 u.2.2.1 u.2.2.2)) (va_A (wd_PV aP aS aV aPs aPe aPi aPh aPl aPn aB cB cI pcnt pfix pown plc psr pbs pms pst pen vplace vlimit vfull b) sz)) 0 0 (va_A (wd_PV aP aS aV aPs aPe aPi aPh aPl aPn aB cB cI pcnt pfix pown plc psr pbs pms pst pen vplace vlimit vfull b) sz) := by
  intro k
  induction k with
  | zero =>
    intro L9 U9 A9 i h1 h2
    exact (st_0 h2 h1).elim
  | succ k ih =>
    intro L9 U9 A9 i h1 h2 sz vplace vlimit vfull b x hi
    exact c_PA_rowOfValues l D cB cI aP aS aV aPs aPe aPi aPh aPl aPn aB (10 * k + 5) (240 * k + 120) L9 U9 A9 _ pcnt pfix pown plc psr pbs pms pst pen sz vplace vlimit vfull b x i
      (fun LL UU AA sz vplace vlimit vfull b x hx hi => c_PA_value l D cB cI aP aS aV aPs aPe aPi aPh aPl aPn aB (10 * k) (240 * k) LL UU AA _ pcnt pfix pown plc psr pbs pms pst pen sz vplace vlimit vfull b x i (fun j hj hj8 sz vplace vlimit vfull b x hi => ih LL UU AA j hj8 (st_k h2 hj) sz vplace vlimit vfull b x hi) hx hi) hi
/-- the VALUE at a document -/
theorem st_8 {j : Int32} (q : (0 : Int32) < j) : 8 - j.toInt ≤ (8 : Nat) := by
  have := i_lt.mp q
  have z : (0 : Int32).toInt = 0 := rfl
  omega
theorem c_PA_val0 (l : Launch) (D : va_G) (cB cI : ClassId) (aP aS aV aPs aPe aPi aPh aPl aPn aB : Nat) (L9 : Int32) (U9 : Bool) (A9 : Int32) (pcnt : Int32) (pfix : Bool) (pown : Int32) (plc : Int32) (psr : Int32) (pbs : Int32) (pms : Bool) (pst : Nat → Int32) (pen : Nat → Int32) (sz : Nat) (vplace : Int32) (vlimit : Int32) (vfull : Bool) (b : Nat → UInt8) (x : Int32) (hx : tw_ST_kindOf x = 3) (hi : w_okr L9 U9 A9 vplace vlimit vfull) : Met l y_PA_value mw_PA_value { frames := 85, cells := 0, slots := 0, locals := 2040 } (va_Pc [.ref aP, .int x, .int 0] (mt_P D cB cI (wd_PV aP aS aV aPs aPe aPi aPh aPl aPn aB cB cI pcnt pfix pown plc psr pbs pms pst pen vplace vlimit vfull b) sz)) (va_Qi (fun (r : Int32) (u : Int32 × Int32 × Bool × (Nat → UInt8)) => (r, u) = tw_PA_val0 pcnt pfix pown pst pen vplace vlimit vfull b x ∧ w_okr L9 U9 A9 u.1 u.2.1 u.2.2.1) (mt_B D (va_A (wd_PV aP aS aV aPs aPe aPi aPh aPl aPn aB cB cI pcnt pfix pown plc psr pbs pms pst pen vplace vlimit vfull b) sz) (fun u => wd_PV aP aS aV aPs aPe aPi aPh aPl aPn aB cB cI pcnt pfix pown plc psr pbs pms pst pen u.1 u.2.1 u.2.2.1 u.2.2.2)) (va_A (wd_PV aP aS aV aPs aPe aPi aPh aPl aPn aB cB cI pcnt pfix pown plc psr pbs pms pst pen vplace vlimit vfull b) sz)) 0 0 (va_A (wd_PV aP aS aV aPs aPe aPi aPh aPl aPn aB cB cI pcnt pfix pown plc psr pbs pms pst pen vplace vlimit vfull b) sz) :=
  c_PA_value l D cB cI aP aS aV aPs aPe aPi aPh aPl aPn aB 80 1920 L9 U9 A9 _ pcnt pfix pown plc psr pbs pms pst pen sz vplace vlimit vfull b x 0 (fun j hj hj8 sz vplace vlimit vfull b x hi => c_PA_rowk l D cB cI aP aS aV aPs aPe aPi aPh aPl aPn aB pcnt pfix pown plc psr pbs pms pst pen 8 L9 U9 A9 j hj8 (st_8 hj) sz vplace vlimit vfull b x hi) hx hi

abbrev wd_PG (aP aS aV aPs aPe aPi aPh aPl aPn aB : Nat) (cB cI : ClassId) (pcnt : Int32) (pfix : Bool) (pown : Int32) (psr : Int32) (pbs : Int32) (b : Nat → UInt8) (pst : Nat → Int32) (pen : Nat → Int32) (pix : Nat → Int32) (plc : Int32) (pms : Bool) (plv : Nat → Int32) (psn : Nat → Int32) : va_W := [(aP, .inr (5, [.ref aS, .ref aV, .ref aPs, .ref aPe, .ref aPi, .ref aPh, .int pcnt, .int (b2i pfix), .int pown, .ref aPl, .ref aPn, .int plc, .int psr, .int pbs, .int (b2i pms)])), (aS, .inr (0, [.ref aB])), (aB, .inl (cB, 202000, .inl (by_ b))), (aPs, .inl (cI, 8, .inl pst)), (aPe, .inl (cI, 8, .inl pen)), (aPi, .inl (cI, 8, .inl pix)), (aPl, .inl (cI, 1001, .inl plv)), (aPn, .inl (cI, 2000, .inl psn))]
abbrev wd_PA_goOnAtItems (aP aS aV aPs aPe aPi aPh aPl aPn aB : Nat) (cB cI : ClassId) (pcnt : Int32) (pfix : Bool) (pown : Int32) (psr : Int32) (pbs : Int32) (b : Nat → UInt8) (pst : Nat → Int32) (pen : Nat → Int32) (pix : Nat → Int32) (plc : Int32) (pms : Bool) (plv : Nat → Int32) (psn : Nat → Int32) : va_W := [(aP, .inr (5, [.ref aS, .ref aV, .ref aPs, .ref aPe, .ref aPi, .ref aPh, .int pcnt, .int (b2i pfix), .int pown, .ref aPl, .ref aPn, .int plc, .int psr, .int pbs, .int (b2i pms)])), (aS, .inr (0, [.ref aB])), (aB, .inl (cB, 202000, .inl (by_ b))), (aPs, .inl (cI, 8, .inl pst)), (aPe, .inl (cI, 8, .inl pen)), (aPi, .inl (cI, 8, .inl pix)), (aPl, .inl (cI, 1001, .inl plv)), (aPn, .inl (cI, 2000, .inl psn))]
set_option maxHeartbeats 4000000 in
set_option maxRecDepth 100000 in
theorem l_PA_goOnAtItems_h23 {p : Program} {e : Env} {s : State} {m : MethodId} {args : Array Value} {below : List Frame} {meth : Method} {c : Code} {V : Int32 × Bool × (Nat → Int32) × (Nat → Int32)} (C0 : lc_C p s m meth c args b_PA_goOnAtItems 8 none R_PA lw_g) (l : Launch) (D : va_G) (cB cI : ClassId) (aP aS aV aPs aPe aPi aPh aPl aPn aB : Nat) (rF : Nat) (rL : Nat) (f3 : Int32 → Bool → (Nat → Int32) → (Nat → Int32) → Int32 → Int32 × Bool × (Nat → Int32) × (Nat → Int32)) (pcnt : Int32) (pfix : Bool) (pown : Int32) (psr : Int32) (pbs : Int32) (b : Nat → UInt8) (pst : Nat → Int32) (pen : Nat → Int32) (pix : Nat → Int32) {A : Nat → Prop} (hk : hk_ D cB cI s) (hA : ∀ q : Nat, s.heap.size ≤ q → A q) (p1 : Int32) (p2 : Int32) (x4 : Int32) (h3 :  ∀ (sz : Nat) (plc : Int32) (pms : Bool) (plv : Nat → Int32) (psn : Nat → Int32) (x : Int32), l_ok plc → Met l y_PA_goOn mw_PA_goOn { frames := rF, cells := 0, slots := 0, locals := rL } (va_Pc [.ref aP, .int x, .int p1, .int (p2 + 1)] (mt_P D cB cI (wd_PG aP aS aV aPs aPe aPi aPh aPl aPn aB cB cI pcnt pfix pown psr pbs b pst pen pix plc pms plv psn) sz)) (va_Qv (fun (u : Int32 × Bool × (Nat → Int32) × (Nat → Int32)) => u = f3 plc pms plv psn x ∧ l_ok u.1) (mt_B D (va_A (wd_PG aP aS aV aPs aPe aPi aPh aPl aPn aB cB cI pcnt pfix pown psr pbs b pst pen pix plc pms plv psn) sz) (fun u => wd_PG aP aS aV aPs aPe aPi aPh aPl aPn aB cB cI pcnt pfix pown psr pbs b pst pen pix u.1 u.2.1 u.2.2.1 u.2.2.2)) (va_A (wd_PG aP aS aV aPs aPe aPi aPh aPl aPn aB cB cI pcnt pfix pown psr pbs b pst pen pix plc pms plv psn) sz)) 0 0 (va_A (wd_PG aP aS aV aPs aPe aPi aPh aPl aPn aB cB cI pcnt pfix pown psr pbs b pst pen pix plc pms plv psn) sz)) : ∀ (n : Nat) (x5 : Int32) (x6 : Int32) (plc : Int32) (pms : Bool) (plv : Nat → Int32) (psn : Nat → Int32), ((1000 : Int32).toInt - x6.toInt).toNat < n → l_ok plc → V = tw_PA_goOnAtItems_h23 f3 b p1 p2 x4 n x5 x6 plc pms plv psn → ∀ (H : Heap) (locs : List Loc), va_P D vwCl [(aP, .inr (5, [.ref aS, .ref aV, .ref aPs, .ref aPe, .ref aPi, .ref aPh, .int pcnt, .int (b2i pfix), .int pown, .ref aPl, .ref aPn, .int plc, .int psr, .int pbs, .int (b2i pms)])), (aS, .inr (0, [.ref aB])), (aB, .inl (cB, 202000, .inl (by_ b))), (aPs, .inl (cI, 8, .inl pst)), (aPe, .inl (cI, 8, .inl pen)), (aPi, .inl (cI, 8, .inl pix)), (aPl, .inl (cI, 1001, .inl plv)), (aPn, .inl (cI, 2000, .inl psn))] H → va_D A [(aP, .inr (5, [.ref aS, .ref aV, .ref aPs, .ref aPe, .ref aPi, .ref aPh, .int pcnt, .int (b2i pfix), .int pown, .ref aPl, .ref aPn, .int plc, .int psr, .int pbs, .int (b2i pms)])), (aS, .inr (0, [.ref aB])), (aB, .inl (cB, 202000, .inl (by_ b))), (aPs, .inl (cI, 8, .inl pst)), (aPe, .inl (cI, 8, .inl pen)), (aPi, .inl (cI, 8, .inl pix)), (aPl, .inl (cI, 1001, .inl plv)), (aPn, .inl (cI, 2000, .inl psn))] → va_S A s.heap H locs → ∀ ls : Array Slot, lv_has ls 8 [(0, .ref aP), (2, .int p1), (3, .int p2), (4, .int x4), (5, .int x5), (6, .int x6)] → W p l e ({ frames := rF + 5, cells := 0, slots := 0, locals := rL + 120 }) s m args below meth c H locs 0 0 (MQ below (va_Qv (fun (u : Int32 × Bool × (Nat → Int32) × (Nat → Int32)) => u = V ∧ l_ok u.1) (mt_B D A (fun u => wd_PA_goOnAtItems aP aS aV aPs aPe aPi aPh aPl aPn aB cB cI pcnt pfix pown psr pbs b pst pen pix u.1 u.2.1 u.2.2.1 u.2.2.2)) A) args s 0 0 A) (F0 m 23 ls []) := by
  obtain ⟨hx, hb, hml, hr, hown, hlocks, hT⟩ := id C0
  have hK := hk.1
  have hN := hk.2.1
  intro n
  induction n with
  | zero =>
    intro x5 x6 plc pms plv psn hm
    exact absurd hm (Nat.not_lt_zero _)
  | succ n ih =>
    intro x5 x6 plc pms plv psn hm hi hV H locs hP hD hS ls hl
    refine lv_iload hx hb d_PA_goOnAtItems_23 (lv_at hl 5 rfl) ?_
    refine lv_sipush (v := 1000) hx hb d_PA_goOnAtItems_25 (by decide) ?_
    refine lv_icmp_ge (tgt := 85) hx hb d_PA_goOnAtItems_28 (by decide) (fun c_1 => ?_) (fun c_1 => ?_)
    · exact W.vret hx hb hr (fun t ht hW => ⟨⟨(plc, pms, plv, psn), rfl, ⟨(by rw [hV, tw_PA_goOnAtItems_h23, if_pos c_1]; first | done | rfl), hi⟩, by rw [ht]; exact hP, hD⟩, hS.F ht⟩) hS.2.2 d_PA_goOnAtItems_85
    · refine lv_iload hx hb d_PA_goOnAtItems_31 (lv_at hl 4 rfl) ?_
      refine lv_iload hx hb d_PA_goOnAtItems_33 (lv_at hl 3 rfl) ?_
      refine lv_icmp_ge (tgt := 85) hx hb d_PA_goOnAtItems_35 (by decide) (fun c_2 => ?_) (fun c_2 => ?_)
      · exact W.vret hx hb hr (fun t ht hW => ⟨⟨(plc, pms, plv, psn), rfl, ⟨(by rw [hV, tw_PA_goOnAtItems_h23, if_neg c_1, if_pos c_2]; first | done | rfl), hi⟩, by rw [ht]; exact hP, hD⟩, hS.F ht⟩) hS.2.2 d_PA_goOnAtItems_85
      · refine lv_aload_n hx hb d_PA_goOnAtItems_38 rfl (lv_at hl 0 rfl) ?_
        refine va_get (D := D) (ci := 5) (v := .ref aS) (C := R_PA) (T := T_PA) (N := 15) hx hb hT u_PA hown hK hP 0 rfl rfl 0 (by decide) (hT _ k_140) (fun _ h9 => h9) rfl d_PA_goOnAtItems_39 ?_
        refine lv_iload hx hb d_PA_goOnAtItems_42 (lv_at hl 4 rfl) ?_
        refine rd_V (val := tw_ST_valueOf b x5) (As := [.int x5]) (rest := []) ⟨hx, hb, hml, hown, hT⟩ (c_ST_valueOf l D cB cI aS aB b x5) (cwV 1 hT (gV_of k_634 k_399 k_400 k_2 kc_ST_valueOf) rfl rfl rfl hd_ST_valueOf ⟨rl_s (Nat.le_of_ble_eq_true rfl), rl_s (Nat.le_of_ble_eq_true rfl)⟩) hk (hP.sub (ws' := [(aS, .inr (0, [.ref aB])), (aB, .inl (cB, 202000, .inl (by_ b)))]) [1, 2] rfl) (q0 := 0) rfl rfl rfl rfl hl.1 rfl (Nat.le_of_ble_eq_true rfl) d_PA_goOnAtItems_44 ⟨Nat.zero_le _, Nat.zero_le _⟩ ?_
        refine lv_istore (lv' := [(7, .int (tw_ST_valueOf b x5)), (0, .ref aP), (2, .int p1), (3, .int p2), (4, .int x4), (5, .int x5), (6, .int x6)]) hx hb d_PA_goOnAtItems_47 hl (by decide) rfl (fun ls hl => ?_)
        refine lv_iload hx hb d_PA_goOnAtItems_49 (lv_at hl 0 rfl) ?_
        refine rd_S (val := tw_ST_kindOf (tw_ST_valueOf b x5)) (As := [.int (tw_ST_valueOf b x5)]) (rest := []) ⟨hx, hb, hml, hown, hT⟩ (c_ST_kindOf l D cB cI (tw_ST_valueOf b x5)) (va_cwS 1 hT (gS_of k_573 k_555 k_2 kc_ST_kindOf) rfl rfl rfl hd_ST_kindOf ⟨rl_s (Nat.le_of_ble_eq_true rfl), rl_s (Nat.le_of_ble_eq_true rfl)⟩) hk (va_P_nil) rfl hl.1 rfl (Nat.le_of_ble_eq_true rfl) d_PA_goOnAtItems_51 ⟨Nat.zero_le _, Nat.zero_le _⟩ ?_
        refine lv_iconst (v := 3) hx hb d_PA_goOnAtItems_54 (by decide) ?_
        refine lv_icmp_ne (tgt := 68) hx hb d_PA_goOnAtItems_55 (by decide) (fun c_3 => ?_) (fun c_3 => ?_)
        · refine lv_aload_n hx hb d_PA_goOnAtItems_68 rfl (lv_at hl 1 rfl) ?_
          refine va_get (D := D) (ci := 5) (v := .ref aS) (C := R_PA) (T := T_PA) (N := 15) hx hb hT u_PA hown hK hP 0 rfl rfl 0 (by decide) (hT _ k_140) (fun _ h9 => h9) rfl d_PA_goOnAtItems_69 ?_
          refine lv_iload hx hb d_PA_goOnAtItems_72 (lv_at hl 0 rfl) ?_
          refine rd_V (val := tw_ST_endOf b (tw_ST_valueOf b x5)) (As := [.int (tw_ST_valueOf b x5)]) (rest := []) ⟨hx, hb, hml, hown, hT⟩ (c_ST_endOf l D cB cI aS aB b (tw_ST_valueOf b x5)) (cwV 1 hT (gV_of k_576 k_416 k_417 k_2 kc_ST_endOf) rfl rfl rfl hd_ST_endOf ⟨rl_s (Nat.le_of_ble_eq_true rfl), rl_s (Nat.le_of_ble_eq_true rfl)⟩) hk (hP.sub (ws' := [(aS, .inr (0, [.ref aB])), (aB, .inl (cB, 202000, .inl (by_ b)))]) [1, 2] rfl) (q0 := 0) rfl rfl rfl rfl hl.1 rfl (Nat.le_of_ble_eq_true rfl) d_PA_goOnAtItems_74 ⟨Nat.zero_le _, Nat.zero_le _⟩ ?_
          refine lv_istore (lv' := [(5, .int (tw_ST_endOf b (tw_ST_valueOf b x5))), (7, .int (tw_ST_valueOf b x5)), (0, .ref aP), (2, .int p1), (3, .int p2), (4, .int x4), (6, .int x6)]) hx hb d_PA_goOnAtItems_77 hl (by decide) rfl (fun ls hl => ?_)
          refine lv_iinc (v := x6 + 1) (lv' := [(6, .int (x6 + 1)), (5, .int (tw_ST_endOf b (tw_ST_valueOf b x5))), (7, .int (tw_ST_valueOf b x5)), (0, .ref aP), (2, .int p1), (3, .int p2), (4, .int x4)]) hx hb d_PA_goOnAtItems_79 hl (k := 6) rfl rfl (by decide) rfl (fun ls hl => ?_)
          refine lv_goto (tgt := 23) hx hb d_PA_goOnAtItems_82 (by decide) ?_
          exact ih (tw_ST_endOf b (tw_ST_valueOf b x5)) (x6 + 1) plc pms plv psn (lp_up hm c_1) (hi) (by rw [hV, tw_PA_goOnAtItems_h23, if_neg c_1, if_neg c_2, if_neg c_3]) _ _ hP hD hS ls (lv_sub hl [3, 4, 5, 6, 1, 0] rfl)
        · refine lv_aload_n hx hb d_PA_goOnAtItems_58 rfl (lv_at hl 1 rfl) ?_
          refine lv_iload hx hb d_PA_goOnAtItems_59 (lv_at hl 0 rfl) ?_
          refine lv_iload_n hx hb d_PA_goOnAtItems_61 rfl (lv_at hl 2 rfl) ?_
          refine lv_iload_n hx hb d_PA_goOnAtItems_62 rfl (lv_at hl 3 rfl) ?_
          refine lv_iconst (v := 1) hx hb d_PA_goOnAtItems_63 (by decide) ?_
          refine lv_iadd hx hb d_PA_goOnAtItems_64 ?_
          refine mt_Vv (As := [.int (tw_ST_valueOf b x5), .int p1, .int (p2 + 1)]) (rest := []) (wr := []) ⟨hx, hb, hml, hown, hT⟩ (h3 _ plc pms plv psn (tw_ST_valueOf b x5) hi) (cwV 3 hT (gV_of k_875 k_877 kp_PA_goOn k_7 kc_PA_goOn) rfl rfl rfl hd_PA_goOn ⟨rl_f (Nat.le_of_ble_eq_true rfl), rl_l (Nat.le_of_ble_eq_true rfl)⟩) hk hP hD hS hA [0, 1, 2, 3, 4, 5, 6, 7] [] rfl rfl rfl (by decide) (by decide) (by decide) (q0 := 0) rfl rfl rfl rfl hl.1 rfl (Nat.le_of_ble_eq_true rfl) d_PA_goOnAtItems_65 ⟨Nat.zero_le _, Nat.zero_le _⟩ (fun u_4 H locs hw_4 hP hD hS => ?_)
          obtain ⟨plc_4, pms_4, plv_4, psn_4⟩ := u_4
          obtain ⟨hw_4, hi_4⟩ := hw_4
          have hP : va_P D vwCl [(aP, .inr (5, [.ref aS, .ref aV, .ref aPs, .ref aPe, .ref aPi, .ref aPh, .int pcnt, .int (b2i pfix), .int pown, .ref aPl, .ref aPn, .int plc_4, .int psr, .int pbs, .int (b2i pms_4)])), (aS, .inr (0, [.ref aB])), (aB, .inl (cB, 202000, .inl (by_ b))), (aPs, .inl (cI, 8, .inl pst)), (aPe, .inl (cI, 8, .inl pen)), (aPi, .inl (cI, 8, .inl pix)), (aPl, .inl (cI, 1001, .inl plv_4)), (aPn, .inl (cI, 2000, .inl psn_4))] H := hP.sub [0, 1, 2, 3, 4, 5, 6, 7] rfl
          have hD : va_D A [(aP, .inr (5, [.ref aS, .ref aV, .ref aPs, .ref aPe, .ref aPi, .ref aPh, .int pcnt, .int (b2i pfix), .int pown, .ref aPl, .ref aPn, .int plc_4, .int psr, .int pbs, .int (b2i pms_4)])), (aS, .inr (0, [.ref aB])), (aB, .inl (cB, 202000, .inl (by_ b))), (aPs, .inl (cI, 8, .inl pst)), (aPe, .inl (cI, 8, .inl pen)), (aPi, .inl (cI, 8, .inl pix)), (aPl, .inl (cI, 1001, .inl plv_4)), (aPn, .inl (cI, 2000, .inl psn_4))] := hD.sub [0, 1, 2, 3, 4, 5, 6, 7] (by decide) rfl
          refine lv_aload_n hx hb d_PA_goOnAtItems_68 rfl (lv_at hl 1 rfl) ?_
          refine va_get (D := D) (ci := 5) (v := .ref aS) (C := R_PA) (T := T_PA) (N := 15) hx hb hT u_PA hown hK hP 0 rfl rfl 0 (by decide) (hT _ k_140) (fun _ h9 => h9) rfl d_PA_goOnAtItems_69 ?_
          refine lv_iload hx hb d_PA_goOnAtItems_72 (lv_at hl 0 rfl) ?_
          refine rd_V (val := tw_ST_endOf b (tw_ST_valueOf b x5)) (As := [.int (tw_ST_valueOf b x5)]) (rest := []) ⟨hx, hb, hml, hown, hT⟩ (c_ST_endOf l D cB cI aS aB b (tw_ST_valueOf b x5)) (cwV 1 hT (gV_of k_576 k_416 k_417 k_2 kc_ST_endOf) rfl rfl rfl hd_ST_endOf ⟨rl_s (Nat.le_of_ble_eq_true rfl), rl_s (Nat.le_of_ble_eq_true rfl)⟩) hk (hP.sub (ws' := [(aS, .inr (0, [.ref aB])), (aB, .inl (cB, 202000, .inl (by_ b)))]) [1, 2] rfl) (q0 := 0) rfl rfl rfl rfl hl.1 rfl (Nat.le_of_ble_eq_true rfl) d_PA_goOnAtItems_74 ⟨Nat.zero_le _, Nat.zero_le _⟩ ?_
          refine lv_istore (lv' := [(5, .int (tw_ST_endOf b (tw_ST_valueOf b x5))), (7, .int (tw_ST_valueOf b x5)), (0, .ref aP), (2, .int p1), (3, .int p2), (4, .int x4), (6, .int x6)]) hx hb d_PA_goOnAtItems_77 hl (by decide) rfl (fun ls hl => ?_)
          refine lv_iinc (v := x6 + 1) (lv' := [(6, .int (x6 + 1)), (5, .int (tw_ST_endOf b (tw_ST_valueOf b x5))), (7, .int (tw_ST_valueOf b x5)), (0, .ref aP), (2, .int p1), (3, .int p2), (4, .int x4)]) hx hb d_PA_goOnAtItems_79 hl (k := 6) rfl rfl (by decide) rfl (fun ls hl => ?_)
          refine lv_goto (tgt := 23) hx hb d_PA_goOnAtItems_82 (by decide) ?_
          exact ih (tw_ST_endOf b (tw_ST_valueOf b x5)) (x6 + 1) plc_4 pms_4 plv_4 psn_4 (lp_up hm c_1) (hi_4) (by rw [hV, tw_PA_goOnAtItems_h23, if_neg c_1, if_neg c_2, if_pos c_3, ← hw_4, tp4_mk]) _ _ hP hD hS ls (lv_sub hl [3, 4, 5, 6, 1, 0] rfl)
set_option maxHeartbeats 4000000 in
set_option maxRecDepth 100000 in
theorem c_PA_goOnAtItems (l : Launch) (D : va_G) (cB cI : ClassId) (aP aS aV aPs aPe aPi aPh aPl aPn aB : Nat) (rF : Nat) (rL : Nat) (f3 : Int32 → Bool → (Nat → Int32) → (Nat → Int32) → Int32 → Int32 × Bool × (Nat → Int32) × (Nat → Int32)) (pcnt : Int32) (pfix : Bool) (pown : Int32) (psr : Int32) (pbs : Int32) (b : Nat → UInt8) (pst : Nat → Int32) (pen : Nat → Int32) (pix : Nat → Int32) (sz : Nat) (plc : Int32) (pms : Bool) (plv : Nat → Int32) (psn : Nat → Int32) (p0 : Int32) (p1 : Int32) (p2 : Int32) (h3 :  ∀ (sz : Nat) (plc : Int32) (pms : Bool) (plv : Nat → Int32) (psn : Nat → Int32) (x : Int32), l_ok plc → Met l y_PA_goOn mw_PA_goOn { frames := rF, cells := 0, slots := 0, locals := rL } (va_Pc [.ref aP, .int x, .int p1, .int (p2 + 1)] (mt_P D cB cI (wd_PG aP aS aV aPs aPe aPi aPh aPl aPn aB cB cI pcnt pfix pown psr pbs b pst pen pix plc pms plv psn) sz)) (va_Qv (fun (u : Int32 × Bool × (Nat → Int32) × (Nat → Int32)) => u = f3 plc pms plv psn x ∧ l_ok u.1) (mt_B D (va_A (wd_PG aP aS aV aPs aPe aPi aPh aPl aPn aB cB cI pcnt pfix pown psr pbs b pst pen pix plc pms plv psn) sz) (fun u => wd_PG aP aS aV aPs aPe aPi aPh aPl aPn aB cB cI pcnt pfix pown psr pbs b pst pen pix u.1 u.2.1 u.2.2.1 u.2.2.2)) (va_A (wd_PG aP aS aV aPs aPe aPi aPh aPl aPn aB cB cI pcnt pfix pown psr pbs b pst pen pix plc pms plv psn) sz)) 0 0 (va_A (wd_PG aP aS aV aPs aPe aPi aPh aPl aPn aB cB cI pcnt pfix pown psr pbs b pst pen pix plc pms plv psn) sz)) (hi : l_ok plc) : Met l y_PA_goOnAtItems mw_PA_goOnAtItems { frames := rF + 5, cells := 0, slots := 0, locals := rL + 120 } (va_Pc [.ref aP, .int p0, .int p1, .int p2] (mt_P D cB cI (wd_PA_goOnAtItems aP aS aV aPs aPe aPi aPh aPl aPn aB cB cI pcnt pfix pown psr pbs b pst pen pix plc pms plv psn) sz)) (va_Qv (fun (u : Int32 × Bool × (Nat → Int32) × (Nat → Int32)) => u = tw_PA_goOnAtItems f3 b plc pms plv psn p0 p1 p2 ∧ l_ok u.1) (mt_B D (va_A (wd_PA_goOnAtItems aP aS aV aPs aPe aPi aPh aPl aPn aB cB cI pcnt pfix pown psr pbs b pst pen pix plc pms plv psn) sz) (fun u => wd_PA_goOnAtItems aP aS aV aPs aPe aPi aPh aPl aPn aB cB cI pcnt pfix pown psr pbs b pst pen pix u.1 u.2.1 u.2.2.1 u.2.2.2)) (va_A (wd_PA_goOnAtItems aP aS aV aPs aPe aPi aPh aPl aPn aB cB cI pcnt pfix pown psr pbs b pst pen pix plc pms plv psn) sz)) 0 0 (va_A (wd_PA_goOnAtItems aP aS aV aPs aPe aPi aPh aPl aPn aB cB cI pcnt pfix pown psr pbs b pst pen pix plc pms plv psn) sz) := by
  refine Met.ofW (cc := b_PA_goOnAtItems) (maxL := 8) (ret := none) (by decide) rfl ?_
  intro p e s m args below meth c s₁ B0 hml hv
  obtain ⟨rfl, hsz, hP, hk, hD0⟩ := hv
  have hK := hk.1
  have hN := hk.2.1
  have hx := B0.exec
  have hb := B0.bytes
  have hr := B0.returns
  have hT : ∀ w ∈ lw_g, w.before _ s = true := fun w h => atoms_spec (ws := mw_PA_goOnAtItems) B0.pre w (List.mem_cons_of_mem _ h)
  have hown : s.vm.findClass R_PA = some m.cls := findClass_of_methodNamed B0.named
  have hlocks := B0.notSynchronized
  subst hsz
  have hD := hD0.self (sz := s.heap.size)
  generalize hAe : va_A [(aP, .inr (5, [.ref aS, .ref aV, .ref aPs, .ref aPe, .ref aPi, .ref aPh, .int pcnt, .int (b2i pfix), .int pown, .ref aPl, .ref aPn, .int plc, .int psr, .int pbs, .int (b2i pms)])), (aS, .inr (0, [.ref aB])), (aB, .inl (cB, 202000, .inl (by_ b))), (aPs, .inl (cI, 8, .inl pst)), (aPe, .inl (cI, 8, .inl pen)), (aPi, .inl (cI, 8, .inl pix)), (aPl, .inl (cI, 1001, .inl plv)), (aPn, .inl (cI, 2000, .inl psn))] s.heap.size = A at hD ⊢
  have hA : ∀ q : Nat, s.heap.size ≤ q → A q := fun q h => by rw [← hAe]; exact Or.inr h
  have hS : va_S A s.heap s.heap [] := va_S.rf
  have hl := lv_entry ([.ref aP, .int p0, .int p1, .int p2]) (n := 8) (Nat.le_of_ble_eq_true rfl)
  rw [lg_entry_eq]
  generalize (lg_sl ([.ref aP, .int p0, .int p1, .int p2]) ++ List.replicate (8 - (lg_sl ([.ref aP, .int p0, .int p1, .int p2])).length) Slot.unset).toArray = ls at hl ⊢
  have hl : lv_has ls 8 [(0, .ref aP), (1, .int p0), (2, .int p1), (3, .int p2)] := hl
  have C0 : lc_C p s m meth c _ b_PA_goOnAtItems 8 none R_PA lw_g := ⟨hx, hb, hml, hr, hown, hlocks, hT⟩
  refine lv_aload_n hx hb d_PA_goOnAtItems_0 rfl (lv_at hl 0 rfl) ?_
  refine va_get (D := D) (ci := 5) (v := .ref aS) (C := R_PA) (T := T_PA) (N := 15) hx hb hT u_PA hown hK hP 0 rfl rfl 0 (by decide) (hT _ k_140) (fun _ h9 => h9) rfl d_PA_goOnAtItems_1 ?_
  refine lv_iload_n hx hb d_PA_goOnAtItems_4 rfl (lv_at hl 1 rfl) ?_
  refine rd_V (val := tw_ST_endOf b p0) (As := [.int p0]) (rest := []) ⟨hx, hb, hml, hown, hT⟩ (c_ST_endOf l D cB cI aS aB b p0) (cwV 1 hT (gV_of k_576 k_416 k_417 k_2 kc_ST_endOf) rfl rfl rfl hd_ST_endOf ⟨rl_s (Nat.le_of_ble_eq_true rfl), rl_s (Nat.le_of_ble_eq_true rfl)⟩) hk (hP.sub (ws' := [(aS, .inr (0, [.ref aB])), (aB, .inl (cB, 202000, .inl (by_ b)))]) [1, 2] rfl) (q0 := 0) rfl rfl rfl rfl hl.1 rfl (Nat.le_of_ble_eq_true rfl) d_PA_goOnAtItems_5 ⟨Nat.zero_le _, Nat.zero_le _⟩ ?_
  refine lv_iconst (v := 1) hx hb d_PA_goOnAtItems_8 (by decide) ?_
  refine lv_isub hx hb d_PA_goOnAtItems_9 ?_
  refine lv_istore (lv' := [(4, .int ((tw_ST_endOf b p0) - 1)), (0, .ref aP), (1, .int p0), (2, .int p1), (3, .int p2)]) hx hb d_PA_goOnAtItems_10 hl (by decide) rfl (fun ls hl => ?_)
  refine lv_iload_n hx hb d_PA_goOnAtItems_12 rfl (lv_at hl 2 rfl) ?_
  refine rd_S (val := tw_ST_placeOf p0) (As := [.int p0]) (rest := []) ⟨hx, hb, hml, hown, hT⟩ (c_ST_placeOf l D cB cI p0) (va_cwS 1 hT (gS_of k_574 k_403 k_2 kc_ST_placeOf) rfl rfl rfl hd_ST_placeOf ⟨rl_s (Nat.le_of_ble_eq_true rfl), rl_s (Nat.le_of_ble_eq_true rfl)⟩) hk (va_P_nil) rfl hl.1 rfl (Nat.le_of_ble_eq_true rfl) d_PA_goOnAtItems_13 ⟨Nat.zero_le _, Nat.zero_le _⟩ ?_
  refine lv_iconst (v := 4) hx hb d_PA_goOnAtItems_16 (by decide) ?_
  refine lv_iadd hx hb d_PA_goOnAtItems_17 ?_
  refine lv_istore (lv' := [(5, .int ((tw_ST_placeOf p0) + 4)), (4, .int ((tw_ST_endOf b p0) - 1)), (0, .ref aP), (1, .int p0), (2, .int p1), (3, .int p2)]) hx hb d_PA_goOnAtItems_18 hl (by decide) rfl (fun ls hl => ?_)
  refine lv_iconst (v := 0) hx hb d_PA_goOnAtItems_20 (by decide) ?_
  refine lv_istore (lv' := [(6, .int 0), (5, .int ((tw_ST_placeOf p0) + 4)), (4, .int ((tw_ST_endOf b p0) - 1)), (0, .ref aP), (1, .int p0), (2, .int p1), (3, .int p2)]) hx hb d_PA_goOnAtItems_21 hl (by decide) rfl (fun ls hl => ?_)
  exact l_PA_goOnAtItems_h23 C0 l D cB cI aP aS aV aPs aPe aPi aPh aPl aPn aB rF rL f3 pcnt pfix pown psr pbs b pst pen pix hk hA p1 p2 ((tw_ST_endOf b p0) - 1) h3  ((((1000 : Int32).toInt - (0 : Int32).toInt).toNat) + 1) ((tw_ST_placeOf p0) + 4) 0 plc pms plv psn (Nat.lt_succ_self _) (hi) (by rw [tw_PA_goOnAtItems]) _ _ hP hD hS ls (lv_sub hl [3, 5, 6, 2, 1, 0] rfl)
abbrev wd_PA_goOn (aP aS aV aPs aPe aPi aPh aPl aPn aB : Nat) (cB cI : ClassId) (pcnt : Int32) (pfix : Bool) (pown : Int32) (psr : Int32) (pbs : Int32) (b : Nat → UInt8) (pst : Nat → Int32) (pen : Nat → Int32) (pix : Nat → Int32) (plc : Int32) (pms : Bool) (plv : Nat → Int32) (psn : Nat → Int32) : va_W := [(aP, .inr (5, [.ref aS, .ref aV, .ref aPs, .ref aPe, .ref aPi, .ref aPh, .int pcnt, .int (b2i pfix), .int pown, .ref aPl, .ref aPn, .int plc, .int psr, .int pbs, .int (b2i pms)])), (aS, .inr (0, [.ref aB])), (aB, .inl (cB, 202000, .inl (by_ b))), (aPs, .inl (cI, 8, .inl pst)), (aPe, .inl (cI, 8, .inl pen)), (aPi, .inl (cI, 8, .inl pix)), (aPl, .inl (cI, 1001, .inl plv)), (aPn, .inl (cI, 2000, .inl psn))]
set_option maxHeartbeats 4000000 in
set_option maxRecDepth 100000 in
theorem c_PA_goOn (l : Launch) (D : va_G) (cB cI : ClassId) (aP aS aV aPs aPe aPi aPh aPl aPn aB : Nat) (rF : Nat) (rL : Nat) (rG : Nat) (rH : Nat) (f1 : Int32 → Bool → (Nat → Int32) → (Nat → Int32) → Int32 → Int32 × Bool × (Nat → Int32) × (Nat → Int32)) (f2 : Int32 → Bool → (Nat → Int32) → (Nat → Int32) → Int32 → Int32 × Bool × (Nat → Int32) × (Nat → Int32)) (pcnt : Int32) (pfix : Bool) (pown : Int32) (psr : Int32) (pbs : Int32) (b : Nat → UInt8) (pst : Nat → Int32) (pen : Nat → Int32) (pix : Nat → Int32) (sz : Nat) (plc : Int32) (pms : Bool) (plv : Nat → Int32) (psn : Nat → Int32) (p0 : Int32) (p1 : Int32) (p2 : Int32) (hG : rG ≤ rF ∧ rH ≤ rL) (h1 : ¬ 40 ≤ p2 → ∀ (sz : Nat) (plc : Int32) (pms : Bool) (plv : Nat → Int32) (psn : Nat → Int32) (x : Int32), l_ok plc → Met l y_PA_goOn mw_PA_goOn { frames := rG, cells := 0, slots := 0, locals := rH } (va_Pc [.ref aP, .int x, .int (p1 + 1), .int (p2 + 1)] (mt_P D cB cI (wd_PG aP aS aV aPs aPe aPi aPh aPl aPn aB cB cI pcnt pfix pown psr pbs b pst pen pix plc pms plv psn) sz)) (va_Qv (fun (u : Int32 × Bool × (Nat → Int32) × (Nat → Int32)) => u = f1 plc pms plv psn x ∧ l_ok u.1) (mt_B D (va_A (wd_PG aP aS aV aPs aPe aPi aPh aPl aPn aB cB cI pcnt pfix pown psr pbs b pst pen pix plc pms plv psn) sz) (fun u => wd_PG aP aS aV aPs aPe aPi aPh aPl aPn aB cB cI pcnt pfix pown psr pbs b pst pen pix u.1 u.2.1 u.2.2.1 u.2.2.2)) (va_A (wd_PG aP aS aV aPs aPe aPi aPh aPl aPn aB cB cI pcnt pfix pown psr pbs b pst pen pix plc pms plv psn) sz)) 0 0 (va_A (wd_PG aP aS aV aPs aPe aPi aPh aPl aPn aB cB cI pcnt pfix pown psr pbs b pst pen pix plc pms plv psn) sz)) (h2 : ¬ 40 ≤ p2 → ∀ (sz : Nat) (plc : Int32) (pms : Bool) (plv : Nat → Int32) (psn : Nat → Int32) (x : Int32), l_ok plc → Met l y_PA_goOnAtItems mw_PA_goOnAtItems { frames := rF, cells := 0, slots := 0, locals := rL } (va_Pc [.ref aP, .int x, .int p1, .int p2] (mt_P D cB cI (wd_PG aP aS aV aPs aPe aPi aPh aPl aPn aB cB cI pcnt pfix pown psr pbs b pst pen pix plc pms plv psn) sz)) (va_Qv (fun (u : Int32 × Bool × (Nat → Int32) × (Nat → Int32)) => u = f2 plc pms plv psn x ∧ l_ok u.1) (mt_B D (va_A (wd_PG aP aS aV aPs aPe aPi aPh aPl aPn aB cB cI pcnt pfix pown psr pbs b pst pen pix plc pms plv psn) sz) (fun u => wd_PG aP aS aV aPs aPe aPi aPh aPl aPn aB cB cI pcnt pfix pown psr pbs b pst pen pix u.1 u.2.1 u.2.2.1 u.2.2.2)) (va_A (wd_PG aP aS aV aPs aPe aPi aPh aPl aPn aB cB cI pcnt pfix pown psr pbs b pst pen pix plc pms plv psn) sz)) 0 0 (va_A (wd_PG aP aS aV aPs aPe aPi aPh aPl aPn aB cB cI pcnt pfix pown psr pbs b pst pen pix plc pms plv psn) sz)) (hi : l_ok plc) : Met l y_PA_goOn mw_PA_goOn { frames := rF + 5, cells := 0, slots := 0, locals := rL + 120 } (va_Pc [.ref aP, .int p0, .int p1, .int p2] (mt_P D cB cI (wd_PA_goOn aP aS aV aPs aPe aPi aPh aPl aPn aB cB cI pcnt pfix pown psr pbs b pst pen pix plc pms plv psn) sz)) (va_Qv (fun (u : Int32 × Bool × (Nat → Int32) × (Nat → Int32)) => u = tw_PA_goOn f1 f2 pcnt psr pbs b pst pen pix plc pms plv psn p0 p1 p2 ∧ l_ok u.1) (mt_B D (va_A (wd_PA_goOn aP aS aV aPs aPe aPi aPh aPl aPn aB cB cI pcnt pfix pown psr pbs b pst pen pix plc pms plv psn) sz) (fun u => wd_PA_goOn aP aS aV aPs aPe aPi aPh aPl aPn aB cB cI pcnt pfix pown psr pbs b pst pen pix u.1 u.2.1 u.2.2.1 u.2.2.2)) (va_A (wd_PA_goOn aP aS aV aPs aPe aPi aPh aPl aPn aB cB cI pcnt pfix pown psr pbs b pst pen pix plc pms plv psn) sz)) 0 0 (va_A (wd_PA_goOn aP aS aV aPs aPe aPi aPh aPl aPn aB cB cI pcnt pfix pown psr pbs b pst pen pix plc pms plv psn) sz) := by
  refine Met.ofW (cc := b_PA_goOn) (maxL := 6) (ret := none) (by decide) rfl ?_
  intro p e s m args below meth c s₁ B0 hml hv
  obtain ⟨rfl, hsz, hP, hk, hD0⟩ := hv
  have hK := hk.1
  have hN := hk.2.1
  have hx := B0.exec
  have hb := B0.bytes
  have hr := B0.returns
  have hT : ∀ w ∈ lw_g, w.before _ s = true := fun w h => atoms_spec (ws := mw_PA_goOn) B0.pre w (List.mem_cons_of_mem _ h)
  have hown : s.vm.findClass R_PA = some m.cls := findClass_of_methodNamed B0.named
  have hlocks := B0.notSynchronized
  subst hsz
  have hD := hD0.self (sz := s.heap.size)
  generalize hAe : va_A [(aP, .inr (5, [.ref aS, .ref aV, .ref aPs, .ref aPe, .ref aPi, .ref aPh, .int pcnt, .int (b2i pfix), .int pown, .ref aPl, .ref aPn, .int plc, .int psr, .int pbs, .int (b2i pms)])), (aS, .inr (0, [.ref aB])), (aB, .inl (cB, 202000, .inl (by_ b))), (aPs, .inl (cI, 8, .inl pst)), (aPe, .inl (cI, 8, .inl pen)), (aPi, .inl (cI, 8, .inl pix)), (aPl, .inl (cI, 1001, .inl plv)), (aPn, .inl (cI, 2000, .inl psn))] s.heap.size = A at hD ⊢
  have hA : ∀ q : Nat, s.heap.size ≤ q → A q := fun q h => by rw [← hAe]; exact Or.inr h
  have hS : va_S A s.heap s.heap [] := va_S.rf
  have hl := lv_entry ([.ref aP, .int p0, .int p1, .int p2]) (n := 6) (Nat.le_of_ble_eq_true rfl)
  rw [lg_entry_eq]
  generalize (lg_sl ([.ref aP, .int p0, .int p1, .int p2]) ++ List.replicate (6 - (lg_sl ([.ref aP, .int p0, .int p1, .int p2])).length) Slot.unset).toArray = ls at hl ⊢
  have hl : lv_has ls 6 [(0, .ref aP), (1, .int p0), (2, .int p1), (3, .int p2)] := hl
  refine lv_iload_n hx hb d_PA_goOn_0 rfl (lv_at hl 1 rfl) ?_
  refine rd_S (val := tw_ST_kindOf p0) (As := [.int p0]) (rest := []) ⟨hx, hb, hml, hown, hT⟩ (c_ST_kindOf l D cB cI p0) (va_cwS 1 hT (gS_of k_573 k_555 k_2 kc_ST_kindOf) rfl rfl rfl hd_ST_kindOf ⟨rl_s (Nat.le_of_ble_eq_true rfl), rl_s (Nat.le_of_ble_eq_true rfl)⟩) hk (va_P_nil) rfl hl.1 rfl (Nat.le_of_ble_eq_true rfl) d_PA_goOn_1 ⟨Nat.zero_le _, Nat.zero_le _⟩ ?_
  refine lv_istore (lv' := [(4, .int (tw_ST_kindOf p0)), (0, .ref aP), (1, .int p0), (2, .int p1), (3, .int p2)]) hx hb d_PA_goOn_4 hl (by decide) rfl (fun ls hl => ?_)
  refine lv_iload_n hx hb d_PA_goOn_6 rfl (lv_at hl 3 rfl) ?_
  refine lv_if_lt (tgt := 24) hx hb d_PA_goOn_7 (by decide) (fun c_1 => ?_) (fun c_1 => ?_)
  · refine lv_aload_n hx hb d_PA_goOn_24 rfl (lv_at hl 1 rfl) ?_
    refine lv_iload_n hx hb d_PA_goOn_25 rfl (lv_at hl 2 rfl) ?_
    refine mt_Vv (As := [.int p0]) (rest := []) (wr := [(aS, .inr (0, [.ref aB])), (aB, .inl (cB, 202000, .inl (by_ b))), (aPs, .inl (cI, 8, .inl pst)), (aPe, .inl (cI, 8, .inl pen)), (aPi, .inl (cI, 8, .inl pix))]) ⟨hx, hb, hml, hown, hT⟩ (c_PA_meet l D cB cI aP aS aV aPs aPe aPi aPh aPl aPn pcnt pfix pown psr pbs _ plc pms plv psn p0 hi) (cwV 1 hT (gV_of k_879 k_881 kp_PA_meet k_7 kc_PA_meet) rfl rfl rfl hd_PA_meet ⟨rl_s (Nat.le_of_ble_eq_true rfl), rl_s (Nat.le_of_ble_eq_true rfl)⟩) hk hP hD hS hA [0, 6, 7] [1, 2, 3, 4, 5] rfl rfl rfl (by decide) (by decide) (by decide) (q0 := 0) rfl rfl rfl rfl hl.1 rfl (Nat.le_of_ble_eq_true rfl) d_PA_goOn_26 ⟨Nat.zero_le _, Nat.zero_le _⟩ (fun u_2 H locs hw_2 hP hD hS => ?_)
    obtain ⟨plc_2, pms_2, plv_2, psn_2⟩ := u_2
    obtain ⟨hw_2, hi_2⟩ := hw_2
    have hP : va_P D vwCl [(aP, .inr (5, [.ref aS, .ref aV, .ref aPs, .ref aPe, .ref aPi, .ref aPh, .int pcnt, .int (b2i pfix), .int pown, .ref aPl, .ref aPn, .int plc_2, .int psr, .int pbs, .int (b2i pms_2)])), (aS, .inr (0, [.ref aB])), (aB, .inl (cB, 202000, .inl (by_ b))), (aPs, .inl (cI, 8, .inl pst)), (aPe, .inl (cI, 8, .inl pen)), (aPi, .inl (cI, 8, .inl pix)), (aPl, .inl (cI, 1001, .inl plv_2)), (aPn, .inl (cI, 2000, .inl psn_2))] H := hP.sub [5, 0, 1, 2, 3, 4, 6, 7] rfl
    have hD : va_D A [(aP, .inr (5, [.ref aS, .ref aV, .ref aPs, .ref aPe, .ref aPi, .ref aPh, .int pcnt, .int (b2i pfix), .int pown, .ref aPl, .ref aPn, .int plc_2, .int psr, .int pbs, .int (b2i pms_2)])), (aS, .inr (0, [.ref aB])), (aB, .inl (cB, 202000, .inl (by_ b))), (aPs, .inl (cI, 8, .inl pst)), (aPe, .inl (cI, 8, .inl pen)), (aPi, .inl (cI, 8, .inl pix)), (aPl, .inl (cI, 1001, .inl plv_2)), (aPn, .inl (cI, 2000, .inl psn_2))] := hD.sub [5, 0, 1, 2, 3, 4, 6, 7] (by decide) rfl
    refine lv_iload hx hb d_PA_goOn_29 (lv_at hl 0 rfl) ?_
    refine lv_iconst (v := 4) hx hb d_PA_goOn_31 (by decide) ?_
    refine lv_icmp_ne (tgt := 178) hx hb d_PA_goOn_32 (by decide) (fun c_3 => ?_) (fun c_3 => ?_)
    · exact W.vret hx hb hr (fun t ht hW => ⟨⟨(plc_2, pms_2, plv_2, psn_2), rfl, ⟨(by rw [tw_PA_goOn, if_pos c_1, ← hw_2, tp4_mk, if_neg c_3]; first | done | rfl), hi_2⟩, by rw [ht]; exact hP, hD⟩, hS.F ht⟩) hS.2.2 d_PA_goOn_178
    · refine lv_aload_n hx hb d_PA_goOn_35 rfl (lv_at hl 1 rfl) ?_
      refine lv_iload_n hx hb d_PA_goOn_36 rfl (lv_at hl 2 rfl) ?_
      refine mt_Vv (As := [.int p0]) (rest := []) (wr := [(aPs, .inl (cI, 8, .inl pst)), (aPe, .inl (cI, 8, .inl pen)), (aPi, .inl (cI, 8, .inl pix))]) ⟨hx, hb, hml, hown, hT⟩ (c_PA_meetItems l D cB cI aP aS aV aPs aPe aPi aPh aPl aPn aB pcnt pfix pown psr pbs b _ plc_2 pms_2 plv_2 psn_2 p0 hi_2) (cwV 1 hT (gV_of k_883 k_885 kp_PA_meetItems k_7 kc_PA_meetItems) rfl rfl rfl hd_PA_meetItems ⟨rl_s (Nat.le_of_ble_eq_true rfl), rl_s (Nat.le_of_ble_eq_true rfl)⟩) hk hP hD hS hA [0, 1, 2, 6, 7] [3, 4, 5] rfl rfl rfl (by decide) (by decide) (by decide) (q0 := 0) rfl rfl rfl rfl hl.1 rfl (Nat.le_of_ble_eq_true rfl) d_PA_goOn_37 ⟨Nat.zero_le _, Nat.zero_le _⟩ (fun u_4 H locs hw_4 hP hD hS => ?_)
      obtain ⟨plc_4, pms_4, plv_4, psn_4⟩ := u_4
      obtain ⟨hw_4, hi_4⟩ := hw_4
      have hP : va_P D vwCl [(aP, .inr (5, [.ref aS, .ref aV, .ref aPs, .ref aPe, .ref aPi, .ref aPh, .int pcnt, .int (b2i pfix), .int pown, .ref aPl, .ref aPn, .int plc_4, .int psr, .int pbs, .int (b2i pms_4)])), (aS, .inr (0, [.ref aB])), (aB, .inl (cB, 202000, .inl (by_ b))), (aPs, .inl (cI, 8, .inl pst)), (aPe, .inl (cI, 8, .inl pen)), (aPi, .inl (cI, 8, .inl pix)), (aPl, .inl (cI, 1001, .inl plv_4)), (aPn, .inl (cI, 2000, .inl psn_4))] H := hP.sub [3, 4, 5, 0, 1, 2, 6, 7] rfl
      have hD : va_D A [(aP, .inr (5, [.ref aS, .ref aV, .ref aPs, .ref aPe, .ref aPi, .ref aPh, .int pcnt, .int (b2i pfix), .int pown, .ref aPl, .ref aPn, .int plc_4, .int psr, .int pbs, .int (b2i pms_4)])), (aS, .inr (0, [.ref aB])), (aB, .inl (cB, 202000, .inl (by_ b))), (aPs, .inl (cI, 8, .inl pst)), (aPe, .inl (cI, 8, .inl pen)), (aPi, .inl (cI, 8, .inl pix)), (aPl, .inl (cI, 1001, .inl plv_4)), (aPn, .inl (cI, 2000, .inl psn_4))] := hD.sub [3, 4, 5, 0, 1, 2, 6, 7] (by decide) rfl
      refine lv_goto (tgt := 178) hx hb d_PA_goOn_40 (by decide) ?_
      exact W.vret hx hb hr (fun t ht hW => ⟨⟨(plc_4, pms_4, plv_4, psn_4), rfl, ⟨(by rw [tw_PA_goOn, if_pos c_1, ← hw_2, tp4_mk, if_pos c_3, ← hw_4, tp4_mk]; first | done | rfl), hi_4⟩, by rw [ht]; exact hP, hD⟩, hS.F ht⟩) hS.2.2 d_PA_goOn_178
  · refine lv_iload_n hx hb d_PA_goOn_10 rfl (lv_at hl 3 rfl) ?_
    refine lv_aload_n hx hb d_PA_goOn_11 rfl (lv_at hl 1 rfl) ?_
    refine va_get (D := D) (ci := 5) (v := .int pcnt) (C := R_PA) (T := T_PA) (N := 15) hx hb hT u_PA hown hK hP 0 rfl rfl 6 (by decide) (hT _ k_147) (fun _ h9 => h9) rfl d_PA_goOn_12 ?_
    refine lv_icmp_ge (tgt := 24) hx hb d_PA_goOn_15 (by decide) (fun c_5 => ?_) (fun c_5 => ?_)
    · refine lv_aload_n hx hb d_PA_goOn_24 rfl (lv_at hl 1 rfl) ?_
      refine lv_iload_n hx hb d_PA_goOn_25 rfl (lv_at hl 2 rfl) ?_
      refine mt_Vv (As := [.int p0]) (rest := []) (wr := [(aS, .inr (0, [.ref aB])), (aB, .inl (cB, 202000, .inl (by_ b))), (aPs, .inl (cI, 8, .inl pst)), (aPe, .inl (cI, 8, .inl pen)), (aPi, .inl (cI, 8, .inl pix))]) ⟨hx, hb, hml, hown, hT⟩ (c_PA_meet l D cB cI aP aS aV aPs aPe aPi aPh aPl aPn pcnt pfix pown psr pbs _ plc pms plv psn p0 hi) (cwV 1 hT (gV_of k_879 k_881 kp_PA_meet k_7 kc_PA_meet) rfl rfl rfl hd_PA_meet ⟨rl_s (Nat.le_of_ble_eq_true rfl), rl_s (Nat.le_of_ble_eq_true rfl)⟩) hk hP hD hS hA [0, 6, 7] [1, 2, 3, 4, 5] rfl rfl rfl (by decide) (by decide) (by decide) (q0 := 0) rfl rfl rfl rfl hl.1 rfl (Nat.le_of_ble_eq_true rfl) d_PA_goOn_26 ⟨Nat.zero_le _, Nat.zero_le _⟩ (fun u_6 H locs hw_6 hP hD hS => ?_)
      obtain ⟨plc_6, pms_6, plv_6, psn_6⟩ := u_6
      obtain ⟨hw_6, hi_6⟩ := hw_6
      have hP : va_P D vwCl [(aP, .inr (5, [.ref aS, .ref aV, .ref aPs, .ref aPe, .ref aPi, .ref aPh, .int pcnt, .int (b2i pfix), .int pown, .ref aPl, .ref aPn, .int plc_6, .int psr, .int pbs, .int (b2i pms_6)])), (aS, .inr (0, [.ref aB])), (aB, .inl (cB, 202000, .inl (by_ b))), (aPs, .inl (cI, 8, .inl pst)), (aPe, .inl (cI, 8, .inl pen)), (aPi, .inl (cI, 8, .inl pix)), (aPl, .inl (cI, 1001, .inl plv_6)), (aPn, .inl (cI, 2000, .inl psn_6))] H := hP.sub [5, 0, 1, 2, 3, 4, 6, 7] rfl
      have hD : va_D A [(aP, .inr (5, [.ref aS, .ref aV, .ref aPs, .ref aPe, .ref aPi, .ref aPh, .int pcnt, .int (b2i pfix), .int pown, .ref aPl, .ref aPn, .int plc_6, .int psr, .int pbs, .int (b2i pms_6)])), (aS, .inr (0, [.ref aB])), (aB, .inl (cB, 202000, .inl (by_ b))), (aPs, .inl (cI, 8, .inl pst)), (aPe, .inl (cI, 8, .inl pen)), (aPi, .inl (cI, 8, .inl pix)), (aPl, .inl (cI, 1001, .inl plv_6)), (aPn, .inl (cI, 2000, .inl psn_6))] := hD.sub [5, 0, 1, 2, 3, 4, 6, 7] (by decide) rfl
      refine lv_iload hx hb d_PA_goOn_29 (lv_at hl 0 rfl) ?_
      refine lv_iconst (v := 4) hx hb d_PA_goOn_31 (by decide) ?_
      refine lv_icmp_ne (tgt := 178) hx hb d_PA_goOn_32 (by decide) (fun c_7 => ?_) (fun c_7 => ?_)
      · exact W.vret hx hb hr (fun t ht hW => ⟨⟨(plc_6, pms_6, plv_6, psn_6), rfl, ⟨(by rw [tw_PA_goOn, if_neg c_1, if_pos c_5, ← hw_6, tp4_mk, if_neg c_7]; first | done | rfl), hi_6⟩, by rw [ht]; exact hP, hD⟩, hS.F ht⟩) hS.2.2 d_PA_goOn_178
      · refine lv_aload_n hx hb d_PA_goOn_35 rfl (lv_at hl 1 rfl) ?_
        refine lv_iload_n hx hb d_PA_goOn_36 rfl (lv_at hl 2 rfl) ?_
        refine mt_Vv (As := [.int p0]) (rest := []) (wr := [(aPs, .inl (cI, 8, .inl pst)), (aPe, .inl (cI, 8, .inl pen)), (aPi, .inl (cI, 8, .inl pix))]) ⟨hx, hb, hml, hown, hT⟩ (c_PA_meetItems l D cB cI aP aS aV aPs aPe aPi aPh aPl aPn aB pcnt pfix pown psr pbs b _ plc_6 pms_6 plv_6 psn_6 p0 hi_6) (cwV 1 hT (gV_of k_883 k_885 kp_PA_meetItems k_7 kc_PA_meetItems) rfl rfl rfl hd_PA_meetItems ⟨rl_s (Nat.le_of_ble_eq_true rfl), rl_s (Nat.le_of_ble_eq_true rfl)⟩) hk hP hD hS hA [0, 1, 2, 6, 7] [3, 4, 5] rfl rfl rfl (by decide) (by decide) (by decide) (q0 := 0) rfl rfl rfl rfl hl.1 rfl (Nat.le_of_ble_eq_true rfl) d_PA_goOn_37 ⟨Nat.zero_le _, Nat.zero_le _⟩ (fun u_8 H locs hw_8 hP hD hS => ?_)
        obtain ⟨plc_8, pms_8, plv_8, psn_8⟩ := u_8
        obtain ⟨hw_8, hi_8⟩ := hw_8
        have hP : va_P D vwCl [(aP, .inr (5, [.ref aS, .ref aV, .ref aPs, .ref aPe, .ref aPi, .ref aPh, .int pcnt, .int (b2i pfix), .int pown, .ref aPl, .ref aPn, .int plc_8, .int psr, .int pbs, .int (b2i pms_8)])), (aS, .inr (0, [.ref aB])), (aB, .inl (cB, 202000, .inl (by_ b))), (aPs, .inl (cI, 8, .inl pst)), (aPe, .inl (cI, 8, .inl pen)), (aPi, .inl (cI, 8, .inl pix)), (aPl, .inl (cI, 1001, .inl plv_8)), (aPn, .inl (cI, 2000, .inl psn_8))] H := hP.sub [3, 4, 5, 0, 1, 2, 6, 7] rfl
        have hD : va_D A [(aP, .inr (5, [.ref aS, .ref aV, .ref aPs, .ref aPe, .ref aPi, .ref aPh, .int pcnt, .int (b2i pfix), .int pown, .ref aPl, .ref aPn, .int plc_8, .int psr, .int pbs, .int (b2i pms_8)])), (aS, .inr (0, [.ref aB])), (aB, .inl (cB, 202000, .inl (by_ b))), (aPs, .inl (cI, 8, .inl pst)), (aPe, .inl (cI, 8, .inl pen)), (aPi, .inl (cI, 8, .inl pix)), (aPl, .inl (cI, 1001, .inl plv_8)), (aPn, .inl (cI, 2000, .inl psn_8))] := hD.sub [3, 4, 5, 0, 1, 2, 6, 7] (by decide) rfl
        refine lv_goto (tgt := 178) hx hb d_PA_goOn_40 (by decide) ?_
        exact W.vret hx hb hr (fun t ht hW => ⟨⟨(plc_8, pms_8, plv_8, psn_8), rfl, ⟨(by rw [tw_PA_goOn, if_neg c_1, if_pos c_5, ← hw_6, tp4_mk, if_pos c_7, ← hw_8, tp4_mk]; first | done | rfl), hi_8⟩, by rw [ht]; exact hP, hD⟩, hS.F ht⟩) hS.2.2 d_PA_goOn_178
    · refine lv_iload_n hx hb d_PA_goOn_18 rfl (lv_at hl 3 rfl) ?_
      refine lv_bipush (v := 8) hx hb d_PA_goOn_19 (by decide) ?_
      refine lv_icmp_lt (tgt := 43) hx hb d_PA_goOn_21 (by decide) (fun c_9 => ?_) (fun c_9 => ?_)
      · refine lv_iload hx hb d_PA_goOn_43 (lv_at hl 0 rfl) ?_
        refine lv_iconst (v := 3) hx hb d_PA_goOn_45 (by decide) ?_
        refine lv_icmp_ne (tgt := 105) hx hb d_PA_goOn_46 (by decide) (fun c_10 => ?_) (fun c_10 => ?_)
        · refine lv_iload hx hb d_PA_goOn_105 (lv_at hl 0 rfl) ?_
          refine lv_iconst (v := 4) hx hb d_PA_goOn_107 (by decide) ?_
          refine lv_icmp_ne (tgt := 173) hx hb d_PA_goOn_108 (by decide) (fun c_11 => ?_) (fun c_11 => ?_)
          · refine lv_aload_n hx hb d_PA_goOn_173 rfl (lv_at hl 1 rfl) ?_
            refine lv_iconst (v := 0) hx hb d_PA_goOn_174 (by decide) ?_
            refine mt_Vv (As := [.int 0]) (rest := []) (wr := [(aS, .inr (0, [.ref aB])), (aB, .inl (cB, 202000, .inl (by_ b))), (aPs, .inl (cI, 8, .inl pst)), (aPe, .inl (cI, 8, .inl pen)), (aPi, .inl (cI, 8, .inl pix))]) ⟨hx, hb, hml, hown, hT⟩ (c_PA_meet l D cB cI aP aS aV aPs aPe aPi aPh aPl aPn pcnt pfix pown psr pbs _ plc pms plv psn 0 hi) (cwV 1 hT (gV_of k_879 k_881 kp_PA_meet k_7 kc_PA_meet) rfl rfl rfl hd_PA_meet ⟨rl_s (Nat.le_of_ble_eq_true rfl), rl_s (Nat.le_of_ble_eq_true rfl)⟩) hk hP hD hS hA [0, 6, 7] [1, 2, 3, 4, 5] rfl rfl rfl (by decide) (by decide) (by decide) (q0 := 0) rfl rfl rfl rfl hl.1 rfl (Nat.le_of_ble_eq_true rfl) d_PA_goOn_175 ⟨Nat.zero_le _, Nat.zero_le _⟩ (fun u_12 H locs hw_12 hP hD hS => ?_)
            obtain ⟨plc_12, pms_12, plv_12, psn_12⟩ := u_12
            obtain ⟨hw_12, hi_12⟩ := hw_12
            have hP : va_P D vwCl [(aP, .inr (5, [.ref aS, .ref aV, .ref aPs, .ref aPe, .ref aPi, .ref aPh, .int pcnt, .int (b2i pfix), .int pown, .ref aPl, .ref aPn, .int plc_12, .int psr, .int pbs, .int (b2i pms_12)])), (aS, .inr (0, [.ref aB])), (aB, .inl (cB, 202000, .inl (by_ b))), (aPs, .inl (cI, 8, .inl pst)), (aPe, .inl (cI, 8, .inl pen)), (aPi, .inl (cI, 8, .inl pix)), (aPl, .inl (cI, 1001, .inl plv_12)), (aPn, .inl (cI, 2000, .inl psn_12))] H := hP.sub [5, 0, 1, 2, 3, 4, 6, 7] rfl
            have hD : va_D A [(aP, .inr (5, [.ref aS, .ref aV, .ref aPs, .ref aPe, .ref aPi, .ref aPh, .int pcnt, .int (b2i pfix), .int pown, .ref aPl, .ref aPn, .int plc_12, .int psr, .int pbs, .int (b2i pms_12)])), (aS, .inr (0, [.ref aB])), (aB, .inl (cB, 202000, .inl (by_ b))), (aPs, .inl (cI, 8, .inl pst)), (aPe, .inl (cI, 8, .inl pen)), (aPi, .inl (cI, 8, .inl pix)), (aPl, .inl (cI, 1001, .inl plv_12)), (aPn, .inl (cI, 2000, .inl psn_12))] := hD.sub [5, 0, 1, 2, 3, 4, 6, 7] (by decide) rfl
            exact W.vret hx hb hr (fun t ht hW => ⟨⟨(plc_12, pms_12, plv_12, psn_12), rfl, ⟨(by rw [tw_PA_goOn, if_neg c_1, if_neg c_5, if_pos c_9, if_neg c_10, if_neg c_11, ← hw_12, tp4_mk]; first | done | rfl), hi_12⟩, by rw [ht]; exact hP, hD⟩, hS.F ht⟩) hS.2.2 d_PA_goOn_178
          · refine lv_iload_n hx hb d_PA_goOn_111 rfl (lv_at hl 4 rfl) ?_
            refine lv_bipush (v := 40) hx hb d_PA_goOn_112 (by decide) ?_
            refine lv_icmp_ge (tgt := 173) hx hb d_PA_goOn_114 (by decide) (fun c_13 => ?_) (fun c_13 => ?_)
            · refine lv_aload_n hx hb d_PA_goOn_173 rfl (lv_at hl 1 rfl) ?_
              refine lv_iconst (v := 0) hx hb d_PA_goOn_174 (by decide) ?_
              refine mt_Vv (As := [.int 0]) (rest := []) (wr := [(aS, .inr (0, [.ref aB])), (aB, .inl (cB, 202000, .inl (by_ b))), (aPs, .inl (cI, 8, .inl pst)), (aPe, .inl (cI, 8, .inl pen)), (aPi, .inl (cI, 8, .inl pix))]) ⟨hx, hb, hml, hown, hT⟩ (c_PA_meet l D cB cI aP aS aV aPs aPe aPi aPh aPl aPn pcnt pfix pown psr pbs _ plc pms plv psn 0 hi) (cwV 1 hT (gV_of k_879 k_881 kp_PA_meet k_7 kc_PA_meet) rfl rfl rfl hd_PA_meet ⟨rl_s (Nat.le_of_ble_eq_true rfl), rl_s (Nat.le_of_ble_eq_true rfl)⟩) hk hP hD hS hA [0, 6, 7] [1, 2, 3, 4, 5] rfl rfl rfl (by decide) (by decide) (by decide) (q0 := 0) rfl rfl rfl rfl hl.1 rfl (Nat.le_of_ble_eq_true rfl) d_PA_goOn_175 ⟨Nat.zero_le _, Nat.zero_le _⟩ (fun u_14 H locs hw_14 hP hD hS => ?_)
              obtain ⟨plc_14, pms_14, plv_14, psn_14⟩ := u_14
              obtain ⟨hw_14, hi_14⟩ := hw_14
              have hP : va_P D vwCl [(aP, .inr (5, [.ref aS, .ref aV, .ref aPs, .ref aPe, .ref aPi, .ref aPh, .int pcnt, .int (b2i pfix), .int pown, .ref aPl, .ref aPn, .int plc_14, .int psr, .int pbs, .int (b2i pms_14)])), (aS, .inr (0, [.ref aB])), (aB, .inl (cB, 202000, .inl (by_ b))), (aPs, .inl (cI, 8, .inl pst)), (aPe, .inl (cI, 8, .inl pen)), (aPi, .inl (cI, 8, .inl pix)), (aPl, .inl (cI, 1001, .inl plv_14)), (aPn, .inl (cI, 2000, .inl psn_14))] H := hP.sub [5, 0, 1, 2, 3, 4, 6, 7] rfl
              have hD : va_D A [(aP, .inr (5, [.ref aS, .ref aV, .ref aPs, .ref aPe, .ref aPi, .ref aPh, .int pcnt, .int (b2i pfix), .int pown, .ref aPl, .ref aPn, .int plc_14, .int psr, .int pbs, .int (b2i pms_14)])), (aS, .inr (0, [.ref aB])), (aB, .inl (cB, 202000, .inl (by_ b))), (aPs, .inl (cI, 8, .inl pst)), (aPe, .inl (cI, 8, .inl pen)), (aPi, .inl (cI, 8, .inl pix)), (aPl, .inl (cI, 1001, .inl plv_14)), (aPn, .inl (cI, 2000, .inl psn_14))] := hD.sub [5, 0, 1, 2, 3, 4, 6, 7] (by decide) rfl
              exact W.vret hx hb hr (fun t ht hW => ⟨⟨(plc_14, pms_14, plv_14, psn_14), rfl, ⟨(by rw [tw_PA_goOn, if_neg c_1, if_neg c_5, if_pos c_9, if_neg c_10, if_pos c_11, if_pos c_13, ← hw_14, tp4_mk]; first | done | rfl), hi_14⟩, by rw [ht]; exact hP, hD⟩, hS.F ht⟩) hS.2.2 d_PA_goOn_178
            · refine lv_aload_n hx hb d_PA_goOn_117 rfl (lv_at hl 1 rfl) ?_
              refine va_get (D := D) (ci := 5) (v := .ref aPi) (C := R_PA) (T := T_PA) (N := 15) hx hb hT u_PA hown hK hP 0 rfl rfl 4 (by decide) (hT _ k_144) (fun _ h9 => h9) rfl d_PA_goOn_118 ?_
              refine lv_iload_n hx hb d_PA_goOn_121 rfl (lv_at hl 3 rfl) ?_
              refine va_iald hx hb hK hP 5 1 rfl rfl (in_np c_1 c_9 rfl) d_PA_goOn_122 ?_
              refine lv_if_ge (tgt := 130) hx hb d_PA_goOn_123 (by decide) (fun c_15 => ?_) (fun c_15 => ?_)
              · refine lv_aload_n hx hb d_PA_goOn_130 rfl (lv_at hl 1 rfl) ?_
                refine va_get (D := D) (ci := 5) (v := .ref aS) (C := R_PA) (T := T_PA) (N := 15) hx hb hT u_PA hown hK hP 0 rfl rfl 0 (by decide) (hT _ k_140) (fun _ h9 => h9) rfl d_PA_goOn_131 ?_
                refine lv_iload_n hx hb d_PA_goOn_134 rfl (lv_at hl 2 rfl) ?_
                refine lv_aload_n hx hb d_PA_goOn_135 rfl (lv_at hl 1 rfl) ?_
                refine va_get (D := D) (ci := 5) (v := .ref aPi) (C := R_PA) (T := T_PA) (N := 15) hx hb hT u_PA hown hK hP 0 rfl rfl 4 (by decide) (hT _ k_144) (fun _ h9 => h9) rfl d_PA_goOn_136 ?_
                refine lv_iload_n hx hb d_PA_goOn_139 rfl (lv_at hl 3 rfl) ?_
                refine va_iald hx hb hK hP 5 1 rfl rfl (in_np c_1 c_9 rfl) d_PA_goOn_140 ?_
                refine rd_V (val := tw_ST_item b p0 (pix p1.toNatClampNeg)) (As := [.int p0, .int (pix p1.toNatClampNeg)]) (rest := []) ⟨hx, hb, hml, hown, hT⟩ (c_ST_item l D cB cI aS aB b p0 (pix p1.toNatClampNeg)) (cwV 2 hT (gV_of k_887 k_888 k_889 k_2 kc_ST_item) rfl rfl rfl hd_ST_item ⟨rl_s (Nat.le_of_ble_eq_true rfl), rl_s (Nat.le_of_ble_eq_true rfl)⟩) hk (hP.sub (ws' := [(aS, .inr (0, [.ref aB])), (aB, .inl (cB, 202000, .inl (by_ b)))]) [1, 2] rfl) (q0 := 0) rfl rfl rfl rfl hl.1 rfl (Nat.le_of_ble_eq_true rfl) d_PA_goOn_141 ⟨Nat.zero_le _, Nat.zero_le _⟩ ?_
                refine lv_istore (lv' := [(5, .int (tw_ST_item b p0 (pix p1.toNatClampNeg))), (4, .int (tw_ST_kindOf p0)), (0, .ref aP), (1, .int p0), (2, .int p1), (3, .int p2)]) hx hb d_PA_goOn_144 hl (by decide) rfl (fun ls hl => ?_)
                refine lv_iload hx hb d_PA_goOn_146 (lv_at hl 0 rfl) ?_
                refine lv_if_eq (tgt := 163) hx hb d_PA_goOn_148 (by decide) (fun c_16 => ?_) (fun c_16 => ?_)
                · refine lv_aload_n hx hb d_PA_goOn_163 rfl (lv_at hl 2 rfl) ?_
                  refine lv_iload_n hx hb d_PA_goOn_164 rfl (lv_at hl 3 rfl) ?_
                  refine lv_iload_n hx hb d_PA_goOn_165 rfl (lv_at hl 4 rfl) ?_
                  refine lv_iload_n hx hb d_PA_goOn_166 rfl (lv_at hl 5 rfl) ?_
                  refine mt_Vv (As := [.int p0, .int p1, .int p2]) (rest := []) (wr := []) ⟨hx, hb, hml, hown, hT⟩ (h2 c_13 _ plc pms plv psn p0 hi) (cwV 3 hT (gV_of k_891 k_893 kp_PA_goOnAtItems k_7 kc_PA_goOnAtItems) rfl rfl rfl hd_PA_goOnAtItems ⟨rl_f (Nat.le_of_ble_eq_true rfl), rl_l (Nat.le_of_ble_eq_true rfl)⟩) hk hP hD hS hA [0, 1, 2, 3, 4, 5, 6, 7] [] rfl rfl rfl (by decide) (by decide) (by decide) (q0 := 0) rfl rfl rfl rfl hl.1 rfl (Nat.le_of_ble_eq_true rfl) d_PA_goOn_167 ⟨Nat.zero_le _, Nat.zero_le _⟩ (fun u_17 H locs hw_17 hP hD hS => ?_)
                  obtain ⟨plc_17, pms_17, plv_17, psn_17⟩ := u_17
                  obtain ⟨hw_17, hi_17⟩ := hw_17
                  have hP : va_P D vwCl [(aP, .inr (5, [.ref aS, .ref aV, .ref aPs, .ref aPe, .ref aPi, .ref aPh, .int pcnt, .int (b2i pfix), .int pown, .ref aPl, .ref aPn, .int plc_17, .int psr, .int pbs, .int (b2i pms_17)])), (aS, .inr (0, [.ref aB])), (aB, .inl (cB, 202000, .inl (by_ b))), (aPs, .inl (cI, 8, .inl pst)), (aPe, .inl (cI, 8, .inl pen)), (aPi, .inl (cI, 8, .inl pix)), (aPl, .inl (cI, 1001, .inl plv_17)), (aPn, .inl (cI, 2000, .inl psn_17))] H := hP.sub [0, 1, 2, 3, 4, 5, 6, 7] rfl
                  have hD : va_D A [(aP, .inr (5, [.ref aS, .ref aV, .ref aPs, .ref aPe, .ref aPi, .ref aPh, .int pcnt, .int (b2i pfix), .int pown, .ref aPl, .ref aPn, .int plc_17, .int psr, .int pbs, .int (b2i pms_17)])), (aS, .inr (0, [.ref aB])), (aB, .inl (cB, 202000, .inl (by_ b))), (aPs, .inl (cI, 8, .inl pst)), (aPe, .inl (cI, 8, .inl pen)), (aPi, .inl (cI, 8, .inl pix)), (aPl, .inl (cI, 1001, .inl plv_17)), (aPn, .inl (cI, 2000, .inl psn_17))] := hD.sub [0, 1, 2, 3, 4, 5, 6, 7] (by decide) rfl
                  refine lv_goto (tgt := 178) hx hb d_PA_goOn_170 (by decide) ?_
                  exact W.vret hx hb hr (fun t ht hW => ⟨⟨(plc_17, pms_17, plv_17, psn_17), rfl, ⟨(by rw [tw_PA_goOn, if_neg c_1, if_neg c_5, if_pos c_9, if_neg c_10, if_pos c_11, if_neg c_13, if_pos c_15, if_pos c_16, ← hw_17, tp4_mk]; first | done | rfl), hi_17⟩, by rw [ht]; exact hP, hD⟩, hS.F ht⟩) hS.2.2 d_PA_goOn_178
                · refine lv_aload_n hx hb d_PA_goOn_151 rfl (lv_at hl 2 rfl) ?_
                  refine lv_iload hx hb d_PA_goOn_152 (lv_at hl 0 rfl) ?_
                  refine lv_iload_n hx hb d_PA_goOn_154 rfl (lv_at hl 4 rfl) ?_
                  refine lv_iconst (v := 1) hx hb d_PA_goOn_155 (by decide) ?_
                  refine lv_iadd hx hb d_PA_goOn_156 ?_
                  refine lv_iload_n hx hb d_PA_goOn_157 rfl (lv_at hl 5 rfl) ?_
                  refine lv_iconst (v := 1) hx hb d_PA_goOn_158 (by decide) ?_
                  refine lv_iadd hx hb d_PA_goOn_159 ?_
                  refine mt_Vv (As := [.int (tw_ST_item b p0 (pix p1.toNatClampNeg)), .int (p1 + 1), .int (p2 + 1)]) (rest := []) (wr := []) ⟨hx, hb, hml, hown, hT⟩ (h1 c_13 _ plc pms plv psn (tw_ST_item b p0 (pix p1.toNatClampNeg)) hi) (cwV 3 hT (gV_of k_875 k_877 kp_PA_goOn k_7 kc_PA_goOn) rfl rfl rfl hd_PA_goOn ⟨rl_g hG.1 (Nat.le_of_ble_eq_true rfl), rl_h hG.2 (Nat.le_of_ble_eq_true rfl)⟩) hk hP hD hS hA [0, 1, 2, 3, 4, 5, 6, 7] [] rfl rfl rfl (by decide) (by decide) (by decide) (q0 := 0) rfl rfl rfl rfl hl.1 rfl (Nat.le_of_ble_eq_true rfl) d_PA_goOn_160 ⟨Nat.zero_le _, Nat.zero_le _⟩ (fun u_18 H locs hw_18 hP hD hS => ?_)
                  obtain ⟨plc_18, pms_18, plv_18, psn_18⟩ := u_18
                  obtain ⟨hw_18, hi_18⟩ := hw_18
                  have hP : va_P D vwCl [(aP, .inr (5, [.ref aS, .ref aV, .ref aPs, .ref aPe, .ref aPi, .ref aPh, .int pcnt, .int (b2i pfix), .int pown, .ref aPl, .ref aPn, .int plc_18, .int psr, .int pbs, .int (b2i pms_18)])), (aS, .inr (0, [.ref aB])), (aB, .inl (cB, 202000, .inl (by_ b))), (aPs, .inl (cI, 8, .inl pst)), (aPe, .inl (cI, 8, .inl pen)), (aPi, .inl (cI, 8, .inl pix)), (aPl, .inl (cI, 1001, .inl plv_18)), (aPn, .inl (cI, 2000, .inl psn_18))] H := hP.sub [0, 1, 2, 3, 4, 5, 6, 7] rfl
                  have hD : va_D A [(aP, .inr (5, [.ref aS, .ref aV, .ref aPs, .ref aPe, .ref aPi, .ref aPh, .int pcnt, .int (b2i pfix), .int pown, .ref aPl, .ref aPn, .int plc_18, .int psr, .int pbs, .int (b2i pms_18)])), (aS, .inr (0, [.ref aB])), (aB, .inl (cB, 202000, .inl (by_ b))), (aPs, .inl (cI, 8, .inl pst)), (aPe, .inl (cI, 8, .inl pen)), (aPi, .inl (cI, 8, .inl pix)), (aPl, .inl (cI, 1001, .inl plv_18)), (aPn, .inl (cI, 2000, .inl psn_18))] := hD.sub [0, 1, 2, 3, 4, 5, 6, 7] (by decide) rfl
                  refine lv_aload_n hx hb d_PA_goOn_163 rfl (lv_at hl 2 rfl) ?_
                  refine lv_iload_n hx hb d_PA_goOn_164 rfl (lv_at hl 3 rfl) ?_
                  refine lv_iload_n hx hb d_PA_goOn_165 rfl (lv_at hl 4 rfl) ?_
                  refine lv_iload_n hx hb d_PA_goOn_166 rfl (lv_at hl 5 rfl) ?_
                  refine mt_Vv (As := [.int p0, .int p1, .int p2]) (rest := []) (wr := []) ⟨hx, hb, hml, hown, hT⟩ (h2 c_13 _ plc_18 pms_18 plv_18 psn_18 p0 hi_18) (cwV 3 hT (gV_of k_891 k_893 kp_PA_goOnAtItems k_7 kc_PA_goOnAtItems) rfl rfl rfl hd_PA_goOnAtItems ⟨rl_f (Nat.le_of_ble_eq_true rfl), rl_l (Nat.le_of_ble_eq_true rfl)⟩) hk hP hD hS hA [0, 1, 2, 3, 4, 5, 6, 7] [] rfl rfl rfl (by decide) (by decide) (by decide) (q0 := 0) rfl rfl rfl rfl hl.1 rfl (Nat.le_of_ble_eq_true rfl) d_PA_goOn_167 ⟨Nat.zero_le _, Nat.zero_le _⟩ (fun u_19 H locs hw_19 hP hD hS => ?_)
                  obtain ⟨plc_19, pms_19, plv_19, psn_19⟩ := u_19
                  obtain ⟨hw_19, hi_19⟩ := hw_19
                  have hP : va_P D vwCl [(aP, .inr (5, [.ref aS, .ref aV, .ref aPs, .ref aPe, .ref aPi, .ref aPh, .int pcnt, .int (b2i pfix), .int pown, .ref aPl, .ref aPn, .int plc_19, .int psr, .int pbs, .int (b2i pms_19)])), (aS, .inr (0, [.ref aB])), (aB, .inl (cB, 202000, .inl (by_ b))), (aPs, .inl (cI, 8, .inl pst)), (aPe, .inl (cI, 8, .inl pen)), (aPi, .inl (cI, 8, .inl pix)), (aPl, .inl (cI, 1001, .inl plv_19)), (aPn, .inl (cI, 2000, .inl psn_19))] H := hP.sub [0, 1, 2, 3, 4, 5, 6, 7] rfl
                  have hD : va_D A [(aP, .inr (5, [.ref aS, .ref aV, .ref aPs, .ref aPe, .ref aPi, .ref aPh, .int pcnt, .int (b2i pfix), .int pown, .ref aPl, .ref aPn, .int plc_19, .int psr, .int pbs, .int (b2i pms_19)])), (aS, .inr (0, [.ref aB])), (aB, .inl (cB, 202000, .inl (by_ b))), (aPs, .inl (cI, 8, .inl pst)), (aPe, .inl (cI, 8, .inl pen)), (aPi, .inl (cI, 8, .inl pix)), (aPl, .inl (cI, 1001, .inl plv_19)), (aPn, .inl (cI, 2000, .inl psn_19))] := hD.sub [0, 1, 2, 3, 4, 5, 6, 7] (by decide) rfl
                  refine lv_goto (tgt := 178) hx hb d_PA_goOn_170 (by decide) ?_
                  exact W.vret hx hb hr (fun t ht hW => ⟨⟨(plc_19, pms_19, plv_19, psn_19), rfl, ⟨(by rw [tw_PA_goOn, if_neg c_1, if_neg c_5, if_pos c_9, if_neg c_10, if_pos c_11, if_neg c_13, if_pos c_15, if_neg c_16, ← hw_18, tp4_mk, ← hw_19, tp4_mk]; first | done | rfl), hi_19⟩, by rw [ht]; exact hP, hD⟩, hS.F ht⟩) hS.2.2 d_PA_goOn_178
              · refine lv_iconst (v := 0) hx hb d_PA_goOn_126 (by decide) ?_
                refine lv_goto (tgt := 144) hx hb d_PA_goOn_127 (by decide) ?_
                refine lv_istore (lv' := [(5, .int 0), (4, .int (tw_ST_kindOf p0)), (0, .ref aP), (1, .int p0), (2, .int p1), (3, .int p2)]) hx hb d_PA_goOn_144 hl (by decide) rfl (fun ls hl => ?_)
                refine lv_iload hx hb d_PA_goOn_146 (lv_at hl 0 rfl) ?_
                refine lv_if_eq (tgt := 163) hx hb d_PA_goOn_148 (by decide) (fun c_20 => ?_) (fun c_20 => ?_)
                · refine lv_aload_n hx hb d_PA_goOn_163 rfl (lv_at hl 2 rfl) ?_
                  refine lv_iload_n hx hb d_PA_goOn_164 rfl (lv_at hl 3 rfl) ?_
                  refine lv_iload_n hx hb d_PA_goOn_165 rfl (lv_at hl 4 rfl) ?_
                  refine lv_iload_n hx hb d_PA_goOn_166 rfl (lv_at hl 5 rfl) ?_
                  refine mt_Vv (As := [.int p0, .int p1, .int p2]) (rest := []) (wr := []) ⟨hx, hb, hml, hown, hT⟩ (h2 c_13 _ plc pms plv psn p0 hi) (cwV 3 hT (gV_of k_891 k_893 kp_PA_goOnAtItems k_7 kc_PA_goOnAtItems) rfl rfl rfl hd_PA_goOnAtItems ⟨rl_f (Nat.le_of_ble_eq_true rfl), rl_l (Nat.le_of_ble_eq_true rfl)⟩) hk hP hD hS hA [0, 1, 2, 3, 4, 5, 6, 7] [] rfl rfl rfl (by decide) (by decide) (by decide) (q0 := 0) rfl rfl rfl rfl hl.1 rfl (Nat.le_of_ble_eq_true rfl) d_PA_goOn_167 ⟨Nat.zero_le _, Nat.zero_le _⟩ (fun u_21 H locs hw_21 hP hD hS => ?_)
                  obtain ⟨plc_21, pms_21, plv_21, psn_21⟩ := u_21
                  obtain ⟨hw_21, hi_21⟩ := hw_21
                  have hP : va_P D vwCl [(aP, .inr (5, [.ref aS, .ref aV, .ref aPs, .ref aPe, .ref aPi, .ref aPh, .int pcnt, .int (b2i pfix), .int pown, .ref aPl, .ref aPn, .int plc_21, .int psr, .int pbs, .int (b2i pms_21)])), (aS, .inr (0, [.ref aB])), (aB, .inl (cB, 202000, .inl (by_ b))), (aPs, .inl (cI, 8, .inl pst)), (aPe, .inl (cI, 8, .inl pen)), (aPi, .inl (cI, 8, .inl pix)), (aPl, .inl (cI, 1001, .inl plv_21)), (aPn, .inl (cI, 2000, .inl psn_21))] H := hP.sub [0, 1, 2, 3, 4, 5, 6, 7] rfl
                  have hD : va_D A [(aP, .inr (5, [.ref aS, .ref aV, .ref aPs, .ref aPe, .ref aPi, .ref aPh, .int pcnt, .int (b2i pfix), .int pown, .ref aPl, .ref aPn, .int plc_21, .int psr, .int pbs, .int (b2i pms_21)])), (aS, .inr (0, [.ref aB])), (aB, .inl (cB, 202000, .inl (by_ b))), (aPs, .inl (cI, 8, .inl pst)), (aPe, .inl (cI, 8, .inl pen)), (aPi, .inl (cI, 8, .inl pix)), (aPl, .inl (cI, 1001, .inl plv_21)), (aPn, .inl (cI, 2000, .inl psn_21))] := hD.sub [0, 1, 2, 3, 4, 5, 6, 7] (by decide) rfl
                  refine lv_goto (tgt := 178) hx hb d_PA_goOn_170 (by decide) ?_
                  exact W.vret hx hb hr (fun t ht hW => ⟨⟨(plc_21, pms_21, plv_21, psn_21), rfl, ⟨(by rw [tw_PA_goOn, if_neg c_1, if_neg c_5, if_pos c_9, if_neg c_10, if_pos c_11, if_neg c_13, if_neg c_15, ← hw_21, tp4_mk]; first | done | rfl), hi_21⟩, by rw [ht]; exact hP, hD⟩, hS.F ht⟩) hS.2.2 d_PA_goOn_178
                · exact absurd c_20 (by decide)
        · refine lv_iload_n hx hb d_PA_goOn_49 rfl (lv_at hl 4 rfl) ?_
          refine lv_bipush (v := 40) hx hb d_PA_goOn_50 (by decide) ?_
          refine lv_icmp_ge (tgt := 105) hx hb d_PA_goOn_52 (by decide) (fun c_22 => ?_) (fun c_22 => ?_)
          · refine lv_iload hx hb d_PA_goOn_105 (lv_at hl 0 rfl) ?_
            refine lv_iconst (v := 4) hx hb d_PA_goOn_107 (by decide) ?_
            refine lv_icmp_ne (tgt := 173) hx hb d_PA_goOn_108 (by decide) (fun c_23 => ?_) (fun c_23 => ?_)
            · refine lv_aload_n hx hb d_PA_goOn_173 rfl (lv_at hl 1 rfl) ?_
              refine lv_iconst (v := 0) hx hb d_PA_goOn_174 (by decide) ?_
              refine mt_Vv (As := [.int 0]) (rest := []) (wr := [(aS, .inr (0, [.ref aB])), (aB, .inl (cB, 202000, .inl (by_ b))), (aPs, .inl (cI, 8, .inl pst)), (aPe, .inl (cI, 8, .inl pen)), (aPi, .inl (cI, 8, .inl pix))]) ⟨hx, hb, hml, hown, hT⟩ (c_PA_meet l D cB cI aP aS aV aPs aPe aPi aPh aPl aPn pcnt pfix pown psr pbs _ plc pms plv psn 0 hi) (cwV 1 hT (gV_of k_879 k_881 kp_PA_meet k_7 kc_PA_meet) rfl rfl rfl hd_PA_meet ⟨rl_s (Nat.le_of_ble_eq_true rfl), rl_s (Nat.le_of_ble_eq_true rfl)⟩) hk hP hD hS hA [0, 6, 7] [1, 2, 3, 4, 5] rfl rfl rfl (by decide) (by decide) (by decide) (q0 := 0) rfl rfl rfl rfl hl.1 rfl (Nat.le_of_ble_eq_true rfl) d_PA_goOn_175 ⟨Nat.zero_le _, Nat.zero_le _⟩ (fun u_24 H locs hw_24 hP hD hS => ?_)
              obtain ⟨plc_24, pms_24, plv_24, psn_24⟩ := u_24
              obtain ⟨hw_24, hi_24⟩ := hw_24
              have hP : va_P D vwCl [(aP, .inr (5, [.ref aS, .ref aV, .ref aPs, .ref aPe, .ref aPi, .ref aPh, .int pcnt, .int (b2i pfix), .int pown, .ref aPl, .ref aPn, .int plc_24, .int psr, .int pbs, .int (b2i pms_24)])), (aS, .inr (0, [.ref aB])), (aB, .inl (cB, 202000, .inl (by_ b))), (aPs, .inl (cI, 8, .inl pst)), (aPe, .inl (cI, 8, .inl pen)), (aPi, .inl (cI, 8, .inl pix)), (aPl, .inl (cI, 1001, .inl plv_24)), (aPn, .inl (cI, 2000, .inl psn_24))] H := hP.sub [5, 0, 1, 2, 3, 4, 6, 7] rfl
              have hD : va_D A [(aP, .inr (5, [.ref aS, .ref aV, .ref aPs, .ref aPe, .ref aPi, .ref aPh, .int pcnt, .int (b2i pfix), .int pown, .ref aPl, .ref aPn, .int plc_24, .int psr, .int pbs, .int (b2i pms_24)])), (aS, .inr (0, [.ref aB])), (aB, .inl (cB, 202000, .inl (by_ b))), (aPs, .inl (cI, 8, .inl pst)), (aPe, .inl (cI, 8, .inl pen)), (aPi, .inl (cI, 8, .inl pix)), (aPl, .inl (cI, 1001, .inl plv_24)), (aPn, .inl (cI, 2000, .inl psn_24))] := hD.sub [5, 0, 1, 2, 3, 4, 6, 7] (by decide) rfl
              exact W.vret hx hb hr (fun t ht hW => ⟨⟨(plc_24, pms_24, plv_24, psn_24), rfl, ⟨(by rw [tw_PA_goOn, if_neg c_1, if_neg c_5, if_pos c_9, if_pos c_10, if_pos c_22, if_neg c_23, ← hw_24, tp4_mk]; first | done | rfl), hi_24⟩, by rw [ht]; exact hP, hD⟩, hS.F ht⟩) hS.2.2 d_PA_goOn_178
            · refine lv_iload_n hx hb d_PA_goOn_111 rfl (lv_at hl 4 rfl) ?_
              refine lv_bipush (v := 40) hx hb d_PA_goOn_112 (by decide) ?_
              refine lv_icmp_ge (tgt := 173) hx hb d_PA_goOn_114 (by decide) (fun c_25 => ?_) (fun c_25 => ?_)
              · refine lv_aload_n hx hb d_PA_goOn_173 rfl (lv_at hl 1 rfl) ?_
                refine lv_iconst (v := 0) hx hb d_PA_goOn_174 (by decide) ?_
                refine mt_Vv (As := [.int 0]) (rest := []) (wr := [(aS, .inr (0, [.ref aB])), (aB, .inl (cB, 202000, .inl (by_ b))), (aPs, .inl (cI, 8, .inl pst)), (aPe, .inl (cI, 8, .inl pen)), (aPi, .inl (cI, 8, .inl pix))]) ⟨hx, hb, hml, hown, hT⟩ (c_PA_meet l D cB cI aP aS aV aPs aPe aPi aPh aPl aPn pcnt pfix pown psr pbs _ plc pms plv psn 0 hi) (cwV 1 hT (gV_of k_879 k_881 kp_PA_meet k_7 kc_PA_meet) rfl rfl rfl hd_PA_meet ⟨rl_s (Nat.le_of_ble_eq_true rfl), rl_s (Nat.le_of_ble_eq_true rfl)⟩) hk hP hD hS hA [0, 6, 7] [1, 2, 3, 4, 5] rfl rfl rfl (by decide) (by decide) (by decide) (q0 := 0) rfl rfl rfl rfl hl.1 rfl (Nat.le_of_ble_eq_true rfl) d_PA_goOn_175 ⟨Nat.zero_le _, Nat.zero_le _⟩ (fun u_26 H locs hw_26 hP hD hS => ?_)
                obtain ⟨plc_26, pms_26, plv_26, psn_26⟩ := u_26
                obtain ⟨hw_26, hi_26⟩ := hw_26
                have hP : va_P D vwCl [(aP, .inr (5, [.ref aS, .ref aV, .ref aPs, .ref aPe, .ref aPi, .ref aPh, .int pcnt, .int (b2i pfix), .int pown, .ref aPl, .ref aPn, .int plc_26, .int psr, .int pbs, .int (b2i pms_26)])), (aS, .inr (0, [.ref aB])), (aB, .inl (cB, 202000, .inl (by_ b))), (aPs, .inl (cI, 8, .inl pst)), (aPe, .inl (cI, 8, .inl pen)), (aPi, .inl (cI, 8, .inl pix)), (aPl, .inl (cI, 1001, .inl plv_26)), (aPn, .inl (cI, 2000, .inl psn_26))] H := hP.sub [5, 0, 1, 2, 3, 4, 6, 7] rfl
                have hD : va_D A [(aP, .inr (5, [.ref aS, .ref aV, .ref aPs, .ref aPe, .ref aPi, .ref aPh, .int pcnt, .int (b2i pfix), .int pown, .ref aPl, .ref aPn, .int plc_26, .int psr, .int pbs, .int (b2i pms_26)])), (aS, .inr (0, [.ref aB])), (aB, .inl (cB, 202000, .inl (by_ b))), (aPs, .inl (cI, 8, .inl pst)), (aPe, .inl (cI, 8, .inl pen)), (aPi, .inl (cI, 8, .inl pix)), (aPl, .inl (cI, 1001, .inl plv_26)), (aPn, .inl (cI, 2000, .inl psn_26))] := hD.sub [5, 0, 1, 2, 3, 4, 6, 7] (by decide) rfl
                exact W.vret hx hb hr (fun t ht hW => ⟨⟨(plc_26, pms_26, plv_26, psn_26), rfl, ⟨(by rw [tw_PA_goOn, if_neg c_1, if_neg c_5, if_pos c_9, if_pos c_10, if_pos c_22, if_pos c_23, if_pos c_25, ← hw_26, tp4_mk]; first | done | rfl), hi_26⟩, by rw [ht]; exact hP, hD⟩, hS.F ht⟩) hS.2.2 d_PA_goOn_178
              · refine lv_aload_n hx hb d_PA_goOn_117 rfl (lv_at hl 1 rfl) ?_
                refine va_get (D := D) (ci := 5) (v := .ref aPi) (C := R_PA) (T := T_PA) (N := 15) hx hb hT u_PA hown hK hP 0 rfl rfl 4 (by decide) (hT _ k_144) (fun _ h9 => h9) rfl d_PA_goOn_118 ?_
                refine lv_iload_n hx hb d_PA_goOn_121 rfl (lv_at hl 3 rfl) ?_
                refine va_iald hx hb hK hP 5 1 rfl rfl (in_np c_1 c_9 rfl) d_PA_goOn_122 ?_
                refine lv_if_ge (tgt := 130) hx hb d_PA_goOn_123 (by decide) (fun c_27 => ?_) (fun c_27 => ?_)
                · refine lv_aload_n hx hb d_PA_goOn_130 rfl (lv_at hl 1 rfl) ?_
                  refine va_get (D := D) (ci := 5) (v := .ref aS) (C := R_PA) (T := T_PA) (N := 15) hx hb hT u_PA hown hK hP 0 rfl rfl 0 (by decide) (hT _ k_140) (fun _ h9 => h9) rfl d_PA_goOn_131 ?_
                  refine lv_iload_n hx hb d_PA_goOn_134 rfl (lv_at hl 2 rfl) ?_
                  refine lv_aload_n hx hb d_PA_goOn_135 rfl (lv_at hl 1 rfl) ?_
                  refine va_get (D := D) (ci := 5) (v := .ref aPi) (C := R_PA) (T := T_PA) (N := 15) hx hb hT u_PA hown hK hP 0 rfl rfl 4 (by decide) (hT _ k_144) (fun _ h9 => h9) rfl d_PA_goOn_136 ?_
                  refine lv_iload_n hx hb d_PA_goOn_139 rfl (lv_at hl 3 rfl) ?_
                  refine va_iald hx hb hK hP 5 1 rfl rfl (in_np c_1 c_9 rfl) d_PA_goOn_140 ?_
                  refine rd_V (val := tw_ST_item b p0 (pix p1.toNatClampNeg)) (As := [.int p0, .int (pix p1.toNatClampNeg)]) (rest := []) ⟨hx, hb, hml, hown, hT⟩ (c_ST_item l D cB cI aS aB b p0 (pix p1.toNatClampNeg)) (cwV 2 hT (gV_of k_887 k_888 k_889 k_2 kc_ST_item) rfl rfl rfl hd_ST_item ⟨rl_s (Nat.le_of_ble_eq_true rfl), rl_s (Nat.le_of_ble_eq_true rfl)⟩) hk (hP.sub (ws' := [(aS, .inr (0, [.ref aB])), (aB, .inl (cB, 202000, .inl (by_ b)))]) [1, 2] rfl) (q0 := 0) rfl rfl rfl rfl hl.1 rfl (Nat.le_of_ble_eq_true rfl) d_PA_goOn_141 ⟨Nat.zero_le _, Nat.zero_le _⟩ ?_
                  refine lv_istore (lv' := [(5, .int (tw_ST_item b p0 (pix p1.toNatClampNeg))), (4, .int (tw_ST_kindOf p0)), (0, .ref aP), (1, .int p0), (2, .int p1), (3, .int p2)]) hx hb d_PA_goOn_144 hl (by decide) rfl (fun ls hl => ?_)
                  refine lv_iload hx hb d_PA_goOn_146 (lv_at hl 0 rfl) ?_
                  refine lv_if_eq (tgt := 163) hx hb d_PA_goOn_148 (by decide) (fun c_28 => ?_) (fun c_28 => ?_)
                  · refine lv_aload_n hx hb d_PA_goOn_163 rfl (lv_at hl 2 rfl) ?_
                    refine lv_iload_n hx hb d_PA_goOn_164 rfl (lv_at hl 3 rfl) ?_
                    refine lv_iload_n hx hb d_PA_goOn_165 rfl (lv_at hl 4 rfl) ?_
                    refine lv_iload_n hx hb d_PA_goOn_166 rfl (lv_at hl 5 rfl) ?_
                    refine mt_Vv (As := [.int p0, .int p1, .int p2]) (rest := []) (wr := []) ⟨hx, hb, hml, hown, hT⟩ (h2 c_25 _ plc pms plv psn p0 hi) (cwV 3 hT (gV_of k_891 k_893 kp_PA_goOnAtItems k_7 kc_PA_goOnAtItems) rfl rfl rfl hd_PA_goOnAtItems ⟨rl_f (Nat.le_of_ble_eq_true rfl), rl_l (Nat.le_of_ble_eq_true rfl)⟩) hk hP hD hS hA [0, 1, 2, 3, 4, 5, 6, 7] [] rfl rfl rfl (by decide) (by decide) (by decide) (q0 := 0) rfl rfl rfl rfl hl.1 rfl (Nat.le_of_ble_eq_true rfl) d_PA_goOn_167 ⟨Nat.zero_le _, Nat.zero_le _⟩ (fun u_29 H locs hw_29 hP hD hS => ?_)
                    obtain ⟨plc_29, pms_29, plv_29, psn_29⟩ := u_29
                    obtain ⟨hw_29, hi_29⟩ := hw_29
                    have hP : va_P D vwCl [(aP, .inr (5, [.ref aS, .ref aV, .ref aPs, .ref aPe, .ref aPi, .ref aPh, .int pcnt, .int (b2i pfix), .int pown, .ref aPl, .ref aPn, .int plc_29, .int psr, .int pbs, .int (b2i pms_29)])), (aS, .inr (0, [.ref aB])), (aB, .inl (cB, 202000, .inl (by_ b))), (aPs, .inl (cI, 8, .inl pst)), (aPe, .inl (cI, 8, .inl pen)), (aPi, .inl (cI, 8, .inl pix)), (aPl, .inl (cI, 1001, .inl plv_29)), (aPn, .inl (cI, 2000, .inl psn_29))] H := hP.sub [0, 1, 2, 3, 4, 5, 6, 7] rfl
                    have hD : va_D A [(aP, .inr (5, [.ref aS, .ref aV, .ref aPs, .ref aPe, .ref aPi, .ref aPh, .int pcnt, .int (b2i pfix), .int pown, .ref aPl, .ref aPn, .int plc_29, .int psr, .int pbs, .int (b2i pms_29)])), (aS, .inr (0, [.ref aB])), (aB, .inl (cB, 202000, .inl (by_ b))), (aPs, .inl (cI, 8, .inl pst)), (aPe, .inl (cI, 8, .inl pen)), (aPi, .inl (cI, 8, .inl pix)), (aPl, .inl (cI, 1001, .inl plv_29)), (aPn, .inl (cI, 2000, .inl psn_29))] := hD.sub [0, 1, 2, 3, 4, 5, 6, 7] (by decide) rfl
                    refine lv_goto (tgt := 178) hx hb d_PA_goOn_170 (by decide) ?_
                    exact W.vret hx hb hr (fun t ht hW => ⟨⟨(plc_29, pms_29, plv_29, psn_29), rfl, ⟨(by rw [tw_PA_goOn, if_neg c_1, if_neg c_5, if_pos c_9, if_pos c_10, if_pos c_22, if_pos c_23, if_neg c_25, if_pos c_27, if_pos c_28, ← hw_29, tp4_mk]; first | done | rfl), hi_29⟩, by rw [ht]; exact hP, hD⟩, hS.F ht⟩) hS.2.2 d_PA_goOn_178
                  · refine lv_aload_n hx hb d_PA_goOn_151 rfl (lv_at hl 2 rfl) ?_
                    refine lv_iload hx hb d_PA_goOn_152 (lv_at hl 0 rfl) ?_
                    refine lv_iload_n hx hb d_PA_goOn_154 rfl (lv_at hl 4 rfl) ?_
                    refine lv_iconst (v := 1) hx hb d_PA_goOn_155 (by decide) ?_
                    refine lv_iadd hx hb d_PA_goOn_156 ?_
                    refine lv_iload_n hx hb d_PA_goOn_157 rfl (lv_at hl 5 rfl) ?_
                    refine lv_iconst (v := 1) hx hb d_PA_goOn_158 (by decide) ?_
                    refine lv_iadd hx hb d_PA_goOn_159 ?_
                    refine mt_Vv (As := [.int (tw_ST_item b p0 (pix p1.toNatClampNeg)), .int (p1 + 1), .int (p2 + 1)]) (rest := []) (wr := []) ⟨hx, hb, hml, hown, hT⟩ (h1 c_25 _ plc pms plv psn (tw_ST_item b p0 (pix p1.toNatClampNeg)) hi) (cwV 3 hT (gV_of k_875 k_877 kp_PA_goOn k_7 kc_PA_goOn) rfl rfl rfl hd_PA_goOn ⟨rl_g hG.1 (Nat.le_of_ble_eq_true rfl), rl_h hG.2 (Nat.le_of_ble_eq_true rfl)⟩) hk hP hD hS hA [0, 1, 2, 3, 4, 5, 6, 7] [] rfl rfl rfl (by decide) (by decide) (by decide) (q0 := 0) rfl rfl rfl rfl hl.1 rfl (Nat.le_of_ble_eq_true rfl) d_PA_goOn_160 ⟨Nat.zero_le _, Nat.zero_le _⟩ (fun u_30 H locs hw_30 hP hD hS => ?_)
                    obtain ⟨plc_30, pms_30, plv_30, psn_30⟩ := u_30
                    obtain ⟨hw_30, hi_30⟩ := hw_30
                    have hP : va_P D vwCl [(aP, .inr (5, [.ref aS, .ref aV, .ref aPs, .ref aPe, .ref aPi, .ref aPh, .int pcnt, .int (b2i pfix), .int pown, .ref aPl, .ref aPn, .int plc_30, .int psr, .int pbs, .int (b2i pms_30)])), (aS, .inr (0, [.ref aB])), (aB, .inl (cB, 202000, .inl (by_ b))), (aPs, .inl (cI, 8, .inl pst)), (aPe, .inl (cI, 8, .inl pen)), (aPi, .inl (cI, 8, .inl pix)), (aPl, .inl (cI, 1001, .inl plv_30)), (aPn, .inl (cI, 2000, .inl psn_30))] H := hP.sub [0, 1, 2, 3, 4, 5, 6, 7] rfl
                    have hD : va_D A [(aP, .inr (5, [.ref aS, .ref aV, .ref aPs, .ref aPe, .ref aPi, .ref aPh, .int pcnt, .int (b2i pfix), .int pown, .ref aPl, .ref aPn, .int plc_30, .int psr, .int pbs, .int (b2i pms_30)])), (aS, .inr (0, [.ref aB])), (aB, .inl (cB, 202000, .inl (by_ b))), (aPs, .inl (cI, 8, .inl pst)), (aPe, .inl (cI, 8, .inl pen)), (aPi, .inl (cI, 8, .inl pix)), (aPl, .inl (cI, 1001, .inl plv_30)), (aPn, .inl (cI, 2000, .inl psn_30))] := hD.sub [0, 1, 2, 3, 4, 5, 6, 7] (by decide) rfl
                    refine lv_aload_n hx hb d_PA_goOn_163 rfl (lv_at hl 2 rfl) ?_
                    refine lv_iload_n hx hb d_PA_goOn_164 rfl (lv_at hl 3 rfl) ?_
                    refine lv_iload_n hx hb d_PA_goOn_165 rfl (lv_at hl 4 rfl) ?_
                    refine lv_iload_n hx hb d_PA_goOn_166 rfl (lv_at hl 5 rfl) ?_
                    refine mt_Vv (As := [.int p0, .int p1, .int p2]) (rest := []) (wr := []) ⟨hx, hb, hml, hown, hT⟩ (h2 c_25 _ plc_30 pms_30 plv_30 psn_30 p0 hi_30) (cwV 3 hT (gV_of k_891 k_893 kp_PA_goOnAtItems k_7 kc_PA_goOnAtItems) rfl rfl rfl hd_PA_goOnAtItems ⟨rl_f (Nat.le_of_ble_eq_true rfl), rl_l (Nat.le_of_ble_eq_true rfl)⟩) hk hP hD hS hA [0, 1, 2, 3, 4, 5, 6, 7] [] rfl rfl rfl (by decide) (by decide) (by decide) (q0 := 0) rfl rfl rfl rfl hl.1 rfl (Nat.le_of_ble_eq_true rfl) d_PA_goOn_167 ⟨Nat.zero_le _, Nat.zero_le _⟩ (fun u_31 H locs hw_31 hP hD hS => ?_)
                    obtain ⟨plc_31, pms_31, plv_31, psn_31⟩ := u_31
                    obtain ⟨hw_31, hi_31⟩ := hw_31
                    have hP : va_P D vwCl [(aP, .inr (5, [.ref aS, .ref aV, .ref aPs, .ref aPe, .ref aPi, .ref aPh, .int pcnt, .int (b2i pfix), .int pown, .ref aPl, .ref aPn, .int plc_31, .int psr, .int pbs, .int (b2i pms_31)])), (aS, .inr (0, [.ref aB])), (aB, .inl (cB, 202000, .inl (by_ b))), (aPs, .inl (cI, 8, .inl pst)), (aPe, .inl (cI, 8, .inl pen)), (aPi, .inl (cI, 8, .inl pix)), (aPl, .inl (cI, 1001, .inl plv_31)), (aPn, .inl (cI, 2000, .inl psn_31))] H := hP.sub [0, 1, 2, 3, 4, 5, 6, 7] rfl
                    have hD : va_D A [(aP, .inr (5, [.ref aS, .ref aV, .ref aPs, .ref aPe, .ref aPi, .ref aPh, .int pcnt, .int (b2i pfix), .int pown, .ref aPl, .ref aPn, .int plc_31, .int psr, .int pbs, .int (b2i pms_31)])), (aS, .inr (0, [.ref aB])), (aB, .inl (cB, 202000, .inl (by_ b))), (aPs, .inl (cI, 8, .inl pst)), (aPe, .inl (cI, 8, .inl pen)), (aPi, .inl (cI, 8, .inl pix)), (aPl, .inl (cI, 1001, .inl plv_31)), (aPn, .inl (cI, 2000, .inl psn_31))] := hD.sub [0, 1, 2, 3, 4, 5, 6, 7] (by decide) rfl
                    refine lv_goto (tgt := 178) hx hb d_PA_goOn_170 (by decide) ?_
                    exact W.vret hx hb hr (fun t ht hW => ⟨⟨(plc_31, pms_31, plv_31, psn_31), rfl, ⟨(by rw [tw_PA_goOn, if_neg c_1, if_neg c_5, if_pos c_9, if_pos c_10, if_pos c_22, if_pos c_23, if_neg c_25, if_pos c_27, if_neg c_28, ← hw_30, tp4_mk, ← hw_31, tp4_mk]; first | done | rfl), hi_31⟩, by rw [ht]; exact hP, hD⟩, hS.F ht⟩) hS.2.2 d_PA_goOn_178
                · refine lv_iconst (v := 0) hx hb d_PA_goOn_126 (by decide) ?_
                  refine lv_goto (tgt := 144) hx hb d_PA_goOn_127 (by decide) ?_
                  refine lv_istore (lv' := [(5, .int 0), (4, .int (tw_ST_kindOf p0)), (0, .ref aP), (1, .int p0), (2, .int p1), (3, .int p2)]) hx hb d_PA_goOn_144 hl (by decide) rfl (fun ls hl => ?_)
                  refine lv_iload hx hb d_PA_goOn_146 (lv_at hl 0 rfl) ?_
                  refine lv_if_eq (tgt := 163) hx hb d_PA_goOn_148 (by decide) (fun c_32 => ?_) (fun c_32 => ?_)
                  · refine lv_aload_n hx hb d_PA_goOn_163 rfl (lv_at hl 2 rfl) ?_
                    refine lv_iload_n hx hb d_PA_goOn_164 rfl (lv_at hl 3 rfl) ?_
                    refine lv_iload_n hx hb d_PA_goOn_165 rfl (lv_at hl 4 rfl) ?_
                    refine lv_iload_n hx hb d_PA_goOn_166 rfl (lv_at hl 5 rfl) ?_
                    refine mt_Vv (As := [.int p0, .int p1, .int p2]) (rest := []) (wr := []) ⟨hx, hb, hml, hown, hT⟩ (h2 c_25 _ plc pms plv psn p0 hi) (cwV 3 hT (gV_of k_891 k_893 kp_PA_goOnAtItems k_7 kc_PA_goOnAtItems) rfl rfl rfl hd_PA_goOnAtItems ⟨rl_f (Nat.le_of_ble_eq_true rfl), rl_l (Nat.le_of_ble_eq_true rfl)⟩) hk hP hD hS hA [0, 1, 2, 3, 4, 5, 6, 7] [] rfl rfl rfl (by decide) (by decide) (by decide) (q0 := 0) rfl rfl rfl rfl hl.1 rfl (Nat.le_of_ble_eq_true rfl) d_PA_goOn_167 ⟨Nat.zero_le _, Nat.zero_le _⟩ (fun u_33 H locs hw_33 hP hD hS => ?_)
                    obtain ⟨plc_33, pms_33, plv_33, psn_33⟩ := u_33
                    obtain ⟨hw_33, hi_33⟩ := hw_33
                    have hP : va_P D vwCl [(aP, .inr (5, [.ref aS, .ref aV, .ref aPs, .ref aPe, .ref aPi, .ref aPh, .int pcnt, .int (b2i pfix), .int pown, .ref aPl, .ref aPn, .int plc_33, .int psr, .int pbs, .int (b2i pms_33)])), (aS, .inr (0, [.ref aB])), (aB, .inl (cB, 202000, .inl (by_ b))), (aPs, .inl (cI, 8, .inl pst)), (aPe, .inl (cI, 8, .inl pen)), (aPi, .inl (cI, 8, .inl pix)), (aPl, .inl (cI, 1001, .inl plv_33)), (aPn, .inl (cI, 2000, .inl psn_33))] H := hP.sub [0, 1, 2, 3, 4, 5, 6, 7] rfl
                    have hD : va_D A [(aP, .inr (5, [.ref aS, .ref aV, .ref aPs, .ref aPe, .ref aPi, .ref aPh, .int pcnt, .int (b2i pfix), .int pown, .ref aPl, .ref aPn, .int plc_33, .int psr, .int pbs, .int (b2i pms_33)])), (aS, .inr (0, [.ref aB])), (aB, .inl (cB, 202000, .inl (by_ b))), (aPs, .inl (cI, 8, .inl pst)), (aPe, .inl (cI, 8, .inl pen)), (aPi, .inl (cI, 8, .inl pix)), (aPl, .inl (cI, 1001, .inl plv_33)), (aPn, .inl (cI, 2000, .inl psn_33))] := hD.sub [0, 1, 2, 3, 4, 5, 6, 7] (by decide) rfl
                    refine lv_goto (tgt := 178) hx hb d_PA_goOn_170 (by decide) ?_
                    exact W.vret hx hb hr (fun t ht hW => ⟨⟨(plc_33, pms_33, plv_33, psn_33), rfl, ⟨(by rw [tw_PA_goOn, if_neg c_1, if_neg c_5, if_pos c_9, if_pos c_10, if_pos c_22, if_pos c_23, if_neg c_25, if_neg c_27, ← hw_33, tp4_mk]; first | done | rfl), hi_33⟩, by rw [ht]; exact hP, hD⟩, hS.F ht⟩) hS.2.2 d_PA_goOn_178
                  · exact absurd c_32 (by decide)
          · refine lv_aload_n hx hb d_PA_goOn_55 rfl (lv_at hl 1 rfl) ?_
            refine va_get (D := D) (ci := 5) (v := .ref aS) (C := R_PA) (T := T_PA) (N := 15) hx hb hT u_PA hown hK hP 0 rfl rfl 0 (by decide) (hT _ k_140) (fun _ h9 => h9) rfl d_PA_goOn_56 ?_
            refine lv_iload_n hx hb d_PA_goOn_59 rfl (lv_at hl 2 rfl) ?_
            refine lv_aload_n hx hb d_PA_goOn_60 rfl (lv_at hl 1 rfl) ?_
            refine va_get (D := D) (ci := 5) (v := .ref aPs) (C := R_PA) (T := T_PA) (N := 15) hx hb hT u_PA hown hK hP 0 rfl rfl 2 (by decide) (hT _ k_142) (fun _ h9 => h9) rfl d_PA_goOn_61 ?_
            refine lv_iload_n hx hb d_PA_goOn_64 rfl (lv_at hl 3 rfl) ?_
            refine va_iald hx hb hK hP 3 1 rfl rfl (in_np c_1 c_9 rfl) d_PA_goOn_65 ?_
            refine lv_aload_n hx hb d_PA_goOn_66 rfl (lv_at hl 1 rfl) ?_
            refine va_get (D := D) (ci := 5) (v := .ref aPe) (C := R_PA) (T := T_PA) (N := 15) hx hb hT u_PA hown hK hP 0 rfl rfl 3 (by decide) (hT _ k_143) (fun _ h9 => h9) rfl d_PA_goOn_67 ?_
            refine lv_iload_n hx hb d_PA_goOn_70 rfl (lv_at hl 3 rfl) ?_
            refine va_iald hx hb hK hP 4 1 rfl rfl (in_np c_1 c_9 rfl) d_PA_goOn_71 ?_
            refine rd_V (val := tw_ST_find b p0 (pst p1.toNatClampNeg) (pen p1.toNatClampNeg)) (As := [.int p0, .int (pst p1.toNatClampNeg), .int (pen p1.toNatClampNeg)]) (rest := []) ⟨hx, hb, hml, hown, hT⟩ (c_ST_find l D cB cI aS aB b p0 (pst p1.toNatClampNeg) (pen p1.toNatClampNeg)) (cwV 3 hT (gV_of k_651 k_611 k_612 k_2 kc_ST_find) rfl rfl rfl hd_ST_find ⟨rl_s (Nat.le_of_ble_eq_true rfl), rl_s (Nat.le_of_ble_eq_true rfl)⟩) hk (hP.sub (ws' := [(aS, .inr (0, [.ref aB])), (aB, .inl (cB, 202000, .inl (by_ b)))]) [1, 2] rfl) (q0 := 0) rfl rfl rfl rfl hl.1 rfl (Nat.le_of_ble_eq_true rfl) d_PA_goOn_72 ⟨Nat.zero_le _, Nat.zero_le _⟩ ?_
            refine lv_istore (lv' := [(5, .int (tw_ST_find b p0 (pst p1.toNatClampNeg) (pen p1.toNatClampNeg))), (4, .int (tw_ST_kindOf p0)), (0, .ref aP), (1, .int p0), (2, .int p1), (3, .int p2)]) hx hb d_PA_goOn_75 hl (by decide) rfl (fun ls hl => ?_)
            refine lv_iload hx hb d_PA_goOn_77 (lv_at hl 0 rfl) ?_
            refine lv_if_ne (tgt := 90) hx hb d_PA_goOn_79 (by decide) (fun c_34 => ?_) (fun c_34 => ?_)
            · refine lv_aload_n hx hb d_PA_goOn_90 rfl (lv_at hl 2 rfl) ?_
              refine lv_iload hx hb d_PA_goOn_91 (lv_at hl 0 rfl) ?_
              refine lv_iload_n hx hb d_PA_goOn_93 rfl (lv_at hl 4 rfl) ?_
              refine lv_iconst (v := 1) hx hb d_PA_goOn_94 (by decide) ?_
              refine lv_iadd hx hb d_PA_goOn_95 ?_
              refine lv_iload_n hx hb d_PA_goOn_96 rfl (lv_at hl 5 rfl) ?_
              refine lv_iconst (v := 1) hx hb d_PA_goOn_97 (by decide) ?_
              refine lv_iadd hx hb d_PA_goOn_98 ?_
              refine mt_Vv (As := [.int (tw_ST_find b p0 (pst p1.toNatClampNeg) (pen p1.toNatClampNeg)), .int (p1 + 1), .int (p2 + 1)]) (rest := []) (wr := []) ⟨hx, hb, hml, hown, hT⟩ (h1 c_22 _ plc pms plv psn (tw_ST_find b p0 (pst p1.toNatClampNeg) (pen p1.toNatClampNeg)) hi) (cwV 3 hT (gV_of k_875 k_877 kp_PA_goOn k_7 kc_PA_goOn) rfl rfl rfl hd_PA_goOn ⟨rl_g hG.1 (Nat.le_of_ble_eq_true rfl), rl_h hG.2 (Nat.le_of_ble_eq_true rfl)⟩) hk hP hD hS hA [0, 1, 2, 3, 4, 5, 6, 7] [] rfl rfl rfl (by decide) (by decide) (by decide) (q0 := 0) rfl rfl rfl rfl hl.1 rfl (Nat.le_of_ble_eq_true rfl) d_PA_goOn_99 ⟨Nat.zero_le _, Nat.zero_le _⟩ (fun u_35 H locs hw_35 hP hD hS => ?_)
              obtain ⟨plc_35, pms_35, plv_35, psn_35⟩ := u_35
              obtain ⟨hw_35, hi_35⟩ := hw_35
              have hP : va_P D vwCl [(aP, .inr (5, [.ref aS, .ref aV, .ref aPs, .ref aPe, .ref aPi, .ref aPh, .int pcnt, .int (b2i pfix), .int pown, .ref aPl, .ref aPn, .int plc_35, .int psr, .int pbs, .int (b2i pms_35)])), (aS, .inr (0, [.ref aB])), (aB, .inl (cB, 202000, .inl (by_ b))), (aPs, .inl (cI, 8, .inl pst)), (aPe, .inl (cI, 8, .inl pen)), (aPi, .inl (cI, 8, .inl pix)), (aPl, .inl (cI, 1001, .inl plv_35)), (aPn, .inl (cI, 2000, .inl psn_35))] H := hP.sub [0, 1, 2, 3, 4, 5, 6, 7] rfl
              have hD : va_D A [(aP, .inr (5, [.ref aS, .ref aV, .ref aPs, .ref aPe, .ref aPi, .ref aPh, .int pcnt, .int (b2i pfix), .int pown, .ref aPl, .ref aPn, .int plc_35, .int psr, .int pbs, .int (b2i pms_35)])), (aS, .inr (0, [.ref aB])), (aB, .inl (cB, 202000, .inl (by_ b))), (aPs, .inl (cI, 8, .inl pst)), (aPe, .inl (cI, 8, .inl pen)), (aPi, .inl (cI, 8, .inl pix)), (aPl, .inl (cI, 1001, .inl plv_35)), (aPn, .inl (cI, 2000, .inl psn_35))] := hD.sub [0, 1, 2, 3, 4, 5, 6, 7] (by decide) rfl
              refine lv_goto (tgt := 178) hx hb d_PA_goOn_102 (by decide) ?_
              exact W.vret hx hb hr (fun t ht hW => ⟨⟨(plc_35, pms_35, plv_35, psn_35), rfl, ⟨(by rw [tw_PA_goOn, if_neg c_1, if_neg c_5, if_pos c_9, if_pos c_10, if_neg c_22, if_neg c_34, ← hw_35, tp4_mk]; first | done | rfl), hi_35⟩, by rw [ht]; exact hP, hD⟩, hS.F ht⟩) hS.2.2 d_PA_goOn_178
            · refine lv_aload_n hx hb d_PA_goOn_82 rfl (lv_at hl 2 rfl) ?_
              refine lv_iconst (v := 0) hx hb d_PA_goOn_83 (by decide) ?_
              refine mt_Vv (As := [.int 0]) (rest := []) (wr := [(aS, .inr (0, [.ref aB])), (aB, .inl (cB, 202000, .inl (by_ b))), (aPs, .inl (cI, 8, .inl pst)), (aPe, .inl (cI, 8, .inl pen)), (aPi, .inl (cI, 8, .inl pix))]) ⟨hx, hb, hml, hown, hT⟩ (c_PA_meet l D cB cI aP aS aV aPs aPe aPi aPh aPl aPn pcnt pfix pown psr pbs _ plc pms plv psn 0 hi) (cwV 1 hT (gV_of k_879 k_881 kp_PA_meet k_7 kc_PA_meet) rfl rfl rfl hd_PA_meet ⟨rl_s (Nat.le_of_ble_eq_true rfl), rl_s (Nat.le_of_ble_eq_true rfl)⟩) hk hP hD hS hA [0, 6, 7] [1, 2, 3, 4, 5] rfl rfl rfl (by decide) (by decide) (by decide) (q0 := 0) rfl rfl rfl rfl hl.1 rfl (Nat.le_of_ble_eq_true rfl) d_PA_goOn_84 ⟨Nat.zero_le _, Nat.zero_le _⟩ (fun u_36 H locs hw_36 hP hD hS => ?_)
              obtain ⟨plc_36, pms_36, plv_36, psn_36⟩ := u_36
              obtain ⟨hw_36, hi_36⟩ := hw_36
              have hP : va_P D vwCl [(aP, .inr (5, [.ref aS, .ref aV, .ref aPs, .ref aPe, .ref aPi, .ref aPh, .int pcnt, .int (b2i pfix), .int pown, .ref aPl, .ref aPn, .int plc_36, .int psr, .int pbs, .int (b2i pms_36)])), (aS, .inr (0, [.ref aB])), (aB, .inl (cB, 202000, .inl (by_ b))), (aPs, .inl (cI, 8, .inl pst)), (aPe, .inl (cI, 8, .inl pen)), (aPi, .inl (cI, 8, .inl pix)), (aPl, .inl (cI, 1001, .inl plv_36)), (aPn, .inl (cI, 2000, .inl psn_36))] H := hP.sub [5, 0, 1, 2, 3, 4, 6, 7] rfl
              have hD : va_D A [(aP, .inr (5, [.ref aS, .ref aV, .ref aPs, .ref aPe, .ref aPi, .ref aPh, .int pcnt, .int (b2i pfix), .int pown, .ref aPl, .ref aPn, .int plc_36, .int psr, .int pbs, .int (b2i pms_36)])), (aS, .inr (0, [.ref aB])), (aB, .inl (cB, 202000, .inl (by_ b))), (aPs, .inl (cI, 8, .inl pst)), (aPe, .inl (cI, 8, .inl pen)), (aPi, .inl (cI, 8, .inl pix)), (aPl, .inl (cI, 1001, .inl plv_36)), (aPn, .inl (cI, 2000, .inl psn_36))] := hD.sub [5, 0, 1, 2, 3, 4, 6, 7] (by decide) rfl
              refine lv_goto (tgt := 102) hx hb d_PA_goOn_87 (by decide) ?_
              refine lv_goto (tgt := 178) hx hb d_PA_goOn_102 (by decide) ?_
              exact W.vret hx hb hr (fun t ht hW => ⟨⟨(plc_36, pms_36, plv_36, psn_36), rfl, ⟨(by rw [tw_PA_goOn, if_neg c_1, if_neg c_5, if_pos c_9, if_pos c_10, if_neg c_22, if_pos c_34, ← hw_36, tp4_mk]; first | done | rfl), hi_36⟩, by rw [ht]; exact hP, hD⟩, hS.F ht⟩) hS.2.2 d_PA_goOn_178
      · refine lv_aload_n hx hb d_PA_goOn_24 rfl (lv_at hl 1 rfl) ?_
        refine lv_iload_n hx hb d_PA_goOn_25 rfl (lv_at hl 2 rfl) ?_
        refine mt_Vv (As := [.int p0]) (rest := []) (wr := [(aS, .inr (0, [.ref aB])), (aB, .inl (cB, 202000, .inl (by_ b))), (aPs, .inl (cI, 8, .inl pst)), (aPe, .inl (cI, 8, .inl pen)), (aPi, .inl (cI, 8, .inl pix))]) ⟨hx, hb, hml, hown, hT⟩ (c_PA_meet l D cB cI aP aS aV aPs aPe aPi aPh aPl aPn pcnt pfix pown psr pbs _ plc pms plv psn p0 hi) (cwV 1 hT (gV_of k_879 k_881 kp_PA_meet k_7 kc_PA_meet) rfl rfl rfl hd_PA_meet ⟨rl_s (Nat.le_of_ble_eq_true rfl), rl_s (Nat.le_of_ble_eq_true rfl)⟩) hk hP hD hS hA [0, 6, 7] [1, 2, 3, 4, 5] rfl rfl rfl (by decide) (by decide) (by decide) (q0 := 0) rfl rfl rfl rfl hl.1 rfl (Nat.le_of_ble_eq_true rfl) d_PA_goOn_26 ⟨Nat.zero_le _, Nat.zero_le _⟩ (fun u_37 H locs hw_37 hP hD hS => ?_)
        obtain ⟨plc_37, pms_37, plv_37, psn_37⟩ := u_37
        obtain ⟨hw_37, hi_37⟩ := hw_37
        have hP : va_P D vwCl [(aP, .inr (5, [.ref aS, .ref aV, .ref aPs, .ref aPe, .ref aPi, .ref aPh, .int pcnt, .int (b2i pfix), .int pown, .ref aPl, .ref aPn, .int plc_37, .int psr, .int pbs, .int (b2i pms_37)])), (aS, .inr (0, [.ref aB])), (aB, .inl (cB, 202000, .inl (by_ b))), (aPs, .inl (cI, 8, .inl pst)), (aPe, .inl (cI, 8, .inl pen)), (aPi, .inl (cI, 8, .inl pix)), (aPl, .inl (cI, 1001, .inl plv_37)), (aPn, .inl (cI, 2000, .inl psn_37))] H := hP.sub [5, 0, 1, 2, 3, 4, 6, 7] rfl
        have hD : va_D A [(aP, .inr (5, [.ref aS, .ref aV, .ref aPs, .ref aPe, .ref aPi, .ref aPh, .int pcnt, .int (b2i pfix), .int pown, .ref aPl, .ref aPn, .int plc_37, .int psr, .int pbs, .int (b2i pms_37)])), (aS, .inr (0, [.ref aB])), (aB, .inl (cB, 202000, .inl (by_ b))), (aPs, .inl (cI, 8, .inl pst)), (aPe, .inl (cI, 8, .inl pen)), (aPi, .inl (cI, 8, .inl pix)), (aPl, .inl (cI, 1001, .inl plv_37)), (aPn, .inl (cI, 2000, .inl psn_37))] := hD.sub [5, 0, 1, 2, 3, 4, 6, 7] (by decide) rfl
        refine lv_iload hx hb d_PA_goOn_29 (lv_at hl 0 rfl) ?_
        refine lv_iconst (v := 4) hx hb d_PA_goOn_31 (by decide) ?_
        refine lv_icmp_ne (tgt := 178) hx hb d_PA_goOn_32 (by decide) (fun c_38 => ?_) (fun c_38 => ?_)
        · exact W.vret hx hb hr (fun t ht hW => ⟨⟨(plc_37, pms_37, plv_37, psn_37), rfl, ⟨(by rw [tw_PA_goOn, if_neg c_1, if_neg c_5, if_neg c_9, ← hw_37, tp4_mk, if_neg c_38]; first | done | rfl), hi_37⟩, by rw [ht]; exact hP, hD⟩, hS.F ht⟩) hS.2.2 d_PA_goOn_178
        · refine lv_aload_n hx hb d_PA_goOn_35 rfl (lv_at hl 1 rfl) ?_
          refine lv_iload_n hx hb d_PA_goOn_36 rfl (lv_at hl 2 rfl) ?_
          refine mt_Vv (As := [.int p0]) (rest := []) (wr := [(aPs, .inl (cI, 8, .inl pst)), (aPe, .inl (cI, 8, .inl pen)), (aPi, .inl (cI, 8, .inl pix))]) ⟨hx, hb, hml, hown, hT⟩ (c_PA_meetItems l D cB cI aP aS aV aPs aPe aPi aPh aPl aPn aB pcnt pfix pown psr pbs b _ plc_37 pms_37 plv_37 psn_37 p0 hi_37) (cwV 1 hT (gV_of k_883 k_885 kp_PA_meetItems k_7 kc_PA_meetItems) rfl rfl rfl hd_PA_meetItems ⟨rl_s (Nat.le_of_ble_eq_true rfl), rl_s (Nat.le_of_ble_eq_true rfl)⟩) hk hP hD hS hA [0, 1, 2, 6, 7] [3, 4, 5] rfl rfl rfl (by decide) (by decide) (by decide) (q0 := 0) rfl rfl rfl rfl hl.1 rfl (Nat.le_of_ble_eq_true rfl) d_PA_goOn_37 ⟨Nat.zero_le _, Nat.zero_le _⟩ (fun u_39 H locs hw_39 hP hD hS => ?_)
          obtain ⟨plc_39, pms_39, plv_39, psn_39⟩ := u_39
          obtain ⟨hw_39, hi_39⟩ := hw_39
          have hP : va_P D vwCl [(aP, .inr (5, [.ref aS, .ref aV, .ref aPs, .ref aPe, .ref aPi, .ref aPh, .int pcnt, .int (b2i pfix), .int pown, .ref aPl, .ref aPn, .int plc_39, .int psr, .int pbs, .int (b2i pms_39)])), (aS, .inr (0, [.ref aB])), (aB, .inl (cB, 202000, .inl (by_ b))), (aPs, .inl (cI, 8, .inl pst)), (aPe, .inl (cI, 8, .inl pen)), (aPi, .inl (cI, 8, .inl pix)), (aPl, .inl (cI, 1001, .inl plv_39)), (aPn, .inl (cI, 2000, .inl psn_39))] H := hP.sub [3, 4, 5, 0, 1, 2, 6, 7] rfl
          have hD : va_D A [(aP, .inr (5, [.ref aS, .ref aV, .ref aPs, .ref aPe, .ref aPi, .ref aPh, .int pcnt, .int (b2i pfix), .int pown, .ref aPl, .ref aPn, .int plc_39, .int psr, .int pbs, .int (b2i pms_39)])), (aS, .inr (0, [.ref aB])), (aB, .inl (cB, 202000, .inl (by_ b))), (aPs, .inl (cI, 8, .inl pst)), (aPe, .inl (cI, 8, .inl pen)), (aPi, .inl (cI, 8, .inl pix)), (aPl, .inl (cI, 1001, .inl plv_39)), (aPn, .inl (cI, 2000, .inl psn_39))] := hD.sub [3, 4, 5, 0, 1, 2, 6, 7] (by decide) rfl
          refine lv_goto (tgt := 178) hx hb d_PA_goOn_40 (by decide) ?_
          exact W.vret hx hb hr (fun t ht hW => ⟨⟨(plc_39, pms_39, plv_39, psn_39), rfl, ⟨(by rw [tw_PA_goOn, if_neg c_1, if_neg c_5, if_neg c_9, ← hw_37, tp4_mk, if_pos c_38, ← hw_39, tp4_mk]; first | done | rfl), hi_39⟩, by rw [ht]; exact hP, hD⟩, hS.F ht⟩) hS.2.2 d_PA_goOn_178
theorem go_0 {d : Int32} (h : 40 - d.toInt ≤ (0 : Nat)) (q : ¬ 40 ≤ d) : False := by
  have := i_nle q
  have y : (40 : Int32).toInt = 40 := rfl
  omega
theorem go_s {d : Int32} {k : Nat} (h : 40 - d.toInt ≤ (k + 1 : Nat)) (q : ¬ 40 ≤ d) : 40 - (d + 1).toInt ≤ (k : Nat) := by
  have := i_toInt1 (i_lt_of q)
  omega
/-- goOn, its depth counted down by k -/
theorem c_PA_gok (l : Launch) (D : va_G) (cB cI : ClassId) (aP aS aV aPs aPe aPi aPh aPl aPn aB : Nat) (pcnt : Int32) (pfix : Bool) (pown : Int32) (psr : Int32) (pbs : Int32) (b : Nat → UInt8) (pst : Nat → Int32) (pen : Nat → Int32) (pix : Nat → Int32) : ∀ (k : Nat) (p1 p2 : Int32), 40 - p2.toInt ≤ (k : Nat) → ∀ (sz : Nat) (plc : Int32) (pms : Bool) (plv : Nat → Int32) (psn : Nat → Int32) (x : Int32), l_ok plc → Met l y_PA_goOn mw_PA_goOn { frames := 10 * k + 5, cells := 0, slots := 0, locals := 240 * k + 120 } (va_Pc [.ref aP, .int x, .int p1, .int p2] (mt_P D cB cI (wd_PG aP aS aV aPs aPe aPi aPh aPl aPn aB cB cI pcnt pfix pown psr pbs b pst pen pix plc pms plv psn) sz)) (va_Qv (fun (u : Int32 × Bool × (Nat → Int32) × (Nat → Int32)) => u = tw_PA_gok pcnt psr pbs b pst pen pix k p1 p2 plc pms plv psn x ∧ l_ok u.1) (mt_B D (va_A (wd_PG aP aS aV aPs aPe aPi aPh aPl aPn aB cB cI pcnt pfix pown psr pbs b pst pen pix plc pms plv psn) sz) (fun u => wd_PG aP aS aV aPs aPe aPi aPh aPl aPn aB cB cI pcnt pfix pown psr pbs b pst pen pix u.1 u.2.1 u.2.2.1 u.2.2.2)) (va_A (wd_PG aP aS aV aPs aPe aPi aPh aPl aPn aB cB cI pcnt pfix pown psr pbs b pst pen pix plc pms plv psn) sz)) 0 0 (va_A (wd_PG aP aS aV aPs aPe aPi aPh aPl aPn aB cB cI pcnt pfix pown psr pbs b pst pen pix plc pms plv psn) sz) := by
  intro k
  induction k with
  | zero =>
    intro p1 p2 hd sz plc pms plv psn x hi
    exact c_PA_goOn l D cB cI aP aS aV aPs aPe aPi aPh aPl aPn aB (10 * 0) (240 * 0) 0 0 _ _ pcnt pfix pown psr pbs b pst pen pix sz plc pms plv psn x p1 p2 ⟨Nat.zero_le _, Nat.zero_le _⟩ (fun q => (go_0 hd q).elim) (fun q => (go_0 hd q).elim) hi
  | succ k ih =>
    intro p1 p2 hd sz plc pms plv psn x hi
    exact c_PA_goOn l D cB cI aP aS aV aPs aPe aPi aPh aPl aPn aB (10 * (k + 1)) (240 * (k + 1)) (10 * k + 5) (240 * k + 120) _ _ pcnt pfix pown psr pbs b pst pen pix sz plc pms plv psn x p1 p2 ⟨by omega, by omega⟩
      (fun q sz plc pms plv psn y hi => ih (p1 + 1) (p2 + 1) (go_s hd q) sz plc pms plv psn y hi)
      (fun q sz plc pms plv psn y hi => c_PA_goOnAtItems l D cB cI aP aS aV aPs aPe aPi aPh aPl aPn aB (10 * k + 5) (240 * k + 120) _ pcnt pfix pown psr pbs b pst pen pix sz plc pms plv psn y p1 p2 (fun sz plc pms plv psn z hi => ih p1 (p2 + 1) (go_s hd q) sz plc pms plv psn z hi) hi) hi

theorem c_PA_go1 (l : Launch) (D : va_G) (cB cI : ClassId) (aP aS aV aPs aPe aPi aPh aPl aPn aB : Nat) (pcnt : Int32) (pfix : Bool) (pown : Int32) (psr : Int32) (pbs : Int32) (b : Nat → UInt8) (pst : Nat → Int32) (pen : Nat → Int32) (pix : Nat → Int32) (sz : Nat) (plc : Int32) (pms : Bool) (plv : Nat → Int32) (psn : Nat → Int32) (x : Int32) (hi : l_ok plc) : Met l y_PA_goOn mw_PA_goOn { frames := 395, cells := 0, slots := 0, locals := 9480 } (va_Pc [.ref aP, .int x, .int 0, .int 1] (mt_P D cB cI (wd_PG aP aS aV aPs aPe aPi aPh aPl aPn aB cB cI pcnt pfix pown psr pbs b pst pen pix plc pms plv psn) sz)) (va_Qv (fun (u : Int32 × Bool × (Nat → Int32) × (Nat → Int32)) => u = tw_PA_go1 pcnt psr pbs b pst pen pix plc pms plv psn x ∧ l_ok u.1) (mt_B D (va_A (wd_PG aP aS aV aPs aPe aPi aPh aPl aPn aB cB cI pcnt pfix pown psr pbs b pst pen pix plc pms plv psn) sz) (fun u => wd_PG aP aS aV aPs aPe aPi aPh aPl aPn aB cB cI pcnt pfix pown psr pbs b pst pen pix u.1 u.2.1 u.2.2.1 u.2.2.2)) (va_A (wd_PG aP aS aV aPs aPe aPi aPh aPl aPn aB cB cI pcnt pfix pown psr pbs b pst pen pix plc pms plv psn) sz)) 0 0 (va_A (wd_PG aP aS aV aPs aPe aPi aPh aPl aPn aB cB cI pcnt pfix pown psr pbs b pst pen pix plc pms plv psn) sz) := c_PA_gok l D cB cI aP aS aV aPs aPe aPi aPh aPl aPn aB pcnt pfix pown psr pbs b pst pen pix 39 0 1 (by decide) sz plc pms plv psn x hi

abbrev wd_PA_findLeaves (aP aS aV aPs aPe aPi aPh aPl aPn aB : Nat) (cB cI : ClassId) (pcnt : Int32) (pfix : Bool) (pown : Int32) (b : Nat → UInt8) (pst : Nat → Int32) (pen : Nat → Int32) (pix : Nat → Int32) (plc : Int32) (psr : Int32) (pbs : Int32) (pms : Bool) (plv : Nat → Int32) (psn : Nat → Int32) : va_W := [(aP, .inr (5, [.ref aS, .ref aV, .ref aPs, .ref aPe, .ref aPi, .ref aPh, .int pcnt, .int (b2i pfix), .int pown, .ref aPl, .ref aPn, .int plc, .int psr, .int pbs, .int (b2i pms)])), (aS, .inr (0, [.ref aB])), (aB, .inl (cB, 202000, .inl (by_ b))), (aPs, .inl (cI, 8, .inl pst)), (aPe, .inl (cI, 8, .inl pen)), (aPi, .inl (cI, 8, .inl pix)), (aPl, .inl (cI, 1001, .inl plv)), (aPn, .inl (cI, 2000, .inl psn))]
set_option maxHeartbeats 4000000 in
set_option maxRecDepth 100000 in
theorem c_PA_findLeaves (l : Launch) (D : va_G) (cB cI : ClassId) (aP aS aV aPs aPe aPi aPh aPl aPn aB : Nat) (pcnt : Int32) (pfix : Bool) (pown : Int32) (b : Nat → UInt8) (pst : Nat → Int32) (pen : Nat → Int32) (pix : Nat → Int32) (sz : Nat) (plc : Int32) (psr : Int32) (pbs : Int32) (pms : Bool) (plv : Nat → Int32) (psn : Nat → Int32) (p0 : Int32) : Met l y_PA_findLeaves mw_PA_findLeaves { frames := 396, cells := 0, slots := 0, locals := 9505 } (va_Pc [.ref aP, .int p0] (mt_P D cB cI (wd_PA_findLeaves aP aS aV aPs aPe aPi aPh aPl aPn aB cB cI pcnt pfix pown b pst pen pix plc psr pbs pms plv psn) sz)) (va_Qv (fun (u : Int32 × Int32 × Int32 × Bool × (Nat → Int32) × (Nat → Int32)) => u = tw_PA_findLeaves pcnt b pst pen pix plc psr pbs pms plv psn p0 ∧ l_ok u.1) (mt_B D (va_A (wd_PA_findLeaves aP aS aV aPs aPe aPi aPh aPl aPn aB cB cI pcnt pfix pown b pst pen pix plc psr pbs pms plv psn) sz) (fun u => wd_PA_findLeaves aP aS aV aPs aPe aPi aPh aPl aPn aB cB cI pcnt pfix pown b pst pen pix u.1 u.2.1 u.2.2.1 u.2.2.2.1 u.2.2.2.2.1 u.2.2.2.2.2)) (va_A (wd_PA_findLeaves aP aS aV aPs aPe aPi aPh aPl aPn aB cB cI pcnt pfix pown b pst pen pix plc psr pbs pms plv psn) sz)) 0 0 (va_A (wd_PA_findLeaves aP aS aV aPs aPe aPi aPh aPl aPn aB cB cI pcnt pfix pown b pst pen pix plc psr pbs pms plv psn) sz) := by
  refine Met.ofW (cc := b_PA_findLeaves) (maxL := 2) (ret := none) (by decide) rfl ?_
  intro p e s m args below meth c s₁ B0 hml hv
  obtain ⟨rfl, hsz, hP, hk, hD0⟩ := hv
  have hK := hk.1
  have hN := hk.2.1
  have hx := B0.exec
  have hb := B0.bytes
  have hr := B0.returns
  have hT : ∀ w ∈ lw_g, w.before _ s = true := fun w h => atoms_spec (ws := mw_PA_findLeaves) B0.pre w (List.mem_cons_of_mem _ h)
  have hown : s.vm.findClass R_PA = some m.cls := findClass_of_methodNamed B0.named
  have hlocks := B0.notSynchronized
  subst hsz
  have hD := hD0.self (sz := s.heap.size)
  generalize hAe : va_A [(aP, .inr (5, [.ref aS, .ref aV, .ref aPs, .ref aPe, .ref aPi, .ref aPh, .int pcnt, .int (b2i pfix), .int pown, .ref aPl, .ref aPn, .int plc, .int psr, .int pbs, .int (b2i pms)])), (aS, .inr (0, [.ref aB])), (aB, .inl (cB, 202000, .inl (by_ b))), (aPs, .inl (cI, 8, .inl pst)), (aPe, .inl (cI, 8, .inl pen)), (aPi, .inl (cI, 8, .inl pix)), (aPl, .inl (cI, 1001, .inl plv)), (aPn, .inl (cI, 2000, .inl psn))] s.heap.size = A at hD ⊢
  have hA : ∀ q : Nat, s.heap.size ≤ q → A q := fun q h => by rw [← hAe]; exact Or.inr h
  have hS : va_S A s.heap s.heap [] := va_S.rf
  have hl := lv_entry ([.ref aP, .int p0]) (n := 2) (Nat.le_of_ble_eq_true rfl)
  rw [lg_entry_eq]
  generalize (lg_sl ([.ref aP, .int p0]) ++ List.replicate (2 - (lg_sl ([.ref aP, .int p0])).length) Slot.unset).toArray = ls at hl ⊢
  have hl : lv_has ls 2 [(0, .ref aP), (1, .int p0)] := hl
  refine lv_aload_n hx hb d_PA_findLeaves_0 rfl (lv_at hl 0 rfl) ?_
  refine lv_iconst (v := 0) hx hb d_PA_findLeaves_1 (by decide) ?_
  refine va_put (D := D) (ci := 5) (v := .int 0) (ty := .int) (C := R_PA) (T := T_PA) (N := 15) hx hb hT u_PA ty_PA tyok_PA nm_PA hown hK hP hD hS 0 rfl rfl 11 (by decide) (hT _ k_155) (fun _ h9 => h9) rfl (by decide +kernel) (rfl) (rfl) (Nat.le_of_ble_eq_true rfl) d_PA_findLeaves_2 (fun H locs hP hD hS => ?_)
  have hP : va_P D vwCl [(aP, .inr (5, [.ref aS, .ref aV, .ref aPs, .ref aPe, .ref aPi, .ref aPh, .int pcnt, .int (b2i pfix), .int pown, .ref aPl, .ref aPn, .int 0, .int psr, .int pbs, .int (b2i pms)])), (aS, .inr (0, [.ref aB])), (aB, .inl (cB, 202000, .inl (by_ b))), (aPs, .inl (cI, 8, .inl pst)), (aPe, .inl (cI, 8, .inl pen)), (aPi, .inl (cI, 8, .inl pix)), (aPl, .inl (cI, 1001, .inl plv)), (aPn, .inl (cI, 2000, .inl psn))] H := hP
  have hD : va_D A [(aP, .inr (5, [.ref aS, .ref aV, .ref aPs, .ref aPe, .ref aPi, .ref aPh, .int pcnt, .int (b2i pfix), .int pown, .ref aPl, .ref aPn, .int 0, .int psr, .int pbs, .int (b2i pms)])), (aS, .inr (0, [.ref aB])), (aB, .inl (cB, 202000, .inl (by_ b))), (aPs, .inl (cI, 8, .inl pst)), (aPe, .inl (cI, 8, .inl pen)), (aPi, .inl (cI, 8, .inl pix)), (aPl, .inl (cI, 1001, .inl plv)), (aPn, .inl (cI, 2000, .inl psn))] := hD
  refine lv_aload_n hx hb d_PA_findLeaves_5 rfl (lv_at hl 0 rfl) ?_
  refine lv_iconst (v := 0) hx hb d_PA_findLeaves_6 (by decide) ?_
  refine va_put (D := D) (ci := 5) (v := .int 0) (ty := .boolean) (C := R_PA) (T := T_PA) (N := 15) hx hb hT u_PA ty_PA tyok_PA nm_PA hown hK hP hD hS 0 rfl rfl 14 (by decide) (hT _ k_158) (fun _ h9 => h9) rfl (by decide +kernel) (rfl) (rfl) (Nat.le_of_ble_eq_true rfl) d_PA_findLeaves_7 (fun H locs hP hD hS => ?_)
  have hP : va_P D vwCl [(aP, .inr (5, [.ref aS, .ref aV, .ref aPs, .ref aPe, .ref aPi, .ref aPh, .int pcnt, .int (b2i pfix), .int pown, .ref aPl, .ref aPn, .int 0, .int psr, .int pbs, .int 0])), (aS, .inr (0, [.ref aB])), (aB, .inl (cB, 202000, .inl (by_ b))), (aPs, .inl (cI, 8, .inl pst)), (aPe, .inl (cI, 8, .inl pen)), (aPi, .inl (cI, 8, .inl pix)), (aPl, .inl (cI, 1001, .inl plv)), (aPn, .inl (cI, 2000, .inl psn))] H := hP
  have hD : va_D A [(aP, .inr (5, [.ref aS, .ref aV, .ref aPs, .ref aPe, .ref aPi, .ref aPh, .int pcnt, .int (b2i pfix), .int pown, .ref aPl, .ref aPn, .int 0, .int psr, .int pbs, .int 0])), (aS, .inr (0, [.ref aB])), (aB, .inl (cB, 202000, .inl (by_ b))), (aPs, .inl (cI, 8, .inl pst)), (aPe, .inl (cI, 8, .inl pen)), (aPi, .inl (cI, 8, .inl pix)), (aPl, .inl (cI, 1001, .inl plv)), (aPn, .inl (cI, 2000, .inl psn))] := hD
  refine lv_aload_n hx hb d_PA_findLeaves_10 rfl (lv_at hl 0 rfl) ?_
  refine lv_dup hx hb d_PA_findLeaves_11 rfl ?_
  refine va_get (D := D) (ci := 5) (v := .int psr) (C := R_PA) (T := T_PA) (N := 15) hx hb hT u_PA hown hK hP 0 rfl rfl 12 (by decide) (hT _ k_156) (fun _ h9 => h9) rfl d_PA_findLeaves_12 ?_
  refine lv_iconst (v := 1) hx hb d_PA_findLeaves_15 (by decide) ?_
  refine lv_iadd hx hb d_PA_findLeaves_16 ?_
  refine va_put (D := D) (ci := 5) (v := .int (psr + 1)) (ty := .int) (C := R_PA) (T := T_PA) (N := 15) hx hb hT u_PA ty_PA tyok_PA nm_PA hown hK hP hD hS 0 rfl rfl 12 (by decide) (hT _ k_156) (fun _ h9 => h9) rfl (by decide +kernel) (rfl) (rfl) (Nat.le_of_ble_eq_true rfl) d_PA_findLeaves_17 (fun H locs hP hD hS => ?_)
  have hP : va_P D vwCl [(aP, .inr (5, [.ref aS, .ref aV, .ref aPs, .ref aPe, .ref aPi, .ref aPh, .int pcnt, .int (b2i pfix), .int pown, .ref aPl, .ref aPn, .int 0, .int (psr + 1), .int pbs, .int 0])), (aS, .inr (0, [.ref aB])), (aB, .inl (cB, 202000, .inl (by_ b))), (aPs, .inl (cI, 8, .inl pst)), (aPe, .inl (cI, 8, .inl pen)), (aPi, .inl (cI, 8, .inl pix)), (aPl, .inl (cI, 1001, .inl plv)), (aPn, .inl (cI, 2000, .inl psn))] H := hP
  have hD : va_D A [(aP, .inr (5, [.ref aS, .ref aV, .ref aPs, .ref aPe, .ref aPi, .ref aPh, .int pcnt, .int (b2i pfix), .int pown, .ref aPl, .ref aPn, .int 0, .int (psr + 1), .int pbs, .int 0])), (aS, .inr (0, [.ref aB])), (aB, .inl (cB, 202000, .inl (by_ b))), (aPs, .inl (cI, 8, .inl pst)), (aPe, .inl (cI, 8, .inl pen)), (aPi, .inl (cI, 8, .inl pix)), (aPl, .inl (cI, 1001, .inl plv)), (aPn, .inl (cI, 2000, .inl psn))] := hD
  refine lv_aload_n hx hb d_PA_findLeaves_20 rfl (lv_at hl 0 rfl) ?_
  refine lv_iload_n hx hb d_PA_findLeaves_21 rfl (lv_at hl 1 rfl) ?_
  refine rd_S (val := tw_ST_placeOf p0) (As := [.int p0]) (rest := [.ref aP]) ⟨hx, hb, hml, hown, hT⟩ (c_ST_placeOf l D cB cI p0) (va_cwS 1 hT (gS_of k_574 k_403 k_2 kc_ST_placeOf) rfl rfl rfl hd_ST_placeOf ⟨Nat.le_of_ble_eq_true rfl, Nat.le_of_ble_eq_true rfl⟩) hk (va_P_nil) rfl hl.1 rfl (Nat.le_of_ble_eq_true rfl) d_PA_findLeaves_22 ⟨Nat.zero_le _, Nat.zero_le _⟩ ?_
  refine va_put (D := D) (ci := 5) (v := .int (tw_ST_placeOf p0)) (ty := .int) (C := R_PA) (T := T_PA) (N := 15) hx hb hT u_PA ty_PA tyok_PA nm_PA hown hK hP hD hS 0 rfl rfl 13 (by decide) (hT _ k_157) (fun _ h9 => h9) rfl (by decide +kernel) (rfl) (rfl) (Nat.le_of_ble_eq_true rfl) d_PA_findLeaves_25 (fun H locs hP hD hS => ?_)
  have hP : va_P D vwCl [(aP, .inr (5, [.ref aS, .ref aV, .ref aPs, .ref aPe, .ref aPi, .ref aPh, .int pcnt, .int (b2i pfix), .int pown, .ref aPl, .ref aPn, .int 0, .int (psr + 1), .int (tw_ST_placeOf p0), .int 0])), (aS, .inr (0, [.ref aB])), (aB, .inl (cB, 202000, .inl (by_ b))), (aPs, .inl (cI, 8, .inl pst)), (aPe, .inl (cI, 8, .inl pen)), (aPi, .inl (cI, 8, .inl pix)), (aPl, .inl (cI, 1001, .inl plv)), (aPn, .inl (cI, 2000, .inl psn))] H := hP
  have hD : va_D A [(aP, .inr (5, [.ref aS, .ref aV, .ref aPs, .ref aPe, .ref aPi, .ref aPh, .int pcnt, .int (b2i pfix), .int pown, .ref aPl, .ref aPn, .int 0, .int (psr + 1), .int (tw_ST_placeOf p0), .int 0])), (aS, .inr (0, [.ref aB])), (aB, .inl (cB, 202000, .inl (by_ b))), (aPs, .inl (cI, 8, .inl pst)), (aPe, .inl (cI, 8, .inl pen)), (aPi, .inl (cI, 8, .inl pix)), (aPl, .inl (cI, 1001, .inl plv)), (aPn, .inl (cI, 2000, .inl psn))] := hD
  refine lv_aload_n hx hb d_PA_findLeaves_28 rfl (lv_at hl 0 rfl) ?_
  refine lv_iload_n hx hb d_PA_findLeaves_29 rfl (lv_at hl 1 rfl) ?_
  refine lv_iconst (v := 0) hx hb d_PA_findLeaves_30 (by decide) ?_
  refine lv_iconst (v := 1) hx hb d_PA_findLeaves_31 (by decide) ?_
  refine mt_Vv (As := [.int p0, .int 0, .int 1]) (rest := []) (wr := []) ⟨hx, hb, hml, hown, hT⟩ (c_PA_go1 l D cB cI aP aS aV aPs aPe aPi aPh aPl aPn aB pcnt pfix pown (psr + 1) (tw_ST_placeOf p0) b pst pen pix _ 0 false plv psn p0 l_0) (cwV 3 hT (gV_of k_875 k_877 kp_PA_goOn k_7 kc_PA_goOn) rfl rfl rfl hd_PA_goOn ⟨Nat.le_of_ble_eq_true rfl, Nat.le_of_ble_eq_true rfl⟩) hk hP hD hS hA [0, 1, 2, 3, 4, 5, 6, 7] [] rfl rfl rfl (by decide) (by decide) (by decide) (q0 := 0) rfl rfl rfl rfl hl.1 rfl (Nat.le_of_ble_eq_true rfl) d_PA_findLeaves_32 ⟨Nat.zero_le _, Nat.zero_le _⟩ (fun u_1 H locs hw_1 hP hD hS => ?_)
  obtain ⟨plc_1, pms_1, plv_1, psn_1⟩ := u_1
  obtain ⟨hw_1, hi_1⟩ := hw_1
  have hP : va_P D vwCl [(aP, .inr (5, [.ref aS, .ref aV, .ref aPs, .ref aPe, .ref aPi, .ref aPh, .int pcnt, .int (b2i pfix), .int pown, .ref aPl, .ref aPn, .int plc_1, .int (psr + 1), .int (tw_ST_placeOf p0), .int (b2i pms_1)])), (aS, .inr (0, [.ref aB])), (aB, .inl (cB, 202000, .inl (by_ b))), (aPs, .inl (cI, 8, .inl pst)), (aPe, .inl (cI, 8, .inl pen)), (aPi, .inl (cI, 8, .inl pix)), (aPl, .inl (cI, 1001, .inl plv_1)), (aPn, .inl (cI, 2000, .inl psn_1))] H := hP.sub [0, 1, 2, 3, 4, 5, 6, 7] rfl
  have hD : va_D A [(aP, .inr (5, [.ref aS, .ref aV, .ref aPs, .ref aPe, .ref aPi, .ref aPh, .int pcnt, .int (b2i pfix), .int pown, .ref aPl, .ref aPn, .int plc_1, .int (psr + 1), .int (tw_ST_placeOf p0), .int (b2i pms_1)])), (aS, .inr (0, [.ref aB])), (aB, .inl (cB, 202000, .inl (by_ b))), (aPs, .inl (cI, 8, .inl pst)), (aPe, .inl (cI, 8, .inl pen)), (aPi, .inl (cI, 8, .inl pix)), (aPl, .inl (cI, 1001, .inl plv_1)), (aPn, .inl (cI, 2000, .inl psn_1))] := hD.sub [0, 1, 2, 3, 4, 5, 6, 7] (by decide) rfl
  exact W.vret hx hb hr (fun t ht hW => ⟨⟨(plc_1, (psr + 1), (tw_ST_placeOf p0), pms_1, plv_1, psn_1), rfl, ⟨(by rw [tw_PA_findLeaves, ← hw_1, tp4_mk]; first | done | rfl), hi_1⟩, by rw [ht]; exact hP, hD⟩, hS.F ht⟩) hS.2.2 d_PA_findLeaves_35
