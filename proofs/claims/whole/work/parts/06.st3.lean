/-! printed by wip/gen -/
theorem k_20 : (Jvm.Cond.initialized "java/lang/Long") ∈ lw_g := lw_gm (List.mem_append_right _ (List.mem_of_getElem? (i := 20) (by decide +kernel))) rfl
theorem k_627 : (Jvm.Cond.static ({ cls := "java/lang/Math", name := "max", desc := "(II)I" } : Jvm.MethodName)) ∈ lw_g := lw_gm (List.mem_append_right _ (List.mem_of_getElem? (i := 627) (by decide +kernel))) rfl
theorem k_664 : (Jvm.Cond.instanceMethod ({ cls := "PipelineBelt$Store", name := "isTooDeep", desc := "(II)Z" } : Jvm.MethodName)) ∈ lw_g := lw_gm (List.mem_append_right _ (List.mem_of_getElem? (i := 664) (by decide +kernel))) rfl
theorem k_665 : (Jvm.Cond.selects "PipelineBelt$Store" ({ cls := "PipelineBelt$Store", name := "isTooDeep", desc := "(II)Z" } : Jvm.MethodName) ({ cls := "PipelineBelt$Store", name := "isTooDeep", desc := "(II)Z" } : Jvm.MethodName)) ∈ lw_g := lw_gm (List.mem_append_right _ (List.mem_of_getElem? (i := 665) (by decide +kernel))) rfl
theorem k_668 : (Jvm.Cond.methodLink "PipelineBelt$Store" (97 : Nat) ({ cls := "PipelineBelt$Store", name := "isTooDeep", desc := "(II)Z" } : Jvm.MethodName)) ∈ lw_g := lw_gm (List.mem_append_right _ (List.mem_of_getElem? (i := 668) (by decide +kernel))) rfl
theorem k_757 : (Jvm.Cond.instanceMethod ({ cls := "PipelineBelt$Store", name := "hash", desc := "(II)I" } : Jvm.MethodName)) ∈ lw_g := lw_gm (List.mem_append_right _ (List.mem_of_getElem? (i := 757) (by decide +kernel))) rfl
theorem k_758 : (Jvm.Cond.selects "PipelineBelt$Store" ({ cls := "PipelineBelt$Store", name := "hash", desc := "(II)I" } : Jvm.MethodName) ({ cls := "PipelineBelt$Store", name := "hash", desc := "(II)I" } : Jvm.MethodName)) ∈ lw_g := lw_gm (List.mem_append_right _ (List.mem_of_getElem? (i := 758) (by decide +kernel))) rfl
theorem k_760 : (Jvm.Cond.methodLink "PipelineBelt$Store" (65 : Nat) ({ cls := "PipelineBelt$Store", name := "number", desc := "(I)J" } : Jvm.MethodName)) ∈ lw_g := lw_gm (List.mem_append_right _ (List.mem_of_getElem? (i := 760) (by decide +kernel))) rfl
theorem k_761 : (Jvm.Cond.instanceMethod ({ cls := "PipelineBelt$Store", name := "number", desc := "(I)J" } : Jvm.MethodName)) ∈ lw_g := lw_gm (List.mem_append_right _ (List.mem_of_getElem? (i := 761) (by decide +kernel))) rfl
theorem k_762 : (Jvm.Cond.selects "PipelineBelt$Store" ({ cls := "PipelineBelt$Store", name := "number", desc := "(I)J" } : Jvm.MethodName) ({ cls := "PipelineBelt$Store", name := "number", desc := "(I)J" } : Jvm.MethodName)) ∈ lw_g := lw_gm (List.mem_append_right _ (List.mem_of_getElem? (i := 762) (by decide +kernel))) rfl
theorem k_766 : (Jvm.Cond.methodLink "PipelineBelt$Store" (80 : Nat) ({ cls := "PipelineBelt$Store", name := "hashNumber", desc := "(J)I" } : Jvm.MethodName)) ∈ lw_g := lw_gm (List.mem_append_right _ (List.mem_of_getElem? (i := 766) (by decide +kernel))) rfl
theorem k_767 : (Jvm.Cond.static ({ cls := "PipelineBelt$Store", name := "hashNumber", desc := "(J)I" } : Jvm.MethodName)) ∈ lw_g := lw_gm (List.mem_append_right _ (List.mem_of_getElem? (i := 767) (by decide +kernel))) rfl
theorem k_769 : (Jvm.Cond.constant "PipelineBelt$Store" (96 : Nat) (625341585 : Int32)) ∈ lw_g := lw_gm (List.mem_append_right _ (List.mem_of_getElem? (i := 769) (by decide +kernel))) rfl
theorem k_770 : (Jvm.Cond.methodLink "PipelineBelt$Store" (84 : Nat) ({ cls := "PipelineBelt$Store", name := "hashBytes", desc := "(II)I" } : Jvm.MethodName)) ∈ lw_g := lw_gm (List.mem_append_right _ (List.mem_of_getElem? (i := 770) (by decide +kernel))) rfl
theorem k_772 : (Jvm.Cond.instanceMethod ({ cls := "PipelineBelt$Store", name := "hashBytes", desc := "(II)I" } : Jvm.MethodName)) ∈ lw_g := lw_gm (List.mem_append_right _ (List.mem_of_getElem? (i := 772) (by decide +kernel))) rfl
theorem k_774 : (Jvm.Cond.methodLink "PipelineBelt$Store" (93 : Nat) ({ cls := "java/lang/Math", name := "max", desc := "(II)I" } : Jvm.MethodName)) ∈ lw_g := lw_gm (List.mem_append_right _ (List.mem_of_getElem? (i := 774) (by decide +kernel))) rfl
theorem k_775 : (Jvm.Cond.methodLink "PipelineBelt$Store" (87 : Nat) ({ cls := "PipelineBelt$Store", name := "hashParts", desc := "(II)I" } : Jvm.MethodName)) ∈ lw_g := lw_gm (List.mem_append_right _ (List.mem_of_getElem? (i := 775) (by decide +kernel))) rfl
theorem k_777 : (Jvm.Cond.instanceMethod ({ cls := "PipelineBelt$Store", name := "hashParts", desc := "(II)I" } : Jvm.MethodName)) ∈ lw_g := lw_gm (List.mem_append_right _ (List.mem_of_getElem? (i := 777) (by decide +kernel))) rfl
theorem k_779 : (Jvm.Cond.methodLink "PipelineBelt$Store" (62 : Nat) ({ cls := "PipelineBelt$Store", name := "classOf", desc := "(I)I" } : Jvm.MethodName)) ∈ lw_g := lw_gm (List.mem_append_right _ (List.mem_of_getElem? (i := 779) (by decide +kernel))) rfl
theorem k_780 : (Jvm.Cond.static ({ cls := "PipelineBelt$Store", name := "classOf", desc := "(I)I" } : Jvm.MethodName)) ∈ lw_g := lw_gm (List.mem_append_right _ (List.mem_of_getElem? (i := 780) (by decide +kernel))) rfl
theorem k_782 : (Jvm.Cond.methodLink "PipelineBelt$Store" (90 : Nat) ({ cls := "PipelineBelt$Store", name := "hash", desc := "(II)I" } : Jvm.MethodName)) ∈ lw_g := lw_gm (List.mem_append_right _ (List.mem_of_getElem? (i := 782) (by decide +kernel))) rfl
theorem k_784 : (Jvm.Cond.instanceMethod ({ cls := "PipelineBelt$Store", name := "compare", desc := "(III)I" } : Jvm.MethodName)) ∈ lw_g := lw_gm (List.mem_append_right _ (List.mem_of_getElem? (i := 784) (by decide +kernel))) rfl
theorem k_785 : (Jvm.Cond.selects "PipelineBelt$Store" ({ cls := "PipelineBelt$Store", name := "compare", desc := "(III)I" } : Jvm.MethodName) ({ cls := "PipelineBelt$Store", name := "compare", desc := "(III)I" } : Jvm.MethodName)) ∈ lw_g := lw_gm (List.mem_append_right _ (List.mem_of_getElem? (i := 785) (by decide +kernel))) rfl
theorem k_787 : (Jvm.Cond.methodLink "PipelineBelt$Store" (69 : Nat) ({ cls := "java/lang/Long", name := "compare", desc := "(JJ)I" } : Jvm.MethodName)) ∈ lw_g := lw_gm (List.mem_append_right _ (List.mem_of_getElem? (i := 787) (by decide +kernel))) rfl
theorem k_788 : (Jvm.Cond.static ({ cls := "java/lang/Long", name := "compare", desc := "(JJ)I" } : Jvm.MethodName)) ∈ lw_g := lw_gm (List.mem_append_right _ (List.mem_of_getElem? (i := 788) (by decide +kernel))) rfl
theorem k_790 : (Jvm.Cond.methodLink "PipelineBelt$Store" (74 : Nat) ({ cls := "PipelineBelt$Store", name := "compareParts", desc := "(III)I" } : Jvm.MethodName)) ∈ lw_g := lw_gm (List.mem_append_right _ (List.mem_of_getElem? (i := 790) (by decide +kernel))) rfl
theorem k_792 : (Jvm.Cond.instanceMethod ({ cls := "PipelineBelt$Store", name := "compareParts", desc := "(III)I" } : Jvm.MethodName)) ∈ lw_g := lw_gm (List.mem_append_right _ (List.mem_of_getElem? (i := 792) (by decide +kernel))) rfl
theorem k_794 : (Jvm.Cond.methodLink "PipelineBelt$Store" (78 : Nat) ({ cls := "PipelineBelt$Store", name := "compare", desc := "(III)I" } : Jvm.MethodName)) ∈ lw_g := lw_gm (List.mem_append_right _ (List.mem_of_getElem? (i := 794) (by decide +kernel))) rfl
abbrev b_ST_compareParts : ByteArray := prog_10_method_20_code
def y_ST_compareParts : MethodName := ⟨R_ST, "compareParts", "(III)I"⟩
theorem kc_ST_compareParts : Cond.code y_ST_compareParts b_ST_compareParts 13 (some .int) ∈ lw_g := lw_gm (List.mem_append_right _ (List.mem_of_getElem? (i := 793) (by decide +kernel))) rfl
abbrev mw_ST_compareParts : List Cond := Cond.code y_ST_compareParts b_ST_compareParts 13 (some .int) :: lw_g
theorem hd_ST_compareParts : y_ST_compareParts.cls = R_ST ∧ y_ST_compareParts.cls ≠ "java/lang/invoke/MethodHandle" ∧ y_ST_compareParts.cls ≠ "java/lang/invoke/VarHandle" ∧ (parseMethodDescriptor y_ST_compareParts.desc).map (fun d => d.parameters.length) = some 3 := by decide +kernel
theorem kp_ST_compareParts : Cond.selects R_ST y_ST_compareParts y_ST_compareParts ∈ lw_g := lw_gm (List.mem_append_left _ (by decide +kernel)) rfl
theorem d_ST_compareParts_0 : decode b_ST_compareParts 0 = .ok (.iload_n 1, 1) := by decide +kernel
theorem d_ST_compareParts_1 : decode b_ST_compareParts 1 = .ok (.invokestatic 23, 3) := by decide +kernel
theorem d_ST_compareParts_4 : decode b_ST_compareParts 4 = .ok (.iconst 3, 1) := by decide +kernel
theorem d_ST_compareParts_5 : decode b_ST_compareParts 5 = .ok (.if_icmp .ne 7, 3) := by decide +kernel
theorem d_ST_compareParts_8 : decode b_ST_compareParts 8 = .ok (.iconst 1, 1) := by decide +kernel
theorem d_ST_compareParts_9 : decode b_ST_compareParts 9 = .ok (.goto 4, 3) := by decide +kernel
theorem d_ST_compareParts_12 : decode b_ST_compareParts 12 = .ok (.iconst 0, 1) := by decide +kernel
theorem d_ST_compareParts_13 : decode b_ST_compareParts 13 = .ok (.istore 4, 2) := by decide +kernel
theorem d_ST_compareParts_15 : decode b_ST_compareParts 15 = .ok (.aload_n 0, 1) := by decide +kernel
theorem d_ST_compareParts_16 : decode b_ST_compareParts 16 = .ok (.iload_n 1, 1) := by decide +kernel
theorem d_ST_compareParts_17 : decode b_ST_compareParts 17 = .ok (.invokevirtual 28, 3) := by decide +kernel
theorem d_ST_compareParts_20 : decode b_ST_compareParts 20 = .ok (.iconst 1, 1) := by decide +kernel
theorem d_ST_compareParts_21 : decode b_ST_compareParts 21 = .ok (.isub, 1) := by decide +kernel
theorem d_ST_compareParts_22 : decode b_ST_compareParts 22 = .ok (.istore 5, 2) := by decide +kernel
theorem d_ST_compareParts_24 : decode b_ST_compareParts 24 = .ok (.aload_n 0, 1) := by decide +kernel
theorem d_ST_compareParts_25 : decode b_ST_compareParts 25 = .ok (.iload_n 2, 1) := by decide +kernel
theorem d_ST_compareParts_26 : decode b_ST_compareParts 26 = .ok (.invokevirtual 28, 3) := by decide +kernel
theorem d_ST_compareParts_29 : decode b_ST_compareParts 29 = .ok (.iconst 1, 1) := by decide +kernel
theorem d_ST_compareParts_30 : decode b_ST_compareParts 30 = .ok (.isub, 1) := by decide +kernel
theorem d_ST_compareParts_31 : decode b_ST_compareParts 31 = .ok (.istore 6, 2) := by decide +kernel
theorem d_ST_compareParts_33 : decode b_ST_compareParts 33 = .ok (.iload_n 1, 1) := by decide +kernel
theorem d_ST_compareParts_34 : decode b_ST_compareParts 34 = .ok (.invokestatic 16, 3) := by decide +kernel
theorem d_ST_compareParts_37 : decode b_ST_compareParts 37 = .ok (.iconst 4, 1) := by decide +kernel
theorem d_ST_compareParts_38 : decode b_ST_compareParts 38 = .ok (.iadd, 1) := by decide +kernel
theorem d_ST_compareParts_39 : decode b_ST_compareParts 39 = .ok (.istore 7, 2) := by decide +kernel
theorem d_ST_compareParts_41 : decode b_ST_compareParts 41 = .ok (.iload_n 2, 1) := by decide +kernel
theorem d_ST_compareParts_42 : decode b_ST_compareParts 42 = .ok (.invokestatic 16, 3) := by decide +kernel
theorem d_ST_compareParts_45 : decode b_ST_compareParts 45 = .ok (.iconst 4, 1) := by decide +kernel
theorem d_ST_compareParts_46 : decode b_ST_compareParts 46 = .ok (.iadd, 1) := by decide +kernel
theorem d_ST_compareParts_47 : decode b_ST_compareParts 47 = .ok (.istore 8, 2) := by decide +kernel
theorem d_ST_compareParts_49 : decode b_ST_compareParts 49 = .ok (.iconst 0, 1) := by decide +kernel
theorem d_ST_compareParts_50 : decode b_ST_compareParts 50 = .ok (.istore 9, 2) := by decide +kernel
theorem d_ST_compareParts_52 : decode b_ST_compareParts 52 = .ok (.iload 9, 2) := by decide +kernel
theorem d_ST_compareParts_54 : decode b_ST_compareParts 54 = .ok (.sipush 1000, 3) := by decide +kernel
theorem d_ST_compareParts_57 : decode b_ST_compareParts 57 = .ok (.if_icmp .ge 134, 3) := by decide +kernel
theorem d_ST_compareParts_60 : decode b_ST_compareParts 60 = .ok (.iload 7, 2) := by decide +kernel
theorem d_ST_compareParts_62 : decode b_ST_compareParts 62 = .ok (.iload 5, 2) := by decide +kernel
theorem d_ST_compareParts_64 : decode b_ST_compareParts 64 = .ok (.if_icmp .ge 127, 3) := by decide +kernel
theorem d_ST_compareParts_67 : decode b_ST_compareParts 67 = .ok (.iload 8, 2) := by decide +kernel
theorem d_ST_compareParts_69 : decode b_ST_compareParts 69 = .ok (.iload 6, 2) := by decide +kernel
theorem d_ST_compareParts_71 : decode b_ST_compareParts 71 = .ok (.if_icmp .ge 120, 3) := by decide +kernel
theorem d_ST_compareParts_74 : decode b_ST_compareParts 74 = .ok (.aload_n 0, 1) := by decide +kernel
theorem d_ST_compareParts_75 : decode b_ST_compareParts 75 = .ok (.iload 7, 2) := by decide +kernel
theorem d_ST_compareParts_77 : decode b_ST_compareParts 77 = .ok (.invokevirtual 31, 3) := by decide +kernel
theorem d_ST_compareParts_80 : decode b_ST_compareParts 80 = .ok (.istore 10, 2) := by decide +kernel
theorem d_ST_compareParts_82 : decode b_ST_compareParts 82 = .ok (.aload_n 0, 1) := by decide +kernel
theorem d_ST_compareParts_83 : decode b_ST_compareParts 83 = .ok (.iload 8, 2) := by decide +kernel
theorem d_ST_compareParts_85 : decode b_ST_compareParts 85 = .ok (.invokevirtual 31, 3) := by decide +kernel
theorem d_ST_compareParts_88 : decode b_ST_compareParts 88 = .ok (.istore 11, 2) := by decide +kernel
theorem d_ST_compareParts_90 : decode b_ST_compareParts 90 = .ok (.iload 10, 2) := by decide +kernel
theorem d_ST_compareParts_92 : decode b_ST_compareParts 92 = .ok (.invokestatic 62, 3) := by decide +kernel
theorem d_ST_compareParts_95 : decode b_ST_compareParts 95 = .ok (.iload 11, 2) := by decide +kernel
theorem d_ST_compareParts_97 : decode b_ST_compareParts 97 = .ok (.invokestatic 62, 3) := by decide +kernel
theorem d_ST_compareParts_100 : decode b_ST_compareParts 100 = .ok (.invokestatic 57, 3) := by decide +kernel
theorem d_ST_compareParts_103 : decode b_ST_compareParts 103 = .ok (.istore 12, 2) := by decide +kernel
theorem d_ST_compareParts_105 : decode b_ST_compareParts 105 = .ok (.iload 12, 2) := by decide +kernel
theorem d_ST_compareParts_107 : decode b_ST_compareParts 107 = .ok (.ifCond .ne 36, 3) := by decide +kernel
theorem d_ST_compareParts_110 : decode b_ST_compareParts 110 = .ok (.iload 4, 2) := by decide +kernel
theorem d_ST_compareParts_112 : decode b_ST_compareParts 112 = .ok (.ifCond .eq 31, 3) := by decide +kernel
theorem d_ST_compareParts_115 : decode b_ST_compareParts 115 = .ok (.aload_n 0, 1) := by decide +kernel
theorem d_ST_compareParts_116 : decode b_ST_compareParts 116 = .ok (.iload 7, 2) := by decide +kernel
theorem d_ST_compareParts_118 : decode b_ST_compareParts 118 = .ok (.iconst 1, 1) := by decide +kernel
theorem d_ST_compareParts_119 : decode b_ST_compareParts 119 = .ok (.iadd, 1) := by decide +kernel
theorem d_ST_compareParts_120 : decode b_ST_compareParts 120 = .ok (.iload 10, 2) := by decide +kernel
theorem d_ST_compareParts_122 : decode b_ST_compareParts 122 = .ok (.invokestatic 16, 3) := by decide +kernel
theorem d_ST_compareParts_125 : decode b_ST_compareParts 125 = .ok (.iconst 1, 1) := by decide +kernel
theorem d_ST_compareParts_126 : decode b_ST_compareParts 126 = .ok (.isub, 1) := by decide +kernel
theorem d_ST_compareParts_127 : decode b_ST_compareParts 127 = .ok (.iload 8, 2) := by decide +kernel
theorem d_ST_compareParts_129 : decode b_ST_compareParts 129 = .ok (.iconst 1, 1) := by decide +kernel
theorem d_ST_compareParts_130 : decode b_ST_compareParts 130 = .ok (.iadd, 1) := by decide +kernel
theorem d_ST_compareParts_131 : decode b_ST_compareParts 131 = .ok (.iload 11, 2) := by decide +kernel
theorem d_ST_compareParts_133 : decode b_ST_compareParts 133 = .ok (.invokestatic 16, 3) := by decide +kernel
theorem d_ST_compareParts_136 : decode b_ST_compareParts 136 = .ok (.iconst 1, 1) := by decide +kernel
theorem d_ST_compareParts_137 : decode b_ST_compareParts 137 = .ok (.isub, 1) := by decide +kernel
theorem d_ST_compareParts_138 : decode b_ST_compareParts 138 = .ok (.invokevirtual 34, 3) := by decide +kernel
theorem d_ST_compareParts_141 : decode b_ST_compareParts 141 = .ok (.istore 12, 2) := by decide +kernel
theorem d_ST_compareParts_143 : decode b_ST_compareParts 143 = .ok (.iload 12, 2) := by decide +kernel
theorem d_ST_compareParts_145 : decode b_ST_compareParts 145 = .ok (.ifCond .ne 16, 3) := by decide +kernel
theorem d_ST_compareParts_148 : decode b_ST_compareParts 148 = .ok (.aload_n 0, 1) := by decide +kernel
theorem d_ST_compareParts_149 : decode b_ST_compareParts 149 = .ok (.iload 10, 2) := by decide +kernel
theorem d_ST_compareParts_151 : decode b_ST_compareParts 151 = .ok (.iload 11, 2) := by decide +kernel
theorem d_ST_compareParts_153 : decode b_ST_compareParts 153 = .ok (.iload_n 3, 1) := by decide +kernel
theorem d_ST_compareParts_154 : decode b_ST_compareParts 154 = .ok (.iconst 1, 1) := by decide +kernel
theorem d_ST_compareParts_155 : decode b_ST_compareParts 155 = .ok (.iadd, 1) := by decide +kernel
theorem d_ST_compareParts_156 : decode b_ST_compareParts 156 = .ok (.invokevirtual 78, 3) := by decide +kernel
theorem d_ST_compareParts_159 : decode b_ST_compareParts 159 = .ok (.istore 12, 2) := by decide +kernel
theorem d_ST_compareParts_161 : decode b_ST_compareParts 161 = .ok (.iload 12, 2) := by decide +kernel
theorem d_ST_compareParts_163 : decode b_ST_compareParts 163 = .ok (.ifCond .eq 6, 3) := by decide +kernel
theorem d_ST_compareParts_166 : decode b_ST_compareParts 166 = .ok (.iload 12, 2) := by decide +kernel
theorem d_ST_compareParts_168 : decode b_ST_compareParts 168 = .ok (.ireturn, 1) := by decide +kernel
theorem d_ST_compareParts_169 : decode b_ST_compareParts 169 = .ok (.aload_n 0, 1) := by decide +kernel
theorem d_ST_compareParts_170 : decode b_ST_compareParts 170 = .ok (.iload 10, 2) := by decide +kernel
theorem d_ST_compareParts_172 : decode b_ST_compareParts 172 = .ok (.invokevirtual 28, 3) := by decide +kernel
theorem d_ST_compareParts_175 : decode b_ST_compareParts 175 = .ok (.istore 7, 2) := by decide +kernel
theorem d_ST_compareParts_177 : decode b_ST_compareParts 177 = .ok (.aload_n 0, 1) := by decide +kernel
theorem d_ST_compareParts_178 : decode b_ST_compareParts 178 = .ok (.iload 11, 2) := by decide +kernel
theorem d_ST_compareParts_180 : decode b_ST_compareParts 180 = .ok (.invokevirtual 28, 3) := by decide +kernel
theorem d_ST_compareParts_183 : decode b_ST_compareParts 183 = .ok (.istore 8, 2) := by decide +kernel
theorem d_ST_compareParts_185 : decode b_ST_compareParts 185 = .ok (.iinc 9 1, 3) := by decide +kernel
theorem d_ST_compareParts_188 : decode b_ST_compareParts 188 = .ok (.goto (-136), 3) := by decide +kernel
theorem d_ST_compareParts_191 : decode b_ST_compareParts 191 = .ok (.iload 7, 2) := by decide +kernel
theorem d_ST_compareParts_193 : decode b_ST_compareParts 193 = .ok (.iload 5, 2) := by decide +kernel
theorem d_ST_compareParts_195 : decode b_ST_compareParts 195 = .ok (.if_icmp .ge 7, 3) := by decide +kernel
theorem d_ST_compareParts_198 : decode b_ST_compareParts 198 = .ok (.iconst 1, 1) := by decide +kernel
theorem d_ST_compareParts_199 : decode b_ST_compareParts 199 = .ok (.goto 4, 3) := by decide +kernel
theorem d_ST_compareParts_202 : decode b_ST_compareParts 202 = .ok (.iconst 0, 1) := by decide +kernel
theorem d_ST_compareParts_203 : decode b_ST_compareParts 203 = .ok (.iload 8, 2) := by decide +kernel
theorem d_ST_compareParts_205 : decode b_ST_compareParts 205 = .ok (.iload 6, 2) := by decide +kernel
theorem d_ST_compareParts_207 : decode b_ST_compareParts 207 = .ok (.if_icmp .ge 7, 3) := by decide +kernel
theorem d_ST_compareParts_210 : decode b_ST_compareParts 210 = .ok (.iconst 1, 1) := by decide +kernel
theorem d_ST_compareParts_211 : decode b_ST_compareParts 211 = .ok (.goto 4, 3) := by decide +kernel
theorem d_ST_compareParts_214 : decode b_ST_compareParts 214 = .ok (.iconst 0, 1) := by decide +kernel
theorem d_ST_compareParts_215 : decode b_ST_compareParts 215 = .ok (.invokestatic 57, 3) := by decide +kernel
theorem d_ST_compareParts_218 : decode b_ST_compareParts 218 = .ok (.ireturn, 1) := by decide +kernel
abbrev b_ST_compare : ByteArray := prog_10_method_19_code
def y_ST_compare : MethodName := ⟨R_ST, "compare", "(III)I"⟩
theorem kc_ST_compare : Cond.code y_ST_compare b_ST_compare 5 (some .int) ∈ lw_g := lw_gm (List.mem_append_right _ (List.mem_of_getElem? (i := 786) (by decide +kernel))) rfl
abbrev mw_ST_compare : List Cond := Cond.code y_ST_compare b_ST_compare 5 (some .int) :: lw_g
theorem hd_ST_compare : y_ST_compare.cls = R_ST ∧ y_ST_compare.cls ≠ "java/lang/invoke/MethodHandle" ∧ y_ST_compare.cls ≠ "java/lang/invoke/VarHandle" ∧ (parseMethodDescriptor y_ST_compare.desc).map (fun d => d.parameters.length) = some 3 := by decide +kernel
theorem d_ST_compare_0 : decode b_ST_compare 0 = .ok (.iload_n 1, 1) := by decide +kernel
theorem d_ST_compare_1 : decode b_ST_compare 1 = .ok (.invokestatic 62, 3) := by decide +kernel
theorem d_ST_compare_4 : decode b_ST_compare 4 = .ok (.iload_n 2, 1) := by decide +kernel
theorem d_ST_compare_5 : decode b_ST_compare 5 = .ok (.invokestatic 62, 3) := by decide +kernel
theorem d_ST_compare_8 : decode b_ST_compare 8 = .ok (.invokestatic 57, 3) := by decide +kernel
theorem d_ST_compare_11 : decode b_ST_compare 11 = .ok (.istore 4, 2) := by decide +kernel
theorem d_ST_compare_13 : decode b_ST_compare 13 = .ok (.iload 4, 2) := by decide +kernel
theorem d_ST_compare_15 : decode b_ST_compare 15 = .ok (.ifCond .ne 9, 3) := by decide +kernel
theorem d_ST_compare_18 : decode b_ST_compare 18 = .ok (.iload_n 3, 1) := by decide +kernel
theorem d_ST_compare_19 : decode b_ST_compare 19 = .ok (.bipush 40, 2) := by decide +kernel
theorem d_ST_compare_21 : decode b_ST_compare 21 = .ok (.if_icmp .le 6, 3) := by decide +kernel
theorem d_ST_compare_24 : decode b_ST_compare 24 = .ok (.iload 4, 2) := by decide +kernel
theorem d_ST_compare_26 : decode b_ST_compare 26 = .ok (.ireturn, 1) := by decide +kernel
theorem d_ST_compare_27 : decode b_ST_compare 27 = .ok (.iload_n 1, 1) := by decide +kernel
theorem d_ST_compare_28 : decode b_ST_compare 28 = .ok (.invokestatic 23, 3) := by decide +kernel
theorem d_ST_compare_31 : decode b_ST_compare 31 = .ok (.tableswitch 176 2 18 #[129, 160, 168, 176, 176, 176, 109, 176, 176, 176, 176, 176, 176, 176, 81, 176, 95], 81) := by decide +kernel
theorem d_ST_compare_112 : decode b_ST_compare 112 = .ok (.aload_n 0, 1) := by decide +kernel
theorem d_ST_compare_113 : decode b_ST_compare 113 = .ok (.iload_n 1, 1) := by decide +kernel
theorem d_ST_compare_114 : decode b_ST_compare 114 = .ok (.invokevirtual 65, 3) := by decide +kernel
theorem d_ST_compare_117 : decode b_ST_compare 117 = .ok (.aload_n 0, 1) := by decide +kernel
theorem d_ST_compare_118 : decode b_ST_compare 118 = .ok (.iload_n 2, 1) := by decide +kernel
theorem d_ST_compare_119 : decode b_ST_compare 119 = .ok (.invokevirtual 65, 3) := by decide +kernel
theorem d_ST_compare_122 : decode b_ST_compare 122 = .ok (.invokestatic 69, 3) := by decide +kernel
theorem d_ST_compare_125 : decode b_ST_compare 125 = .ok (.ireturn, 1) := by decide +kernel
theorem d_ST_compare_126 : decode b_ST_compare 126 = .ok (.aload_n 0, 1) := by decide +kernel
theorem d_ST_compare_127 : decode b_ST_compare 127 = .ok (.iload_n 1, 1) := by decide +kernel
theorem d_ST_compare_128 : decode b_ST_compare 128 = .ok (.invokevirtual 65, 3) := by decide +kernel
theorem d_ST_compare_131 : decode b_ST_compare 131 = .ok (.aload_n 0, 1) := by decide +kernel
theorem d_ST_compare_132 : decode b_ST_compare 132 = .ok (.iload_n 2, 1) := by decide +kernel
theorem d_ST_compare_133 : decode b_ST_compare 133 = .ok (.invokevirtual 65, 3) := by decide +kernel
theorem d_ST_compare_136 : decode b_ST_compare 136 = .ok (.invokestatic 69, 3) := by decide +kernel
theorem d_ST_compare_139 : decode b_ST_compare 139 = .ok (.ireturn, 1) := by decide +kernel
theorem d_ST_compare_140 : decode b_ST_compare 140 = .ok (.aload_n 0, 1) := by decide +kernel
theorem d_ST_compare_141 : decode b_ST_compare 141 = .ok (.iload_n 1, 1) := by decide +kernel
theorem d_ST_compare_142 : decode b_ST_compare 142 = .ok (.invokestatic 16, 3) := by decide +kernel
theorem d_ST_compare_145 : decode b_ST_compare 145 = .ok (.invokevirtual 44, 3) := by decide +kernel
theorem d_ST_compare_148 : decode b_ST_compare 148 = .ok (.aload_n 0, 1) := by decide +kernel
theorem d_ST_compare_149 : decode b_ST_compare 149 = .ok (.iload_n 2, 1) := by decide +kernel
theorem d_ST_compare_150 : decode b_ST_compare 150 = .ok (.invokestatic 16, 3) := by decide +kernel
theorem d_ST_compare_153 : decode b_ST_compare 153 = .ok (.invokevirtual 44, 3) := by decide +kernel
theorem d_ST_compare_156 : decode b_ST_compare 156 = .ok (.invokestatic 57, 3) := by decide +kernel
theorem d_ST_compare_159 : decode b_ST_compare 159 = .ok (.ireturn, 1) := by decide +kernel
theorem d_ST_compare_160 : decode b_ST_compare 160 = .ok (.aload_n 0, 1) := by decide +kernel
theorem d_ST_compare_161 : decode b_ST_compare 161 = .ok (.iload_n 1, 1) := by decide +kernel
theorem d_ST_compare_162 : decode b_ST_compare 162 = .ok (.invokestatic 16, 3) := by decide +kernel
theorem d_ST_compare_165 : decode b_ST_compare 165 = .ok (.iconst 4, 1) := by decide +kernel
theorem d_ST_compare_166 : decode b_ST_compare 166 = .ok (.iadd, 1) := by decide +kernel
theorem d_ST_compare_167 : decode b_ST_compare 167 = .ok (.aload_n 0, 1) := by decide +kernel
theorem d_ST_compare_168 : decode b_ST_compare 168 = .ok (.iload_n 1, 1) := by decide +kernel
theorem d_ST_compare_169 : decode b_ST_compare 169 = .ok (.invokevirtual 28, 3) := by decide +kernel
theorem d_ST_compare_172 : decode b_ST_compare 172 = .ok (.iconst 1, 1) := by decide +kernel
theorem d_ST_compare_173 : decode b_ST_compare 173 = .ok (.isub, 1) := by decide +kernel
theorem d_ST_compare_174 : decode b_ST_compare 174 = .ok (.iload_n 2, 1) := by decide +kernel
theorem d_ST_compare_175 : decode b_ST_compare 175 = .ok (.invokestatic 16, 3) := by decide +kernel
theorem d_ST_compare_178 : decode b_ST_compare 178 = .ok (.iconst 4, 1) := by decide +kernel
theorem d_ST_compare_179 : decode b_ST_compare 179 = .ok (.iadd, 1) := by decide +kernel
theorem d_ST_compare_180 : decode b_ST_compare 180 = .ok (.aload_n 0, 1) := by decide +kernel
theorem d_ST_compare_181 : decode b_ST_compare 181 = .ok (.iload_n 2, 1) := by decide +kernel
theorem d_ST_compare_182 : decode b_ST_compare 182 = .ok (.invokevirtual 28, 3) := by decide +kernel
theorem d_ST_compare_185 : decode b_ST_compare 185 = .ok (.iconst 1, 1) := by decide +kernel
theorem d_ST_compare_186 : decode b_ST_compare 186 = .ok (.isub, 1) := by decide +kernel
theorem d_ST_compare_187 : decode b_ST_compare 187 = .ok (.invokevirtual 34, 3) := by decide +kernel
theorem d_ST_compare_190 : decode b_ST_compare 190 = .ok (.ireturn, 1) := by decide +kernel
theorem d_ST_compare_191 : decode b_ST_compare 191 = .ok (.aload_n 0, 1) := by decide +kernel
theorem d_ST_compare_192 : decode b_ST_compare 192 = .ok (.iload_n 1, 1) := by decide +kernel
theorem d_ST_compare_193 : decode b_ST_compare 193 = .ok (.iload_n 2, 1) := by decide +kernel
theorem d_ST_compare_194 : decode b_ST_compare 194 = .ok (.iload_n 3, 1) := by decide +kernel
theorem d_ST_compare_195 : decode b_ST_compare 195 = .ok (.invokevirtual 74, 3) := by decide +kernel
theorem d_ST_compare_198 : decode b_ST_compare 198 = .ok (.ireturn, 1) := by decide +kernel
theorem d_ST_compare_199 : decode b_ST_compare 199 = .ok (.aload_n 0, 1) := by decide +kernel
theorem d_ST_compare_200 : decode b_ST_compare 200 = .ok (.iload_n 1, 1) := by decide +kernel
theorem d_ST_compare_201 : decode b_ST_compare 201 = .ok (.iload_n 2, 1) := by decide +kernel
theorem d_ST_compare_202 : decode b_ST_compare 202 = .ok (.iload_n 3, 1) := by decide +kernel
theorem d_ST_compare_203 : decode b_ST_compare 203 = .ok (.invokevirtual 74, 3) := by decide +kernel
theorem d_ST_compare_206 : decode b_ST_compare 206 = .ok (.ireturn, 1) := by decide +kernel
theorem d_ST_compare_207 : decode b_ST_compare 207 = .ok (.iconst 0, 1) := by decide +kernel
theorem d_ST_compare_208 : decode b_ST_compare 208 = .ok (.ireturn, 1) := by decide +kernel
abbrev b_ST_hashBytes : ByteArray := prog_10_method_23_code
def y_ST_hashBytes : MethodName := ⟨R_ST, "hashBytes", "(II)I"⟩
theorem kc_ST_hashBytes : Cond.code y_ST_hashBytes b_ST_hashBytes 5 (some .int) ∈ lw_g := lw_gm (List.mem_append_right _ (List.mem_of_getElem? (i := 773) (by decide +kernel))) rfl
abbrev mw_ST_hashBytes : List Cond := Cond.code y_ST_hashBytes b_ST_hashBytes 5 (some .int) :: lw_g
theorem hd_ST_hashBytes : y_ST_hashBytes.cls = R_ST ∧ y_ST_hashBytes.cls ≠ "java/lang/invoke/MethodHandle" ∧ y_ST_hashBytes.cls ≠ "java/lang/invoke/VarHandle" ∧ (parseMethodDescriptor y_ST_hashBytes.desc).map (fun d => d.parameters.length) = some 2 := by decide +kernel
theorem kp_ST_hashBytes : Cond.selects R_ST y_ST_hashBytes y_ST_hashBytes ∈ lw_g := lw_gm (List.mem_append_left _ (by decide +kernel)) rfl
theorem d_ST_hashBytes_0 : decode b_ST_hashBytes 0 = .ok (.iconst 3, 1) := by decide +kernel
theorem d_ST_hashBytes_1 : decode b_ST_hashBytes 1 = .ok (.istore_n 3, 1) := by decide +kernel
theorem d_ST_hashBytes_2 : decode b_ST_hashBytes 2 = .ok (.iload_n 1, 1) := by decide +kernel
theorem d_ST_hashBytes_3 : decode b_ST_hashBytes 3 = .ok (.iconst 0, 1) := by decide +kernel
theorem d_ST_hashBytes_4 : decode b_ST_hashBytes 4 = .ok (.invokestatic 93, 3) := by decide +kernel
theorem d_ST_hashBytes_7 : decode b_ST_hashBytes 7 = .ok (.istore 4, 2) := by decide +kernel
theorem d_ST_hashBytes_9 : decode b_ST_hashBytes 9 = .ok (.iload 4, 2) := by decide +kernel
theorem d_ST_hashBytes_11 : decode b_ST_hashBytes 11 = .ok (.iload_n 2, 1) := by decide +kernel
theorem d_ST_hashBytes_12 : decode b_ST_hashBytes 12 = .ok (.if_icmp .ge 32, 3) := by decide +kernel
theorem d_ST_hashBytes_15 : decode b_ST_hashBytes 15 = .ok (.iload 4, 2) := by decide +kernel
theorem d_ST_hashBytes_17 : decode b_ST_hashBytes 17 = .ok (.aload_n 0, 1) := by decide +kernel
theorem d_ST_hashBytes_18 : decode b_ST_hashBytes 18 = .ok (.getfield 10, 3) := by decide +kernel
theorem d_ST_hashBytes_21 : decode b_ST_hashBytes 21 = .ok (.arraylength, 1) := by decide +kernel
theorem d_ST_hashBytes_22 : decode b_ST_hashBytes 22 = .ok (.if_icmp .ge 22, 3) := by decide +kernel
theorem d_ST_hashBytes_25 : decode b_ST_hashBytes 25 = .ok (.iload_n 3, 1) := by decide +kernel
theorem d_ST_hashBytes_26 : decode b_ST_hashBytes 26 = .ok (.bipush 31, 2) := by decide +kernel
theorem d_ST_hashBytes_28 : decode b_ST_hashBytes 28 = .ok (.imul, 1) := by decide +kernel
theorem d_ST_hashBytes_29 : decode b_ST_hashBytes 29 = .ok (.aload_n 0, 1) := by decide +kernel
theorem d_ST_hashBytes_30 : decode b_ST_hashBytes 30 = .ok (.getfield 10, 3) := by decide +kernel
theorem d_ST_hashBytes_33 : decode b_ST_hashBytes 33 = .ok (.iload 4, 2) := by decide +kernel
theorem d_ST_hashBytes_35 : decode b_ST_hashBytes 35 = .ok (.baload, 1) := by decide +kernel
theorem d_ST_hashBytes_36 : decode b_ST_hashBytes 36 = .ok (.iadd, 1) := by decide +kernel
theorem d_ST_hashBytes_37 : decode b_ST_hashBytes 37 = .ok (.istore_n 3, 1) := by decide +kernel
theorem d_ST_hashBytes_38 : decode b_ST_hashBytes 38 = .ok (.iinc 4 1, 3) := by decide +kernel
theorem d_ST_hashBytes_41 : decode b_ST_hashBytes 41 = .ok (.goto (-32), 3) := by decide +kernel
theorem d_ST_hashBytes_44 : decode b_ST_hashBytes 44 = .ok (.iload_n 3, 1) := by decide +kernel
theorem d_ST_hashBytes_45 : decode b_ST_hashBytes 45 = .ok (.ireturn, 1) := by decide +kernel
abbrev b_ST_hashNumber : ByteArray := prog_10_method_24_code
def y_ST_hashNumber : MethodName := ⟨R_ST, "hashNumber", "(J)I"⟩
theorem kc_ST_hashNumber : Cond.code y_ST_hashNumber b_ST_hashNumber 3 (some .int) ∈ lw_g := lw_gm (List.mem_append_right _ (List.mem_of_getElem? (i := 768) (by decide +kernel))) rfl
abbrev mw_ST_hashNumber : List Cond := Cond.code y_ST_hashNumber b_ST_hashNumber 3 (some .int) :: lw_g
theorem hd_ST_hashNumber : y_ST_hashNumber.cls ≠ "java/lang/invoke/MethodHandle" ∧ y_ST_hashNumber.cls ≠ "java/lang/invoke/VarHandle" ∧ (parseMethodDescriptor y_ST_hashNumber.desc).map (fun d => d.parameters.length) = some 1 := by decide +kernel
theorem d_ST_hashNumber_0 : decode b_ST_hashNumber 0 = .ok (.lload_n 0, 1) := by decide +kernel
theorem d_ST_hashNumber_1 : decode b_ST_hashNumber 1 = .ok (.lload_n 0, 1) := by decide +kernel
theorem d_ST_hashNumber_2 : decode b_ST_hashNumber 2 = .ok (.bipush 32, 2) := by decide +kernel
theorem d_ST_hashNumber_4 : decode b_ST_hashNumber 4 = .ok (.lushr, 1) := by decide +kernel
theorem d_ST_hashNumber_5 : decode b_ST_hashNumber 5 = .ok (.lxor, 1) := by decide +kernel
theorem d_ST_hashNumber_6 : decode b_ST_hashNumber 6 = .ok (.l2i, 1) := by decide +kernel
theorem d_ST_hashNumber_7 : decode b_ST_hashNumber 7 = .ok (.ldc 96, 2) := by decide +kernel
theorem d_ST_hashNumber_9 : decode b_ST_hashNumber 9 = .ok (.imul, 1) := by decide +kernel
theorem d_ST_hashNumber_10 : decode b_ST_hashNumber 10 = .ok (.istore_n 2, 1) := by decide +kernel
theorem d_ST_hashNumber_11 : decode b_ST_hashNumber 11 = .ok (.iload_n 2, 1) := by decide +kernel
theorem d_ST_hashNumber_12 : decode b_ST_hashNumber 12 = .ok (.iload_n 2, 1) := by decide +kernel
theorem d_ST_hashNumber_13 : decode b_ST_hashNumber 13 = .ok (.bipush 15, 2) := by decide +kernel
theorem d_ST_hashNumber_15 : decode b_ST_hashNumber 15 = .ok (.iushr, 1) := by decide +kernel
theorem d_ST_hashNumber_16 : decode b_ST_hashNumber 16 = .ok (.ixor, 1) := by decide +kernel
theorem d_ST_hashNumber_17 : decode b_ST_hashNumber 17 = .ok (.ireturn, 1) := by decide +kernel
abbrev b_ST_hashParts : ByteArray := prog_10_method_22_code
def y_ST_hashParts : MethodName := ⟨R_ST, "hashParts", "(II)I"⟩
theorem kc_ST_hashParts : Cond.code y_ST_hashParts b_ST_hashParts 8 (some .int) ∈ lw_g := lw_gm (List.mem_append_right _ (List.mem_of_getElem? (i := 778) (by decide +kernel))) rfl
abbrev mw_ST_hashParts : List Cond := Cond.code y_ST_hashParts b_ST_hashParts 8 (some .int) :: lw_g
theorem hd_ST_hashParts : y_ST_hashParts.cls = R_ST ∧ y_ST_hashParts.cls ≠ "java/lang/invoke/MethodHandle" ∧ y_ST_hashParts.cls ≠ "java/lang/invoke/VarHandle" ∧ (parseMethodDescriptor y_ST_hashParts.desc).map (fun d => d.parameters.length) = some 2 := by decide +kernel
theorem kp_ST_hashParts : Cond.selects R_ST y_ST_hashParts y_ST_hashParts ∈ lw_g := lw_gm (List.mem_append_left _ (by decide +kernel)) rfl
theorem d_ST_hashParts_0 : decode b_ST_hashParts 0 = .ok (.aload_n 0, 1) := by decide +kernel
theorem d_ST_hashParts_1 : decode b_ST_hashParts 1 = .ok (.iload_n 1, 1) := by decide +kernel
theorem d_ST_hashParts_2 : decode b_ST_hashParts 2 = .ok (.invokevirtual 28, 3) := by decide +kernel
theorem d_ST_hashParts_5 : decode b_ST_hashParts 5 = .ok (.iconst 1, 1) := by decide +kernel
theorem d_ST_hashParts_6 : decode b_ST_hashParts 6 = .ok (.isub, 1) := by decide +kernel
theorem d_ST_hashParts_7 : decode b_ST_hashParts 7 = .ok (.istore_n 3, 1) := by decide +kernel
theorem d_ST_hashParts_8 : decode b_ST_hashParts 8 = .ok (.iload_n 1, 1) := by decide +kernel
theorem d_ST_hashParts_9 : decode b_ST_hashParts 9 = .ok (.invokestatic 16, 3) := by decide +kernel
theorem d_ST_hashParts_12 : decode b_ST_hashParts 12 = .ok (.iconst 4, 1) := by decide +kernel
theorem d_ST_hashParts_13 : decode b_ST_hashParts 13 = .ok (.iadd, 1) := by decide +kernel
theorem d_ST_hashParts_14 : decode b_ST_hashParts 14 = .ok (.istore 4, 2) := by decide +kernel
theorem d_ST_hashParts_16 : decode b_ST_hashParts 16 = .ok (.iload_n 1, 1) := by decide +kernel
theorem d_ST_hashParts_17 : decode b_ST_hashParts 17 = .ok (.invokestatic 62, 3) := by decide +kernel
theorem d_ST_hashParts_20 : decode b_ST_hashParts 20 = .ok (.istore 5, 2) := by decide +kernel
theorem d_ST_hashParts_22 : decode b_ST_hashParts 22 = .ok (.iconst 0, 1) := by decide +kernel
theorem d_ST_hashParts_23 : decode b_ST_hashParts 23 = .ok (.istore 6, 2) := by decide +kernel
theorem d_ST_hashParts_25 : decode b_ST_hashParts 25 = .ok (.iload 6, 2) := by decide +kernel
theorem d_ST_hashParts_27 : decode b_ST_hashParts 27 = .ok (.sipush 1000, 3) := by decide +kernel
theorem d_ST_hashParts_30 : decode b_ST_hashParts 30 = .ok (.if_icmp .ge 79, 3) := by decide +kernel
theorem d_ST_hashParts_33 : decode b_ST_hashParts 33 = .ok (.iload 4, 2) := by decide +kernel
theorem d_ST_hashParts_35 : decode b_ST_hashParts 35 = .ok (.iload_n 3, 1) := by decide +kernel
theorem d_ST_hashParts_36 : decode b_ST_hashParts 36 = .ok (.if_icmp .ge 73, 3) := by decide +kernel
theorem d_ST_hashParts_39 : decode b_ST_hashParts 39 = .ok (.aload_n 0, 1) := by decide +kernel
theorem d_ST_hashParts_40 : decode b_ST_hashParts 40 = .ok (.iload 4, 2) := by decide +kernel
theorem d_ST_hashParts_42 : decode b_ST_hashParts 42 = .ok (.invokevirtual 31, 3) := by decide +kernel
theorem d_ST_hashParts_45 : decode b_ST_hashParts 45 = .ok (.istore 7, 2) := by decide +kernel
theorem d_ST_hashParts_47 : decode b_ST_hashParts 47 = .ok (.iload_n 1, 1) := by decide +kernel
theorem d_ST_hashParts_48 : decode b_ST_hashParts 48 = .ok (.invokestatic 23, 3) := by decide +kernel
theorem d_ST_hashParts_51 : decode b_ST_hashParts 51 = .ok (.iconst 3, 1) := by decide +kernel
theorem d_ST_hashParts_52 : decode b_ST_hashParts 52 = .ok (.if_icmp .ne 26, 3) := by decide +kernel
theorem d_ST_hashParts_55 : decode b_ST_hashParts 55 = .ok (.iload 5, 2) := by decide +kernel
theorem d_ST_hashParts_57 : decode b_ST_hashParts 57 = .ok (.bipush 31, 2) := by decide +kernel
theorem d_ST_hashParts_59 : decode b_ST_hashParts 59 = .ok (.imul, 1) := by decide +kernel
theorem d_ST_hashParts_60 : decode b_ST_hashParts 60 = .ok (.aload_n 0, 1) := by decide +kernel
theorem d_ST_hashParts_61 : decode b_ST_hashParts 61 = .ok (.iload 4, 2) := by decide +kernel
theorem d_ST_hashParts_63 : decode b_ST_hashParts 63 = .ok (.iconst 1, 1) := by decide +kernel
theorem d_ST_hashParts_64 : decode b_ST_hashParts 64 = .ok (.iadd, 1) := by decide +kernel
theorem d_ST_hashParts_65 : decode b_ST_hashParts 65 = .ok (.iload 7, 2) := by decide +kernel
theorem d_ST_hashParts_67 : decode b_ST_hashParts 67 = .ok (.invokestatic 16, 3) := by decide +kernel
theorem d_ST_hashParts_70 : decode b_ST_hashParts 70 = .ok (.iconst 1, 1) := by decide +kernel
theorem d_ST_hashParts_71 : decode b_ST_hashParts 71 = .ok (.isub, 1) := by decide +kernel
theorem d_ST_hashParts_72 : decode b_ST_hashParts 72 = .ok (.invokevirtual 84, 3) := by decide +kernel
theorem d_ST_hashParts_75 : decode b_ST_hashParts 75 = .ok (.iadd, 1) := by decide +kernel
theorem d_ST_hashParts_76 : decode b_ST_hashParts 76 = .ok (.istore 5, 2) := by decide +kernel
theorem d_ST_hashParts_78 : decode b_ST_hashParts 78 = .ok (.iload 5, 2) := by decide +kernel
theorem d_ST_hashParts_80 : decode b_ST_hashParts 80 = .ok (.bipush 31, 2) := by decide +kernel
theorem d_ST_hashParts_82 : decode b_ST_hashParts 82 = .ok (.imul, 1) := by decide +kernel
theorem d_ST_hashParts_83 : decode b_ST_hashParts 83 = .ok (.aload_n 0, 1) := by decide +kernel
theorem d_ST_hashParts_84 : decode b_ST_hashParts 84 = .ok (.iload 7, 2) := by decide +kernel
theorem d_ST_hashParts_86 : decode b_ST_hashParts 86 = .ok (.iload_n 2, 1) := by decide +kernel
theorem d_ST_hashParts_87 : decode b_ST_hashParts 87 = .ok (.iconst 1, 1) := by decide +kernel
theorem d_ST_hashParts_88 : decode b_ST_hashParts 88 = .ok (.iadd, 1) := by decide +kernel
theorem d_ST_hashParts_89 : decode b_ST_hashParts 89 = .ok (.invokevirtual 90, 3) := by decide +kernel
theorem d_ST_hashParts_92 : decode b_ST_hashParts 92 = .ok (.iadd, 1) := by decide +kernel
theorem d_ST_hashParts_93 : decode b_ST_hashParts 93 = .ok (.istore 5, 2) := by decide +kernel
theorem d_ST_hashParts_95 : decode b_ST_hashParts 95 = .ok (.aload_n 0, 1) := by decide +kernel
theorem d_ST_hashParts_96 : decode b_ST_hashParts 96 = .ok (.iload 7, 2) := by decide +kernel
theorem d_ST_hashParts_98 : decode b_ST_hashParts 98 = .ok (.invokevirtual 28, 3) := by decide +kernel
theorem d_ST_hashParts_101 : decode b_ST_hashParts 101 = .ok (.istore 4, 2) := by decide +kernel
theorem d_ST_hashParts_103 : decode b_ST_hashParts 103 = .ok (.iinc 6 1, 3) := by decide +kernel
theorem d_ST_hashParts_106 : decode b_ST_hashParts 106 = .ok (.goto (-81), 3) := by decide +kernel
theorem d_ST_hashParts_109 : decode b_ST_hashParts 109 = .ok (.iload 5, 2) := by decide +kernel
theorem d_ST_hashParts_111 : decode b_ST_hashParts 111 = .ok (.ireturn, 1) := by decide +kernel
abbrev b_ST_hash : ByteArray := prog_10_method_21_code
def y_ST_hash : MethodName := ⟨R_ST, "hash", "(II)I"⟩
theorem kc_ST_hash : Cond.code y_ST_hash b_ST_hash 4 (some .int) ∈ lw_g := lw_gm (List.mem_append_right _ (List.mem_of_getElem? (i := 759) (by decide +kernel))) rfl
abbrev mw_ST_hash : List Cond := Cond.code y_ST_hash b_ST_hash 4 (some .int) :: lw_g
theorem hd_ST_hash : y_ST_hash.cls = R_ST ∧ y_ST_hash.cls ≠ "java/lang/invoke/MethodHandle" ∧ y_ST_hash.cls ≠ "java/lang/invoke/VarHandle" ∧ (parseMethodDescriptor y_ST_hash.desc).map (fun d => d.parameters.length) = some 2 := by decide +kernel
theorem d_ST_hash_0 : decode b_ST_hash 0 = .ok (.iload_n 1, 1) := by decide +kernel
theorem d_ST_hash_1 : decode b_ST_hash 1 = .ok (.invokestatic 16, 3) := by decide +kernel
theorem d_ST_hash_4 : decode b_ST_hash 4 = .ok (.istore_n 3, 1) := by decide +kernel
theorem d_ST_hash_5 : decode b_ST_hash 5 = .ok (.iload_n 1, 1) := by decide +kernel
theorem d_ST_hash_6 : decode b_ST_hash 6 = .ok (.invokestatic 23, 3) := by decide +kernel
theorem d_ST_hash_9 : decode b_ST_hash 9 = .ok (.tableswitch 159 2 18 #[110, 125, 142, 159, 159, 159, 101, 159, 159, 159, 159, 159, 159, 159, 83, 159, 92], 83) := by decide +kernel
theorem d_ST_hash_92 : decode b_ST_hash 92 = .ok (.aload_n 0, 1) := by decide +kernel
theorem d_ST_hash_93 : decode b_ST_hash 93 = .ok (.iload_n 1, 1) := by decide +kernel
theorem d_ST_hash_94 : decode b_ST_hash 94 = .ok (.invokevirtual 65, 3) := by decide +kernel
theorem d_ST_hash_97 : decode b_ST_hash 97 = .ok (.invokestatic 80, 3) := by decide +kernel
theorem d_ST_hash_100 : decode b_ST_hash 100 = .ok (.ireturn, 1) := by decide +kernel
theorem d_ST_hash_101 : decode b_ST_hash 101 = .ok (.aload_n 0, 1) := by decide +kernel
theorem d_ST_hash_102 : decode b_ST_hash 102 = .ok (.iload_n 1, 1) := by decide +kernel
theorem d_ST_hash_103 : decode b_ST_hash 103 = .ok (.invokevirtual 65, 3) := by decide +kernel
theorem d_ST_hash_106 : decode b_ST_hash 106 = .ok (.invokestatic 80, 3) := by decide +kernel
theorem d_ST_hash_109 : decode b_ST_hash 109 = .ok (.ireturn, 1) := by decide +kernel
theorem d_ST_hash_110 : decode b_ST_hash 110 = .ok (.bipush 8, 2) := by decide +kernel
theorem d_ST_hash_112 : decode b_ST_hash 112 = .ok (.aload_n 0, 1) := by decide +kernel
theorem d_ST_hash_113 : decode b_ST_hash 113 = .ok (.iload_n 3, 1) := by decide +kernel
theorem d_ST_hash_114 : decode b_ST_hash 114 = .ok (.invokevirtual 44, 3) := by decide +kernel
theorem d_ST_hash_117 : decode b_ST_hash 117 = .ok (.iadd, 1) := by decide +kernel
theorem d_ST_hash_118 : decode b_ST_hash 118 = .ok (.ireturn, 1) := by decide +kernel
theorem d_ST_hash_119 : decode b_ST_hash 119 = .ok (.aload_n 0, 1) := by decide +kernel
theorem d_ST_hash_120 : decode b_ST_hash 120 = .ok (.iload_n 3, 1) := by decide +kernel
theorem d_ST_hash_121 : decode b_ST_hash 121 = .ok (.iconst 4, 1) := by decide +kernel
theorem d_ST_hash_122 : decode b_ST_hash 122 = .ok (.iadd, 1) := by decide +kernel
theorem d_ST_hash_123 : decode b_ST_hash 123 = .ok (.aload_n 0, 1) := by decide +kernel
theorem d_ST_hash_124 : decode b_ST_hash 124 = .ok (.iload_n 1, 1) := by decide +kernel
theorem d_ST_hash_125 : decode b_ST_hash 125 = .ok (.invokevirtual 28, 3) := by decide +kernel
theorem d_ST_hash_128 : decode b_ST_hash 128 = .ok (.iconst 1, 1) := by decide +kernel
theorem d_ST_hash_129 : decode b_ST_hash 129 = .ok (.isub, 1) := by decide +kernel
theorem d_ST_hash_130 : decode b_ST_hash 130 = .ok (.invokevirtual 84, 3) := by decide +kernel
theorem d_ST_hash_133 : decode b_ST_hash 133 = .ok (.ireturn, 1) := by decide +kernel
theorem d_ST_hash_134 : decode b_ST_hash 134 = .ok (.iload_n 2, 1) := by decide +kernel
theorem d_ST_hash_135 : decode b_ST_hash 135 = .ok (.bipush 40, 2) := by decide +kernel
theorem d_ST_hash_137 : decode b_ST_hash 137 = .ok (.if_icmp .le 7, 3) := by decide +kernel
theorem d_ST_hash_140 : decode b_ST_hash 140 = .ok (.iconst 0, 1) := by decide +kernel
theorem d_ST_hash_141 : decode b_ST_hash 141 = .ok (.goto 9, 3) := by decide +kernel
theorem d_ST_hash_144 : decode b_ST_hash 144 = .ok (.aload_n 0, 1) := by decide +kernel
theorem d_ST_hash_145 : decode b_ST_hash 145 = .ok (.iload_n 1, 1) := by decide +kernel
theorem d_ST_hash_146 : decode b_ST_hash 146 = .ok (.iload_n 2, 1) := by decide +kernel
theorem d_ST_hash_147 : decode b_ST_hash 147 = .ok (.invokevirtual 87, 3) := by decide +kernel
theorem d_ST_hash_150 : decode b_ST_hash 150 = .ok (.ireturn, 1) := by decide +kernel
theorem d_ST_hash_151 : decode b_ST_hash 151 = .ok (.iload_n 2, 1) := by decide +kernel
theorem d_ST_hash_152 : decode b_ST_hash 152 = .ok (.bipush 40, 2) := by decide +kernel
theorem d_ST_hash_154 : decode b_ST_hash 154 = .ok (.if_icmp .le 7, 3) := by decide +kernel
theorem d_ST_hash_157 : decode b_ST_hash 157 = .ok (.iconst 0, 1) := by decide +kernel
theorem d_ST_hash_158 : decode b_ST_hash 158 = .ok (.goto 9, 3) := by decide +kernel
theorem d_ST_hash_161 : decode b_ST_hash 161 = .ok (.aload_n 0, 1) := by decide +kernel
theorem d_ST_hash_162 : decode b_ST_hash 162 = .ok (.iload_n 1, 1) := by decide +kernel
theorem d_ST_hash_163 : decode b_ST_hash 163 = .ok (.iload_n 2, 1) := by decide +kernel
theorem d_ST_hash_164 : decode b_ST_hash 164 = .ok (.invokevirtual 87, 3) := by decide +kernel
theorem d_ST_hash_167 : decode b_ST_hash 167 = .ok (.ireturn, 1) := by decide +kernel
theorem d_ST_hash_168 : decode b_ST_hash 168 = .ok (.iload_n 1, 1) := by decide +kernel
theorem d_ST_hash_169 : decode b_ST_hash 169 = .ok (.invokestatic 62, 3) := by decide +kernel
theorem d_ST_hash_172 : decode b_ST_hash 172 = .ok (.ireturn, 1) := by decide +kernel
abbrev b_ST_isTooDeep : ByteArray := prog_10_method_25_code
def y_ST_isTooDeep : MethodName := ⟨R_ST, "isTooDeep", "(II)Z"⟩
theorem kc_ST_isTooDeep : Cond.code y_ST_isTooDeep b_ST_isTooDeep 8 (some .boolean) ∈ lw_g := lw_gm (List.mem_append_right _ (List.mem_of_getElem? (i := 666) (by decide +kernel))) rfl
abbrev mw_ST_isTooDeep : List Cond := Cond.code y_ST_isTooDeep b_ST_isTooDeep 8 (some .boolean) :: lw_g
theorem hd_ST_isTooDeep : y_ST_isTooDeep.cls = R_ST ∧ y_ST_isTooDeep.cls ≠ "java/lang/invoke/MethodHandle" ∧ y_ST_isTooDeep.cls ≠ "java/lang/invoke/VarHandle" ∧ (parseMethodDescriptor y_ST_isTooDeep.desc).map (fun d => d.parameters.length) = some 2 := by decide +kernel
theorem d_ST_isTooDeep_0 : decode b_ST_isTooDeep 0 = .ok (.iload_n 2, 1) := by decide +kernel
theorem d_ST_isTooDeep_1 : decode b_ST_isTooDeep 1 = .ok (.bipush 16, 2) := by decide +kernel
theorem d_ST_isTooDeep_3 : decode b_ST_isTooDeep 3 = .ok (.if_icmp .le 5, 3) := by decide +kernel
theorem d_ST_isTooDeep_6 : decode b_ST_isTooDeep 6 = .ok (.iconst 1, 1) := by decide +kernel
theorem d_ST_isTooDeep_7 : decode b_ST_isTooDeep 7 = .ok (.ireturn, 1) := by decide +kernel
theorem d_ST_isTooDeep_8 : decode b_ST_isTooDeep 8 = .ok (.aload_n 0, 1) := by decide +kernel
theorem d_ST_isTooDeep_9 : decode b_ST_isTooDeep 9 = .ok (.iload_n 1, 1) := by decide +kernel
theorem d_ST_isTooDeep_10 : decode b_ST_isTooDeep 10 = .ok (.invokevirtual 28, 3) := by decide +kernel
theorem d_ST_isTooDeep_13 : decode b_ST_isTooDeep 13 = .ok (.iconst 1, 1) := by decide +kernel
theorem d_ST_isTooDeep_14 : decode b_ST_isTooDeep 14 = .ok (.isub, 1) := by decide +kernel
theorem d_ST_isTooDeep_15 : decode b_ST_isTooDeep 15 = .ok (.istore_n 3, 1) := by decide +kernel
theorem d_ST_isTooDeep_16 : decode b_ST_isTooDeep 16 = .ok (.iload_n 1, 1) := by decide +kernel
theorem d_ST_isTooDeep_17 : decode b_ST_isTooDeep 17 = .ok (.invokestatic 16, 3) := by decide +kernel
theorem d_ST_isTooDeep_20 : decode b_ST_isTooDeep 20 = .ok (.iconst 4, 1) := by decide +kernel
theorem d_ST_isTooDeep_21 : decode b_ST_isTooDeep 21 = .ok (.iadd, 1) := by decide +kernel
theorem d_ST_isTooDeep_22 : decode b_ST_isTooDeep 22 = .ok (.istore 4, 2) := by decide +kernel
theorem d_ST_isTooDeep_24 : decode b_ST_isTooDeep 24 = .ok (.iconst 0, 1) := by decide +kernel
theorem d_ST_isTooDeep_25 : decode b_ST_isTooDeep 25 = .ok (.istore 5, 2) := by decide +kernel
theorem d_ST_isTooDeep_27 : decode b_ST_isTooDeep 27 = .ok (.iload 5, 2) := by decide +kernel
theorem d_ST_isTooDeep_29 : decode b_ST_isTooDeep 29 = .ok (.sipush 1000, 3) := by decide +kernel
theorem d_ST_isTooDeep_32 : decode b_ST_isTooDeep 32 = .ok (.if_icmp .ge 75, 3) := by decide +kernel
theorem d_ST_isTooDeep_35 : decode b_ST_isTooDeep 35 = .ok (.iload 4, 2) := by decide +kernel
theorem d_ST_isTooDeep_37 : decode b_ST_isTooDeep 37 = .ok (.iload_n 3, 1) := by decide +kernel
theorem d_ST_isTooDeep_38 : decode b_ST_isTooDeep 38 = .ok (.if_icmp .ge 69, 3) := by decide +kernel
theorem d_ST_isTooDeep_41 : decode b_ST_isTooDeep 41 = .ok (.aload_n 0, 1) := by decide +kernel
theorem d_ST_isTooDeep_42 : decode b_ST_isTooDeep 42 = .ok (.iload 4, 2) := by decide +kernel
theorem d_ST_isTooDeep_44 : decode b_ST_isTooDeep 44 = .ok (.invokevirtual 31, 3) := by decide +kernel
theorem d_ST_isTooDeep_47 : decode b_ST_isTooDeep 47 = .ok (.istore 6, 2) := by decide +kernel
theorem d_ST_isTooDeep_49 : decode b_ST_isTooDeep 49 = .ok (.iload 6, 2) := by decide +kernel
theorem d_ST_isTooDeep_51 : decode b_ST_isTooDeep 51 = .ok (.invokestatic 23, 3) := by decide +kernel
theorem d_ST_isTooDeep_54 : decode b_ST_isTooDeep 54 = .ok (.iconst 3, 1) := by decide +kernel
theorem d_ST_isTooDeep_55 : decode b_ST_isTooDeep 55 = .ok (.if_icmp .eq 12, 3) := by decide +kernel
theorem d_ST_isTooDeep_58 : decode b_ST_isTooDeep 58 = .ok (.iload 6, 2) := by decide +kernel
theorem d_ST_isTooDeep_60 : decode b_ST_isTooDeep 60 = .ok (.invokestatic 23, 3) := by decide +kernel
theorem d_ST_isTooDeep_63 : decode b_ST_isTooDeep 63 = .ok (.iconst 4, 1) := by decide +kernel
theorem d_ST_isTooDeep_64 : decode b_ST_isTooDeep 64 = .ok (.if_icmp .ne 7, 3) := by decide +kernel
theorem d_ST_isTooDeep_67 : decode b_ST_isTooDeep 67 = .ok (.iconst 1, 1) := by decide +kernel
theorem d_ST_isTooDeep_68 : decode b_ST_isTooDeep 68 = .ok (.goto 4, 3) := by decide +kernel
theorem d_ST_isTooDeep_71 : decode b_ST_isTooDeep 71 = .ok (.iconst 0, 1) := by decide +kernel
theorem d_ST_isTooDeep_72 : decode b_ST_isTooDeep 72 = .ok (.istore 7, 2) := by decide +kernel
theorem d_ST_isTooDeep_74 : decode b_ST_isTooDeep 74 = .ok (.iload 7, 2) := by decide +kernel
theorem d_ST_isTooDeep_76 : decode b_ST_isTooDeep 76 = .ok (.ifCond .eq 17, 3) := by decide +kernel
theorem d_ST_isTooDeep_79 : decode b_ST_isTooDeep 79 = .ok (.aload_n 0, 1) := by decide +kernel
theorem d_ST_isTooDeep_80 : decode b_ST_isTooDeep 80 = .ok (.iload 6, 2) := by decide +kernel
theorem d_ST_isTooDeep_82 : decode b_ST_isTooDeep 82 = .ok (.iload_n 2, 1) := by decide +kernel
theorem d_ST_isTooDeep_83 : decode b_ST_isTooDeep 83 = .ok (.iconst 1, 1) := by decide +kernel
theorem d_ST_isTooDeep_84 : decode b_ST_isTooDeep 84 = .ok (.iadd, 1) := by decide +kernel
theorem d_ST_isTooDeep_85 : decode b_ST_isTooDeep 85 = .ok (.invokevirtual 97, 3) := by decide +kernel
theorem d_ST_isTooDeep_88 : decode b_ST_isTooDeep 88 = .ok (.ifCond .eq 5, 3) := by decide +kernel
theorem d_ST_isTooDeep_91 : decode b_ST_isTooDeep 91 = .ok (.iconst 1, 1) := by decide +kernel
theorem d_ST_isTooDeep_92 : decode b_ST_isTooDeep 92 = .ok (.ireturn, 1) := by decide +kernel
theorem d_ST_isTooDeep_93 : decode b_ST_isTooDeep 93 = .ok (.aload_n 0, 1) := by decide +kernel
theorem d_ST_isTooDeep_94 : decode b_ST_isTooDeep 94 = .ok (.iload 6, 2) := by decide +kernel
theorem d_ST_isTooDeep_96 : decode b_ST_isTooDeep 96 = .ok (.invokevirtual 28, 3) := by decide +kernel
theorem d_ST_isTooDeep_99 : decode b_ST_isTooDeep 99 = .ok (.istore 4, 2) := by decide +kernel
theorem d_ST_isTooDeep_101 : decode b_ST_isTooDeep 101 = .ok (.iinc 5 1, 3) := by decide +kernel
theorem d_ST_isTooDeep_104 : decode b_ST_isTooDeep 104 = .ok (.goto (-77), 3) := by decide +kernel
theorem d_ST_isTooDeep_107 : decode b_ST_isTooDeep 107 = .ok (.iconst 0, 1) := by decide +kernel
theorem d_ST_isTooDeep_108 : decode b_ST_isTooDeep 108 = .ok (.ireturn, 1) := by decide +kernel
abbrev b_ST_write : ByteArray := prog_10_method_7_code
def y_ST_write : MethodName := ⟨R_ST, "write", "(II)V"⟩
theorem kc_ST_write : Cond.code y_ST_write b_ST_write 3 none ∈ lw_g := lw_gm (List.mem_append_right _ (List.mem_of_getElem? (i := 352) (by decide +kernel))) rfl
abbrev mw_ST_write : List Cond := Cond.code y_ST_write b_ST_write 3 none :: lw_g
theorem hd_ST_write : y_ST_write.cls = R_ST ∧ y_ST_write.cls ≠ "java/lang/invoke/MethodHandle" ∧ y_ST_write.cls ≠ "java/lang/invoke/VarHandle" ∧ (parseMethodDescriptor y_ST_write.desc).map (fun d => d.parameters.length) = some 2 := by decide +kernel
theorem d_ST_write_0 : decode b_ST_write 0 = .ok (.iload_n 1, 1) := by decide +kernel
theorem d_ST_write_1 : decode b_ST_write 1 = .ok (.ifCond .lt 20, 3) := by decide +kernel
theorem d_ST_write_4 : decode b_ST_write 4 = .ok (.iload_n 1, 1) := by decide +kernel
theorem d_ST_write_5 : decode b_ST_write 5 = .ok (.aload_n 0, 1) := by decide +kernel
theorem d_ST_write_6 : decode b_ST_write 6 = .ok (.getfield 10, 3) := by decide +kernel
theorem d_ST_write_9 : decode b_ST_write 9 = .ok (.arraylength, 1) := by decide +kernel
theorem d_ST_write_10 : decode b_ST_write 10 = .ok (.if_icmp .ge 11, 3) := by decide +kernel
theorem d_ST_write_13 : decode b_ST_write 13 = .ok (.aload_n 0, 1) := by decide +kernel
theorem d_ST_write_14 : decode b_ST_write 14 = .ok (.getfield 10, 3) := by decide +kernel
theorem d_ST_write_17 : decode b_ST_write 17 = .ok (.iload_n 1, 1) := by decide +kernel
theorem d_ST_write_18 : decode b_ST_write 18 = .ok (.iload_n 2, 1) := by decide +kernel
theorem d_ST_write_19 : decode b_ST_write 19 = .ok (.i2b, 1) := by decide +kernel
theorem d_ST_write_20 : decode b_ST_write 20 = .ok (.bastore, 1) := by decide +kernel
theorem d_ST_write_21 : decode b_ST_write 21 = .ok (.return_, 1) := by decide +kernel
set_option maxHeartbeats 4000000 in
set_option maxRecDepth 100000 in
theorem l_ST_compareParts_h52 {p : Program} {e : Env} {s : State} {m : MethodId} {args : Array Value} {below : List Frame} {meth : Method} {c : Code} {V : Int32} (C0 : lc_C p s m meth c args b_ST_compareParts 13 (some .int) R_ST lw_g) (l : Launch) (D : va_G) (cB cI : ClassId) (aS aB : Nat) (rF : Nat) (rL : Nat) (fc : Int32 → Int32 → Int32) (b : Nat → UInt8) (hP : va_P D vwCl [(aS, .inr (0, [.ref aB])), (aB, .inl (cB, 202000, .inl (by_ b)))] s.heap) (hk : hk_ D cB cI s) (p2 : Int32) (x4 : Int32) (x5 : Int32) (x6 : Int32) (hc : ∀ x y : Int32, Met l y_ST_compare mw_ST_compare { frames := rF, cells := 0, slots := 0, locals := rL } (va_Pc [.ref aS, .int x, .int y, .int (p2 + 1)] (fun U => va_P D vwCl [(aS, .inr (0, [.ref aB])), (aB, .inl (cB, 202000, .inl (by_ b)))] U.heap ∧ hk_ D cB cI U)) (vp_Si (fun r => r = fc x y)) 0 0 (fun _ => False)) : ∀ (n : Nat) (x7 : Int32) (x8 : Int32) (x9 : Int32), ((1000 : Int32).toInt - x9.toInt).toNat < n → V = tw_ST_compareParts_h52 fc b p2 x4 x5 x6 n x7 x8 x9 → ∀ ls : Array Slot, lv_has ls 13 [(0, .ref aS), (3, .int p2), (4, .int x4), (5, .int x5), (6, .int x6), (7, .int x7), (8, .int x8), (9, .int x9)] → W p l e ({ frames := rF + 5, cells := 0, slots := 0, locals := rL + 120 }) s m args below meth c s.heap [] 0 0 (MQ below (vp_Si (fun r => r = V)) args s 0 0 (fun _ => False)) (F0 m 52 ls []) := by
  obtain ⟨hx, hb, hml, hr, hown, hlocks, hT⟩ := id C0
  have hK := hk.1
  have hN := hk.2.1
  intro n
  induction n with
  | zero =>
    intro x7 x8 x9 hm
    exact absurd hm (Nat.not_lt_zero _)
  | succ n ih =>
    intro x7 x8 x9 hm hV ls hl
    refine lv_iload hx hb d_ST_compareParts_52 (lv_at hl 7 rfl) ?_
    refine lv_sipush (v := 1000) hx hb d_ST_compareParts_54 (by decide) ?_
    refine lv_icmp_ge (tgt := 191) hx hb d_ST_compareParts_57 (by decide) (fun c_2 => ?_) (fun c_2 => ?_)
    · refine lv_iload hx hb d_ST_compareParts_191 (lv_at hl 5 rfl) ?_
      refine lv_iload hx hb d_ST_compareParts_193 (lv_at hl 3 rfl) ?_
      refine lv_icmp_ge (tgt := 202) hx hb d_ST_compareParts_195 (by decide) (fun c_3 => ?_) (fun c_3 => ?_)
      · refine lv_iconst (v := 0) hx hb d_ST_compareParts_202 (by decide) ?_
        refine lv_iload hx hb d_ST_compareParts_203 (lv_at hl 6 rfl) ?_
        refine lv_iload hx hb d_ST_compareParts_205 (lv_at hl 4 rfl) ?_
        refine lv_icmp_ge (tgt := 214) hx hb d_ST_compareParts_207 (by decide) (fun c_4 => ?_) (fun c_4 => ?_)
        · refine lv_iconst (v := 0) hx hb d_ST_compareParts_214 (by decide) ?_
          refine rd_S (val := tw_JI_compare 0 0) (As := [.int 0, .int 0]) (rest := []) ⟨hx, hb, hml, hown, hT⟩ (c_JI_compare l D cB cI 0 0) (va_cwS 2 hT (gS_of k_412 k_413 k_14 kc_JI_compare) rfl rfl rfl hd_JI_compare ⟨rl_s (Nat.le_of_ble_eq_true rfl), rl_s (Nat.le_of_ble_eq_true rfl)⟩) hk (va_P_nil) rfl hl.1 rfl (Nat.le_of_ble_eq_true rfl) d_ST_compareParts_215 ⟨Nat.zero_le _, Nat.zero_le _⟩ ?_
          exact W.iret (v := tw_JI_compare 0 0) hx hb hr (fun t ht hW => ⟨tw_JI_compare 0 0, rfl, (by rw [hV, tw_ST_compareParts_h52, if_pos c_2, if_pos c_3, if_pos c_4]; first | done | rfl), ht⟩) (fun _ h => by cases h) d_ST_compareParts_218
        · refine lv_iconst (v := 1) hx hb d_ST_compareParts_210 (by decide) ?_
          refine lv_goto (tgt := 215) hx hb d_ST_compareParts_211 (by decide) ?_
          refine rd_S (val := tw_JI_compare 0 1) (As := [.int 0, .int 1]) (rest := []) ⟨hx, hb, hml, hown, hT⟩ (c_JI_compare l D cB cI 0 1) (va_cwS 2 hT (gS_of k_412 k_413 k_14 kc_JI_compare) rfl rfl rfl hd_JI_compare ⟨rl_s (Nat.le_of_ble_eq_true rfl), rl_s (Nat.le_of_ble_eq_true rfl)⟩) hk (va_P_nil) rfl hl.1 rfl (Nat.le_of_ble_eq_true rfl) d_ST_compareParts_215 ⟨Nat.zero_le _, Nat.zero_le _⟩ ?_
          exact W.iret (v := tw_JI_compare 0 1) hx hb hr (fun t ht hW => ⟨tw_JI_compare 0 1, rfl, (by rw [hV, tw_ST_compareParts_h52, if_pos c_2, if_pos c_3, if_neg c_4]; first | done | rfl), ht⟩) (fun _ h => by cases h) d_ST_compareParts_218
      · refine lv_iconst (v := 1) hx hb d_ST_compareParts_198 (by decide) ?_
        refine lv_goto (tgt := 203) hx hb d_ST_compareParts_199 (by decide) ?_
        refine lv_iload hx hb d_ST_compareParts_203 (lv_at hl 6 rfl) ?_
        refine lv_iload hx hb d_ST_compareParts_205 (lv_at hl 4 rfl) ?_
        refine lv_icmp_ge (tgt := 214) hx hb d_ST_compareParts_207 (by decide) (fun c_5 => ?_) (fun c_5 => ?_)
        · refine lv_iconst (v := 0) hx hb d_ST_compareParts_214 (by decide) ?_
          refine rd_S (val := tw_JI_compare 1 0) (As := [.int 1, .int 0]) (rest := []) ⟨hx, hb, hml, hown, hT⟩ (c_JI_compare l D cB cI 1 0) (va_cwS 2 hT (gS_of k_412 k_413 k_14 kc_JI_compare) rfl rfl rfl hd_JI_compare ⟨rl_s (Nat.le_of_ble_eq_true rfl), rl_s (Nat.le_of_ble_eq_true rfl)⟩) hk (va_P_nil) rfl hl.1 rfl (Nat.le_of_ble_eq_true rfl) d_ST_compareParts_215 ⟨Nat.zero_le _, Nat.zero_le _⟩ ?_
          exact W.iret (v := tw_JI_compare 1 0) hx hb hr (fun t ht hW => ⟨tw_JI_compare 1 0, rfl, (by rw [hV, tw_ST_compareParts_h52, if_pos c_2, if_neg c_3, if_pos c_5]; first | done | rfl), ht⟩) (fun _ h => by cases h) d_ST_compareParts_218
        · refine lv_iconst (v := 1) hx hb d_ST_compareParts_210 (by decide) ?_
          refine lv_goto (tgt := 215) hx hb d_ST_compareParts_211 (by decide) ?_
          refine rd_S (val := tw_JI_compare 1 1) (As := [.int 1, .int 1]) (rest := []) ⟨hx, hb, hml, hown, hT⟩ (c_JI_compare l D cB cI 1 1) (va_cwS 2 hT (gS_of k_412 k_413 k_14 kc_JI_compare) rfl rfl rfl hd_JI_compare ⟨rl_s (Nat.le_of_ble_eq_true rfl), rl_s (Nat.le_of_ble_eq_true rfl)⟩) hk (va_P_nil) rfl hl.1 rfl (Nat.le_of_ble_eq_true rfl) d_ST_compareParts_215 ⟨Nat.zero_le _, Nat.zero_le _⟩ ?_
          exact W.iret (v := tw_JI_compare 1 1) hx hb hr (fun t ht hW => ⟨tw_JI_compare 1 1, rfl, (by rw [hV, tw_ST_compareParts_h52, if_pos c_2, if_neg c_3, if_neg c_5]; first | done | rfl), ht⟩) (fun _ h => by cases h) d_ST_compareParts_218
    · refine lv_iload hx hb d_ST_compareParts_60 (lv_at hl 5 rfl) ?_
      refine lv_iload hx hb d_ST_compareParts_62 (lv_at hl 3 rfl) ?_
      refine lv_icmp_ge (tgt := 191) hx hb d_ST_compareParts_64 (by decide) (fun c_6 => ?_) (fun c_6 => ?_)
      · refine lv_iload hx hb d_ST_compareParts_191 (lv_at hl 5 rfl) ?_
        refine lv_iload hx hb d_ST_compareParts_193 (lv_at hl 3 rfl) ?_
        refine lv_icmp_ge (tgt := 202) hx hb d_ST_compareParts_195 (by decide) (fun c_7 => ?_) (fun c_7 => ?_)
        · refine lv_iconst (v := 0) hx hb d_ST_compareParts_202 (by decide) ?_
          refine lv_iload hx hb d_ST_compareParts_203 (lv_at hl 6 rfl) ?_
          refine lv_iload hx hb d_ST_compareParts_205 (lv_at hl 4 rfl) ?_
          refine lv_icmp_ge (tgt := 214) hx hb d_ST_compareParts_207 (by decide) (fun c_8 => ?_) (fun c_8 => ?_)
          · refine lv_iconst (v := 0) hx hb d_ST_compareParts_214 (by decide) ?_
            refine rd_S (val := tw_JI_compare 0 0) (As := [.int 0, .int 0]) (rest := []) ⟨hx, hb, hml, hown, hT⟩ (c_JI_compare l D cB cI 0 0) (va_cwS 2 hT (gS_of k_412 k_413 k_14 kc_JI_compare) rfl rfl rfl hd_JI_compare ⟨rl_s (Nat.le_of_ble_eq_true rfl), rl_s (Nat.le_of_ble_eq_true rfl)⟩) hk (va_P_nil) rfl hl.1 rfl (Nat.le_of_ble_eq_true rfl) d_ST_compareParts_215 ⟨Nat.zero_le _, Nat.zero_le _⟩ ?_
            exact W.iret (v := tw_JI_compare 0 0) hx hb hr (fun t ht hW => ⟨tw_JI_compare 0 0, rfl, (by rw [hV, tw_ST_compareParts_h52, if_neg c_2, if_pos c_6, if_pos c_7, if_pos c_8]; first | done | rfl), ht⟩) (fun _ h => by cases h) d_ST_compareParts_218
          · refine lv_iconst (v := 1) hx hb d_ST_compareParts_210 (by decide) ?_
            refine lv_goto (tgt := 215) hx hb d_ST_compareParts_211 (by decide) ?_
            refine rd_S (val := tw_JI_compare 0 1) (As := [.int 0, .int 1]) (rest := []) ⟨hx, hb, hml, hown, hT⟩ (c_JI_compare l D cB cI 0 1) (va_cwS 2 hT (gS_of k_412 k_413 k_14 kc_JI_compare) rfl rfl rfl hd_JI_compare ⟨rl_s (Nat.le_of_ble_eq_true rfl), rl_s (Nat.le_of_ble_eq_true rfl)⟩) hk (va_P_nil) rfl hl.1 rfl (Nat.le_of_ble_eq_true rfl) d_ST_compareParts_215 ⟨Nat.zero_le _, Nat.zero_le _⟩ ?_
            exact W.iret (v := tw_JI_compare 0 1) hx hb hr (fun t ht hW => ⟨tw_JI_compare 0 1, rfl, (by rw [hV, tw_ST_compareParts_h52, if_neg c_2, if_pos c_6, if_pos c_7, if_neg c_8]; first | done | rfl), ht⟩) (fun _ h => by cases h) d_ST_compareParts_218
        · refine lv_iconst (v := 1) hx hb d_ST_compareParts_198 (by decide) ?_
          refine lv_goto (tgt := 203) hx hb d_ST_compareParts_199 (by decide) ?_
          refine lv_iload hx hb d_ST_compareParts_203 (lv_at hl 6 rfl) ?_
          refine lv_iload hx hb d_ST_compareParts_205 (lv_at hl 4 rfl) ?_
          refine lv_icmp_ge (tgt := 214) hx hb d_ST_compareParts_207 (by decide) (fun c_9 => ?_) (fun c_9 => ?_)
          · refine lv_iconst (v := 0) hx hb d_ST_compareParts_214 (by decide) ?_
            refine rd_S (val := tw_JI_compare 1 0) (As := [.int 1, .int 0]) (rest := []) ⟨hx, hb, hml, hown, hT⟩ (c_JI_compare l D cB cI 1 0) (va_cwS 2 hT (gS_of k_412 k_413 k_14 kc_JI_compare) rfl rfl rfl hd_JI_compare ⟨rl_s (Nat.le_of_ble_eq_true rfl), rl_s (Nat.le_of_ble_eq_true rfl)⟩) hk (va_P_nil) rfl hl.1 rfl (Nat.le_of_ble_eq_true rfl) d_ST_compareParts_215 ⟨Nat.zero_le _, Nat.zero_le _⟩ ?_
            exact W.iret (v := tw_JI_compare 1 0) hx hb hr (fun t ht hW => ⟨tw_JI_compare 1 0, rfl, (by rw [hV, tw_ST_compareParts_h52, if_neg c_2, if_pos c_6, if_neg c_7, if_pos c_9]; first | done | rfl), ht⟩) (fun _ h => by cases h) d_ST_compareParts_218
          · refine lv_iconst (v := 1) hx hb d_ST_compareParts_210 (by decide) ?_
            refine lv_goto (tgt := 215) hx hb d_ST_compareParts_211 (by decide) ?_
            refine rd_S (val := tw_JI_compare 1 1) (As := [.int 1, .int 1]) (rest := []) ⟨hx, hb, hml, hown, hT⟩ (c_JI_compare l D cB cI 1 1) (va_cwS 2 hT (gS_of k_412 k_413 k_14 kc_JI_compare) rfl rfl rfl hd_JI_compare ⟨rl_s (Nat.le_of_ble_eq_true rfl), rl_s (Nat.le_of_ble_eq_true rfl)⟩) hk (va_P_nil) rfl hl.1 rfl (Nat.le_of_ble_eq_true rfl) d_ST_compareParts_215 ⟨Nat.zero_le _, Nat.zero_le _⟩ ?_
            exact W.iret (v := tw_JI_compare 1 1) hx hb hr (fun t ht hW => ⟨tw_JI_compare 1 1, rfl, (by rw [hV, tw_ST_compareParts_h52, if_neg c_2, if_pos c_6, if_neg c_7, if_neg c_9]; first | done | rfl), ht⟩) (fun _ h => by cases h) d_ST_compareParts_218
      · refine lv_iload hx hb d_ST_compareParts_67 (lv_at hl 6 rfl) ?_
        refine lv_iload hx hb d_ST_compareParts_69 (lv_at hl 4 rfl) ?_
        refine lv_icmp_ge (tgt := 191) hx hb d_ST_compareParts_71 (by decide) (fun c_10 => ?_) (fun c_10 => ?_)
        · refine lv_iload hx hb d_ST_compareParts_191 (lv_at hl 5 rfl) ?_
          refine lv_iload hx hb d_ST_compareParts_193 (lv_at hl 3 rfl) ?_
          refine lv_icmp_ge (tgt := 202) hx hb d_ST_compareParts_195 (by decide) (fun c_11 => ?_) (fun c_11 => ?_)
          · refine lv_iconst (v := 0) hx hb d_ST_compareParts_202 (by decide) ?_
            refine lv_iload hx hb d_ST_compareParts_203 (lv_at hl 6 rfl) ?_
            refine lv_iload hx hb d_ST_compareParts_205 (lv_at hl 4 rfl) ?_
            refine lv_icmp_ge (tgt := 214) hx hb d_ST_compareParts_207 (by decide) (fun c_12 => ?_) (fun c_12 => ?_)
            · refine lv_iconst (v := 0) hx hb d_ST_compareParts_214 (by decide) ?_
              refine rd_S (val := tw_JI_compare 0 0) (As := [.int 0, .int 0]) (rest := []) ⟨hx, hb, hml, hown, hT⟩ (c_JI_compare l D cB cI 0 0) (va_cwS 2 hT (gS_of k_412 k_413 k_14 kc_JI_compare) rfl rfl rfl hd_JI_compare ⟨rl_s (Nat.le_of_ble_eq_true rfl), rl_s (Nat.le_of_ble_eq_true rfl)⟩) hk (va_P_nil) rfl hl.1 rfl (Nat.le_of_ble_eq_true rfl) d_ST_compareParts_215 ⟨Nat.zero_le _, Nat.zero_le _⟩ ?_
              exact W.iret (v := tw_JI_compare 0 0) hx hb hr (fun t ht hW => ⟨tw_JI_compare 0 0, rfl, (by rw [hV, tw_ST_compareParts_h52, if_neg c_2, if_neg c_6, if_pos c_10, if_pos c_11, if_pos c_12]; first | done | rfl), ht⟩) (fun _ h => by cases h) d_ST_compareParts_218
            · refine lv_iconst (v := 1) hx hb d_ST_compareParts_210 (by decide) ?_
              refine lv_goto (tgt := 215) hx hb d_ST_compareParts_211 (by decide) ?_
              refine rd_S (val := tw_JI_compare 0 1) (As := [.int 0, .int 1]) (rest := []) ⟨hx, hb, hml, hown, hT⟩ (c_JI_compare l D cB cI 0 1) (va_cwS 2 hT (gS_of k_412 k_413 k_14 kc_JI_compare) rfl rfl rfl hd_JI_compare ⟨rl_s (Nat.le_of_ble_eq_true rfl), rl_s (Nat.le_of_ble_eq_true rfl)⟩) hk (va_P_nil) rfl hl.1 rfl (Nat.le_of_ble_eq_true rfl) d_ST_compareParts_215 ⟨Nat.zero_le _, Nat.zero_le _⟩ ?_
              exact W.iret (v := tw_JI_compare 0 1) hx hb hr (fun t ht hW => ⟨tw_JI_compare 0 1, rfl, (by rw [hV, tw_ST_compareParts_h52, if_neg c_2, if_neg c_6, if_pos c_10, if_pos c_11, if_neg c_12]; first | done | rfl), ht⟩) (fun _ h => by cases h) d_ST_compareParts_218
          · refine lv_iconst (v := 1) hx hb d_ST_compareParts_198 (by decide) ?_
            refine lv_goto (tgt := 203) hx hb d_ST_compareParts_199 (by decide) ?_
            refine lv_iload hx hb d_ST_compareParts_203 (lv_at hl 6 rfl) ?_
            refine lv_iload hx hb d_ST_compareParts_205 (lv_at hl 4 rfl) ?_
            refine lv_icmp_ge (tgt := 214) hx hb d_ST_compareParts_207 (by decide) (fun c_13 => ?_) (fun c_13 => ?_)
            · refine lv_iconst (v := 0) hx hb d_ST_compareParts_214 (by decide) ?_
              refine rd_S (val := tw_JI_compare 1 0) (As := [.int 1, .int 0]) (rest := []) ⟨hx, hb, hml, hown, hT⟩ (c_JI_compare l D cB cI 1 0) (va_cwS 2 hT (gS_of k_412 k_413 k_14 kc_JI_compare) rfl rfl rfl hd_JI_compare ⟨rl_s (Nat.le_of_ble_eq_true rfl), rl_s (Nat.le_of_ble_eq_true rfl)⟩) hk (va_P_nil) rfl hl.1 rfl (Nat.le_of_ble_eq_true rfl) d_ST_compareParts_215 ⟨Nat.zero_le _, Nat.zero_le _⟩ ?_
              exact W.iret (v := tw_JI_compare 1 0) hx hb hr (fun t ht hW => ⟨tw_JI_compare 1 0, rfl, (by rw [hV, tw_ST_compareParts_h52, if_neg c_2, if_neg c_6, if_pos c_10, if_neg c_11, if_pos c_13]; first | done | rfl), ht⟩) (fun _ h => by cases h) d_ST_compareParts_218
            · refine lv_iconst (v := 1) hx hb d_ST_compareParts_210 (by decide) ?_
              refine lv_goto (tgt := 215) hx hb d_ST_compareParts_211 (by decide) ?_
              refine rd_S (val := tw_JI_compare 1 1) (As := [.int 1, .int 1]) (rest := []) ⟨hx, hb, hml, hown, hT⟩ (c_JI_compare l D cB cI 1 1) (va_cwS 2 hT (gS_of k_412 k_413 k_14 kc_JI_compare) rfl rfl rfl hd_JI_compare ⟨rl_s (Nat.le_of_ble_eq_true rfl), rl_s (Nat.le_of_ble_eq_true rfl)⟩) hk (va_P_nil) rfl hl.1 rfl (Nat.le_of_ble_eq_true rfl) d_ST_compareParts_215 ⟨Nat.zero_le _, Nat.zero_le _⟩ ?_
              exact W.iret (v := tw_JI_compare 1 1) hx hb hr (fun t ht hW => ⟨tw_JI_compare 1 1, rfl, (by rw [hV, tw_ST_compareParts_h52, if_neg c_2, if_neg c_6, if_pos c_10, if_neg c_11, if_neg c_13]; first | done | rfl), ht⟩) (fun _ h => by cases h) d_ST_compareParts_218
        · refine lv_aload_n hx hb d_ST_compareParts_74 rfl (lv_at hl 0 rfl) ?_
          refine lv_iload hx hb d_ST_compareParts_75 (lv_at hl 5 rfl) ?_
          refine rd_V (val := tw_ST_valueOf b x7) (As := [.int x7]) (rest := []) ⟨hx, hb, hml, hown, hT⟩ (c_ST_valueOf l D cB cI aS aB b x7) (cwV 1 hT (gV_of k_485 k_399 k_400 k_2 kc_ST_valueOf) rfl rfl rfl hd_ST_valueOf ⟨rl_s (Nat.le_of_ble_eq_true rfl), rl_s (Nat.le_of_ble_eq_true rfl)⟩) hk hP (q0 := 0) rfl rfl rfl rfl hl.1 rfl (Nat.le_of_ble_eq_true rfl) d_ST_compareParts_77 ⟨Nat.zero_le _, Nat.zero_le _⟩ ?_
          refine lv_istore (lv' := [(10, .int (tw_ST_valueOf b x7)), (0, .ref aS), (3, .int p2), (4, .int x4), (5, .int x5), (6, .int x6), (7, .int x7), (8, .int x8), (9, .int x9)]) hx hb d_ST_compareParts_80 hl (by decide) rfl (fun ls hl => ?_)
          refine lv_aload_n hx hb d_ST_compareParts_82 rfl (lv_at hl 1 rfl) ?_
          refine lv_iload hx hb d_ST_compareParts_83 (lv_at hl 7 rfl) ?_
          refine rd_V (val := tw_ST_valueOf b x8) (As := [.int x8]) (rest := []) ⟨hx, hb, hml, hown, hT⟩ (c_ST_valueOf l D cB cI aS aB b x8) (cwV 1 hT (gV_of k_485 k_399 k_400 k_2 kc_ST_valueOf) rfl rfl rfl hd_ST_valueOf ⟨rl_s (Nat.le_of_ble_eq_true rfl), rl_s (Nat.le_of_ble_eq_true rfl)⟩) hk hP (q0 := 0) rfl rfl rfl rfl hl.1 rfl (Nat.le_of_ble_eq_true rfl) d_ST_compareParts_85 ⟨Nat.zero_le _, Nat.zero_le _⟩ ?_
          refine lv_istore (lv' := [(11, .int (tw_ST_valueOf b x8)), (10, .int (tw_ST_valueOf b x7)), (0, .ref aS), (3, .int p2), (4, .int x4), (5, .int x5), (6, .int x6), (7, .int x7), (8, .int x8), (9, .int x9)]) hx hb d_ST_compareParts_88 hl (by decide) rfl (fun ls hl => ?_)
          refine lv_iload hx hb d_ST_compareParts_90 (lv_at hl 1 rfl) ?_
          refine rd_S (val := tw_ST_classOf (tw_ST_valueOf b x7)) (As := [.int (tw_ST_valueOf b x7)]) (rest := []) ⟨hx, hb, hml, hown, hT⟩ (c_ST_classOf l D cB cI (tw_ST_valueOf b x7)) (va_cwS 1 hT (gS_of k_779 k_780 k_2 kc_ST_classOf) rfl rfl rfl hd_ST_classOf ⟨rl_s (Nat.le_of_ble_eq_true rfl), rl_s (Nat.le_of_ble_eq_true rfl)⟩) hk (va_P_nil) rfl hl.1 rfl (Nat.le_of_ble_eq_true rfl) d_ST_compareParts_92 ⟨Nat.zero_le _, Nat.zero_le _⟩ ?_
          refine lv_iload hx hb d_ST_compareParts_95 (lv_at hl 0 rfl) ?_
          refine rd_S (val := tw_ST_classOf (tw_ST_valueOf b x8)) (As := [.int (tw_ST_valueOf b x8)]) (rest := [.int (tw_ST_classOf (tw_ST_valueOf b x7))]) ⟨hx, hb, hml, hown, hT⟩ (c_ST_classOf l D cB cI (tw_ST_valueOf b x8)) (va_cwS 1 hT (gS_of k_779 k_780 k_2 kc_ST_classOf) rfl rfl rfl hd_ST_classOf ⟨rl_s (Nat.le_of_ble_eq_true rfl), rl_s (Nat.le_of_ble_eq_true rfl)⟩) hk (va_P_nil) rfl hl.1 rfl (Nat.le_of_ble_eq_true rfl) d_ST_compareParts_97 ⟨Nat.zero_le _, Nat.zero_le _⟩ ?_
          refine rd_S (val := tw_JI_compare (tw_ST_classOf (tw_ST_valueOf b x7)) (tw_ST_classOf (tw_ST_valueOf b x8))) (As := [.int (tw_ST_classOf (tw_ST_valueOf b x7)), .int (tw_ST_classOf (tw_ST_valueOf b x8))]) (rest := []) ⟨hx, hb, hml, hown, hT⟩ (c_JI_compare l D cB cI (tw_ST_classOf (tw_ST_valueOf b x7)) (tw_ST_classOf (tw_ST_valueOf b x8))) (va_cwS 2 hT (gS_of k_412 k_413 k_14 kc_JI_compare) rfl rfl rfl hd_JI_compare ⟨rl_s (Nat.le_of_ble_eq_true rfl), rl_s (Nat.le_of_ble_eq_true rfl)⟩) hk (va_P_nil) rfl hl.1 rfl (Nat.le_of_ble_eq_true rfl) d_ST_compareParts_100 ⟨Nat.zero_le _, Nat.zero_le _⟩ ?_
          refine lv_istore (lv' := [(12, .int (tw_JI_compare (tw_ST_classOf (tw_ST_valueOf b x7)) (tw_ST_classOf (tw_ST_valueOf b x8)))), (11, .int (tw_ST_valueOf b x8)), (10, .int (tw_ST_valueOf b x7)), (0, .ref aS), (3, .int p2), (4, .int x4), (5, .int x5), (6, .int x6), (7, .int x7), (8, .int x8), (9, .int x9)]) hx hb d_ST_compareParts_103 hl (by decide) rfl (fun ls hl => ?_)
          refine lv_iload hx hb d_ST_compareParts_105 (lv_at hl 0 rfl) ?_
          refine lv_if_ne (tgt := 143) hx hb d_ST_compareParts_107 (by decide) (fun c_14 => ?_) (fun c_14 => ?_)
          · refine lv_iload hx hb d_ST_compareParts_143 (lv_at hl 0 rfl) ?_
            refine lv_if_ne (tgt := 161) hx hb d_ST_compareParts_145 (by decide) (fun c_15 => ?_) (fun c_15 => ?_)
            · refine lv_iload hx hb d_ST_compareParts_161 (lv_at hl 0 rfl) ?_
              refine lv_if_eq (tgt := 169) hx hb d_ST_compareParts_163 (by decide) (fun c_16 => ?_) (fun c_16 => ?_)
              · refine lv_aload_n hx hb d_ST_compareParts_169 rfl (lv_at hl 3 rfl) ?_
                refine lv_iload hx hb d_ST_compareParts_170 (lv_at hl 2 rfl) ?_
                refine rd_V (val := tw_ST_endOf b (tw_ST_valueOf b x7)) (As := [.int (tw_ST_valueOf b x7)]) (rest := []) ⟨hx, hb, hml, hown, hT⟩ (c_ST_endOf l D cB cI aS aB b (tw_ST_valueOf b x7)) (cwV 1 hT (gV_of k_483 k_416 k_417 k_2 kc_ST_endOf) rfl rfl rfl hd_ST_endOf ⟨rl_s (Nat.le_of_ble_eq_true rfl), rl_s (Nat.le_of_ble_eq_true rfl)⟩) hk hP (q0 := 0) rfl rfl rfl rfl hl.1 rfl (Nat.le_of_ble_eq_true rfl) d_ST_compareParts_172 ⟨Nat.zero_le _, Nat.zero_le _⟩ ?_
                refine lv_istore (lv' := [(7, .int (tw_ST_endOf b (tw_ST_valueOf b x7))), (12, .int (tw_JI_compare (tw_ST_classOf (tw_ST_valueOf b x7)) (tw_ST_classOf (tw_ST_valueOf b x8)))), (11, .int (tw_ST_valueOf b x8)), (10, .int (tw_ST_valueOf b x7)), (0, .ref aS), (3, .int p2), (4, .int x4), (5, .int x5), (6, .int x6), (8, .int x8), (9, .int x9)]) hx hb d_ST_compareParts_175 hl (by decide) rfl (fun ls hl => ?_)
                refine lv_aload_n hx hb d_ST_compareParts_177 rfl (lv_at hl 4 rfl) ?_
                refine lv_iload hx hb d_ST_compareParts_178 (lv_at hl 2 rfl) ?_
                refine rd_V (val := tw_ST_endOf b (tw_ST_valueOf b x8)) (As := [.int (tw_ST_valueOf b x8)]) (rest := []) ⟨hx, hb, hml, hown, hT⟩ (c_ST_endOf l D cB cI aS aB b (tw_ST_valueOf b x8)) (cwV 1 hT (gV_of k_483 k_416 k_417 k_2 kc_ST_endOf) rfl rfl rfl hd_ST_endOf ⟨rl_s (Nat.le_of_ble_eq_true rfl), rl_s (Nat.le_of_ble_eq_true rfl)⟩) hk hP (q0 := 0) rfl rfl rfl rfl hl.1 rfl (Nat.le_of_ble_eq_true rfl) d_ST_compareParts_180 ⟨Nat.zero_le _, Nat.zero_le _⟩ ?_
                refine lv_istore (lv' := [(8, .int (tw_ST_endOf b (tw_ST_valueOf b x8))), (7, .int (tw_ST_endOf b (tw_ST_valueOf b x7))), (12, .int (tw_JI_compare (tw_ST_classOf (tw_ST_valueOf b x7)) (tw_ST_classOf (tw_ST_valueOf b x8)))), (11, .int (tw_ST_valueOf b x8)), (10, .int (tw_ST_valueOf b x7)), (0, .ref aS), (3, .int p2), (4, .int x4), (5, .int x5), (6, .int x6), (9, .int x9)]) hx hb d_ST_compareParts_183 hl (by decide) rfl (fun ls hl => ?_)
                refine lv_iinc (v := x9 + 1) (lv' := [(9, .int (x9 + 1)), (8, .int (tw_ST_endOf b (tw_ST_valueOf b x8))), (7, .int (tw_ST_endOf b (tw_ST_valueOf b x7))), (12, .int (tw_JI_compare (tw_ST_classOf (tw_ST_valueOf b x7)) (tw_ST_classOf (tw_ST_valueOf b x8)))), (11, .int (tw_ST_valueOf b x8)), (10, .int (tw_ST_valueOf b x7)), (0, .ref aS), (3, .int p2), (4, .int x4), (5, .int x5), (6, .int x6)]) hx hb d_ST_compareParts_185 hl (k := 10) rfl rfl (by decide) rfl (fun ls hl => ?_)
                refine lv_goto (tgt := 52) hx hb d_ST_compareParts_188 (by decide) ?_
                exact ih (tw_ST_endOf b (tw_ST_valueOf b x7)) (tw_ST_endOf b (tw_ST_valueOf b x8)) (x9 + 1) (lp_up hm c_2) (by rw [hV, tw_ST_compareParts_h52, if_neg c_2, if_neg c_6, if_neg c_10, if_neg c_14, if_neg c_15, if_pos c_16]) ls (lv_sub hl [6, 7, 8, 9, 10, 2, 1, 0] rfl)
              · refine lv_iload hx hb d_ST_compareParts_166 (lv_at hl 0 rfl) ?_
                exact W.iret (v := tw_JI_compare (tw_ST_classOf (tw_ST_valueOf b x7)) (tw_ST_classOf (tw_ST_valueOf b x8))) hx hb hr (fun t ht hW => ⟨tw_JI_compare (tw_ST_classOf (tw_ST_valueOf b x7)) (tw_ST_classOf (tw_ST_valueOf b x8)), rfl, (by rw [hV, tw_ST_compareParts_h52, if_neg c_2, if_neg c_6, if_neg c_10, if_neg c_14, if_neg c_15, if_neg c_16]; first | done | rfl), ht⟩) (fun _ h => by cases h) d_ST_compareParts_168
            · refine lv_aload_n hx hb d_ST_compareParts_148 rfl (lv_at hl 3 rfl) ?_
              refine lv_iload hx hb d_ST_compareParts_149 (lv_at hl 2 rfl) ?_
              refine lv_iload hx hb d_ST_compareParts_151 (lv_at hl 1 rfl) ?_
              refine lv_iload_n hx hb d_ST_compareParts_153 rfl (lv_at hl 4 rfl) ?_
              refine lv_iconst (v := 1) hx hb d_ST_compareParts_154 (by decide) ?_
              refine lv_iadd hx hb d_ST_compareParts_155 ?_
              refine rd_V (val := fc (tw_ST_valueOf b x7) (tw_ST_valueOf b x8)) (As := [.int (tw_ST_valueOf b x7), .int (tw_ST_valueOf b x8), .int (p2 + 1)]) (rest := []) ⟨hx, hb, hml, hown, hT⟩ (hc (tw_ST_valueOf b x7) (tw_ST_valueOf b x8)) (cwV 3 hT (gV_of k_794 k_784 k_785 k_2 kc_ST_compare) rfl rfl rfl hd_ST_compare ⟨rl_f (Nat.le_of_ble_eq_true rfl), rl_l (Nat.le_of_ble_eq_true rfl)⟩) hk hP (q0 := 0) rfl rfl rfl rfl hl.1 rfl (Nat.le_of_ble_eq_true rfl) d_ST_compareParts_156 ⟨Nat.zero_le _, Nat.zero_le _⟩ ?_
              refine lv_istore (lv' := [(12, .int (fc (tw_ST_valueOf b x7) (tw_ST_valueOf b x8))), (11, .int (tw_ST_valueOf b x8)), (10, .int (tw_ST_valueOf b x7)), (0, .ref aS), (3, .int p2), (4, .int x4), (5, .int x5), (6, .int x6), (7, .int x7), (8, .int x8), (9, .int x9)]) hx hb d_ST_compareParts_159 hl (by decide) rfl (fun ls hl => ?_)
              refine lv_iload hx hb d_ST_compareParts_161 (lv_at hl 0 rfl) ?_
              refine lv_if_eq (tgt := 169) hx hb d_ST_compareParts_163 (by decide) (fun c_17 => ?_) (fun c_17 => ?_)
              · refine lv_aload_n hx hb d_ST_compareParts_169 rfl (lv_at hl 3 rfl) ?_
                refine lv_iload hx hb d_ST_compareParts_170 (lv_at hl 2 rfl) ?_
                refine rd_V (val := tw_ST_endOf b (tw_ST_valueOf b x7)) (As := [.int (tw_ST_valueOf b x7)]) (rest := []) ⟨hx, hb, hml, hown, hT⟩ (c_ST_endOf l D cB cI aS aB b (tw_ST_valueOf b x7)) (cwV 1 hT (gV_of k_483 k_416 k_417 k_2 kc_ST_endOf) rfl rfl rfl hd_ST_endOf ⟨rl_s (Nat.le_of_ble_eq_true rfl), rl_s (Nat.le_of_ble_eq_true rfl)⟩) hk hP (q0 := 0) rfl rfl rfl rfl hl.1 rfl (Nat.le_of_ble_eq_true rfl) d_ST_compareParts_172 ⟨Nat.zero_le _, Nat.zero_le _⟩ ?_
                refine lv_istore (lv' := [(7, .int (tw_ST_endOf b (tw_ST_valueOf b x7))), (12, .int (fc (tw_ST_valueOf b x7) (tw_ST_valueOf b x8))), (11, .int (tw_ST_valueOf b x8)), (10, .int (tw_ST_valueOf b x7)), (0, .ref aS), (3, .int p2), (4, .int x4), (5, .int x5), (6, .int x6), (8, .int x8), (9, .int x9)]) hx hb d_ST_compareParts_175 hl (by decide) rfl (fun ls hl => ?_)
                refine lv_aload_n hx hb d_ST_compareParts_177 rfl (lv_at hl 4 rfl) ?_
                refine lv_iload hx hb d_ST_compareParts_178 (lv_at hl 2 rfl) ?_
                refine rd_V (val := tw_ST_endOf b (tw_ST_valueOf b x8)) (As := [.int (tw_ST_valueOf b x8)]) (rest := []) ⟨hx, hb, hml, hown, hT⟩ (c_ST_endOf l D cB cI aS aB b (tw_ST_valueOf b x8)) (cwV 1 hT (gV_of k_483 k_416 k_417 k_2 kc_ST_endOf) rfl rfl rfl hd_ST_endOf ⟨rl_s (Nat.le_of_ble_eq_true rfl), rl_s (Nat.le_of_ble_eq_true rfl)⟩) hk hP (q0 := 0) rfl rfl rfl rfl hl.1 rfl (Nat.le_of_ble_eq_true rfl) d_ST_compareParts_180 ⟨Nat.zero_le _, Nat.zero_le _⟩ ?_
                refine lv_istore (lv' := [(8, .int (tw_ST_endOf b (tw_ST_valueOf b x8))), (7, .int (tw_ST_endOf b (tw_ST_valueOf b x7))), (12, .int (fc (tw_ST_valueOf b x7) (tw_ST_valueOf b x8))), (11, .int (tw_ST_valueOf b x8)), (10, .int (tw_ST_valueOf b x7)), (0, .ref aS), (3, .int p2), (4, .int x4), (5, .int x5), (6, .int x6), (9, .int x9)]) hx hb d_ST_compareParts_183 hl (by decide) rfl (fun ls hl => ?_)
                refine lv_iinc (v := x9 + 1) (lv' := [(9, .int (x9 + 1)), (8, .int (tw_ST_endOf b (tw_ST_valueOf b x8))), (7, .int (tw_ST_endOf b (tw_ST_valueOf b x7))), (12, .int (fc (tw_ST_valueOf b x7) (tw_ST_valueOf b x8))), (11, .int (tw_ST_valueOf b x8)), (10, .int (tw_ST_valueOf b x7)), (0, .ref aS), (3, .int p2), (4, .int x4), (5, .int x5), (6, .int x6)]) hx hb d_ST_compareParts_185 hl (k := 10) rfl rfl (by decide) rfl (fun ls hl => ?_)
                refine lv_goto (tgt := 52) hx hb d_ST_compareParts_188 (by decide) ?_
                exact ih (tw_ST_endOf b (tw_ST_valueOf b x7)) (tw_ST_endOf b (tw_ST_valueOf b x8)) (x9 + 1) (lp_up hm c_2) (by rw [hV, tw_ST_compareParts_h52, if_neg c_2, if_neg c_6, if_neg c_10, if_neg c_14, if_pos c_15, if_pos c_17]) ls (lv_sub hl [6, 7, 8, 9, 10, 2, 1, 0] rfl)
              · refine lv_iload hx hb d_ST_compareParts_166 (lv_at hl 0 rfl) ?_
                exact W.iret (v := fc (tw_ST_valueOf b x7) (tw_ST_valueOf b x8)) hx hb hr (fun t ht hW => ⟨fc (tw_ST_valueOf b x7) (tw_ST_valueOf b x8), rfl, (by rw [hV, tw_ST_compareParts_h52, if_neg c_2, if_neg c_6, if_neg c_10, if_neg c_14, if_pos c_15, if_neg c_17]; first | done | rfl), ht⟩) (fun _ h => by cases h) d_ST_compareParts_168
          · refine lv_iload hx hb d_ST_compareParts_110 (lv_at hl 5 rfl) ?_
            refine lv_if_eq (tgt := 143) hx hb d_ST_compareParts_112 (by decide) (fun c_18 => ?_) (fun c_18 => ?_)
            · refine lv_iload hx hb d_ST_compareParts_143 (lv_at hl 0 rfl) ?_
              refine lv_if_ne (tgt := 161) hx hb d_ST_compareParts_145 (by decide) (fun c_19 => ?_) (fun c_19 => ?_)
              · refine lv_iload hx hb d_ST_compareParts_161 (lv_at hl 0 rfl) ?_
                refine lv_if_eq (tgt := 169) hx hb d_ST_compareParts_163 (by decide) (fun c_20 => ?_) (fun c_20 => ?_)
                · refine lv_aload_n hx hb d_ST_compareParts_169 rfl (lv_at hl 3 rfl) ?_
                  refine lv_iload hx hb d_ST_compareParts_170 (lv_at hl 2 rfl) ?_
                  refine rd_V (val := tw_ST_endOf b (tw_ST_valueOf b x7)) (As := [.int (tw_ST_valueOf b x7)]) (rest := []) ⟨hx, hb, hml, hown, hT⟩ (c_ST_endOf l D cB cI aS aB b (tw_ST_valueOf b x7)) (cwV 1 hT (gV_of k_483 k_416 k_417 k_2 kc_ST_endOf) rfl rfl rfl hd_ST_endOf ⟨rl_s (Nat.le_of_ble_eq_true rfl), rl_s (Nat.le_of_ble_eq_true rfl)⟩) hk hP (q0 := 0) rfl rfl rfl rfl hl.1 rfl (Nat.le_of_ble_eq_true rfl) d_ST_compareParts_172 ⟨Nat.zero_le _, Nat.zero_le _⟩ ?_
                  refine lv_istore (lv' := [(7, .int (tw_ST_endOf b (tw_ST_valueOf b x7))), (12, .int (tw_JI_compare (tw_ST_classOf (tw_ST_valueOf b x7)) (tw_ST_classOf (tw_ST_valueOf b x8)))), (11, .int (tw_ST_valueOf b x8)), (10, .int (tw_ST_valueOf b x7)), (0, .ref aS), (3, .int p2), (4, .int x4), (5, .int x5), (6, .int x6), (8, .int x8), (9, .int x9)]) hx hb d_ST_compareParts_175 hl (by decide) rfl (fun ls hl => ?_)
                  refine lv_aload_n hx hb d_ST_compareParts_177 rfl (lv_at hl 4 rfl) ?_
                  refine lv_iload hx hb d_ST_compareParts_178 (lv_at hl 2 rfl) ?_
                  refine rd_V (val := tw_ST_endOf b (tw_ST_valueOf b x8)) (As := [.int (tw_ST_valueOf b x8)]) (rest := []) ⟨hx, hb, hml, hown, hT⟩ (c_ST_endOf l D cB cI aS aB b (tw_ST_valueOf b x8)) (cwV 1 hT (gV_of k_483 k_416 k_417 k_2 kc_ST_endOf) rfl rfl rfl hd_ST_endOf ⟨rl_s (Nat.le_of_ble_eq_true rfl), rl_s (Nat.le_of_ble_eq_true rfl)⟩) hk hP (q0 := 0) rfl rfl rfl rfl hl.1 rfl (Nat.le_of_ble_eq_true rfl) d_ST_compareParts_180 ⟨Nat.zero_le _, Nat.zero_le _⟩ ?_
                  refine lv_istore (lv' := [(8, .int (tw_ST_endOf b (tw_ST_valueOf b x8))), (7, .int (tw_ST_endOf b (tw_ST_valueOf b x7))), (12, .int (tw_JI_compare (tw_ST_classOf (tw_ST_valueOf b x7)) (tw_ST_classOf (tw_ST_valueOf b x8)))), (11, .int (tw_ST_valueOf b x8)), (10, .int (tw_ST_valueOf b x7)), (0, .ref aS), (3, .int p2), (4, .int x4), (5, .int x5), (6, .int x6), (9, .int x9)]) hx hb d_ST_compareParts_183 hl (by decide) rfl (fun ls hl => ?_)
                  refine lv_iinc (v := x9 + 1) (lv' := [(9, .int (x9 + 1)), (8, .int (tw_ST_endOf b (tw_ST_valueOf b x8))), (7, .int (tw_ST_endOf b (tw_ST_valueOf b x7))), (12, .int (tw_JI_compare (tw_ST_classOf (tw_ST_valueOf b x7)) (tw_ST_classOf (tw_ST_valueOf b x8)))), (11, .int (tw_ST_valueOf b x8)), (10, .int (tw_ST_valueOf b x7)), (0, .ref aS), (3, .int p2), (4, .int x4), (5, .int x5), (6, .int x6)]) hx hb d_ST_compareParts_185 hl (k := 10) rfl rfl (by decide) rfl (fun ls hl => ?_)
                  refine lv_goto (tgt := 52) hx hb d_ST_compareParts_188 (by decide) ?_
                  exact ih (tw_ST_endOf b (tw_ST_valueOf b x7)) (tw_ST_endOf b (tw_ST_valueOf b x8)) (x9 + 1) (lp_up hm c_2) (by rw [hV, tw_ST_compareParts_h52, if_neg c_2, if_neg c_6, if_neg c_10, if_pos c_14, if_pos c_18, if_neg c_19, if_pos c_20]) ls (lv_sub hl [6, 7, 8, 9, 10, 2, 1, 0] rfl)
                · refine lv_iload hx hb d_ST_compareParts_166 (lv_at hl 0 rfl) ?_
                  exact W.iret (v := tw_JI_compare (tw_ST_classOf (tw_ST_valueOf b x7)) (tw_ST_classOf (tw_ST_valueOf b x8))) hx hb hr (fun t ht hW => ⟨tw_JI_compare (tw_ST_classOf (tw_ST_valueOf b x7)) (tw_ST_classOf (tw_ST_valueOf b x8)), rfl, (by rw [hV, tw_ST_compareParts_h52, if_neg c_2, if_neg c_6, if_neg c_10, if_pos c_14, if_pos c_18, if_neg c_19, if_neg c_20]; first | done | rfl), ht⟩) (fun _ h => by cases h) d_ST_compareParts_168
              · refine lv_aload_n hx hb d_ST_compareParts_148 rfl (lv_at hl 3 rfl) ?_
                refine lv_iload hx hb d_ST_compareParts_149 (lv_at hl 2 rfl) ?_
                refine lv_iload hx hb d_ST_compareParts_151 (lv_at hl 1 rfl) ?_
                refine lv_iload_n hx hb d_ST_compareParts_153 rfl (lv_at hl 4 rfl) ?_
                refine lv_iconst (v := 1) hx hb d_ST_compareParts_154 (by decide) ?_
                refine lv_iadd hx hb d_ST_compareParts_155 ?_
                refine rd_V (val := fc (tw_ST_valueOf b x7) (tw_ST_valueOf b x8)) (As := [.int (tw_ST_valueOf b x7), .int (tw_ST_valueOf b x8), .int (p2 + 1)]) (rest := []) ⟨hx, hb, hml, hown, hT⟩ (hc (tw_ST_valueOf b x7) (tw_ST_valueOf b x8)) (cwV 3 hT (gV_of k_794 k_784 k_785 k_2 kc_ST_compare) rfl rfl rfl hd_ST_compare ⟨rl_f (Nat.le_of_ble_eq_true rfl), rl_l (Nat.le_of_ble_eq_true rfl)⟩) hk hP (q0 := 0) rfl rfl rfl rfl hl.1 rfl (Nat.le_of_ble_eq_true rfl) d_ST_compareParts_156 ⟨Nat.zero_le _, Nat.zero_le _⟩ ?_
                refine lv_istore (lv' := [(12, .int (fc (tw_ST_valueOf b x7) (tw_ST_valueOf b x8))), (11, .int (tw_ST_valueOf b x8)), (10, .int (tw_ST_valueOf b x7)), (0, .ref aS), (3, .int p2), (4, .int x4), (5, .int x5), (6, .int x6), (7, .int x7), (8, .int x8), (9, .int x9)]) hx hb d_ST_compareParts_159 hl (by decide) rfl (fun ls hl => ?_)
                refine lv_iload hx hb d_ST_compareParts_161 (lv_at hl 0 rfl) ?_
                refine lv_if_eq (tgt := 169) hx hb d_ST_compareParts_163 (by decide) (fun c_21 => ?_) (fun c_21 => ?_)
                · refine lv_aload_n hx hb d_ST_compareParts_169 rfl (lv_at hl 3 rfl) ?_
                  refine lv_iload hx hb d_ST_compareParts_170 (lv_at hl 2 rfl) ?_
                  refine rd_V (val := tw_ST_endOf b (tw_ST_valueOf b x7)) (As := [.int (tw_ST_valueOf b x7)]) (rest := []) ⟨hx, hb, hml, hown, hT⟩ (c_ST_endOf l D cB cI aS aB b (tw_ST_valueOf b x7)) (cwV 1 hT (gV_of k_483 k_416 k_417 k_2 kc_ST_endOf) rfl rfl rfl hd_ST_endOf ⟨rl_s (Nat.le_of_ble_eq_true rfl), rl_s (Nat.le_of_ble_eq_true rfl)⟩) hk hP (q0 := 0) rfl rfl rfl rfl hl.1 rfl (Nat.le_of_ble_eq_true rfl) d_ST_compareParts_172 ⟨Nat.zero_le _, Nat.zero_le _⟩ ?_
                  refine lv_istore (lv' := [(7, .int (tw_ST_endOf b (tw_ST_valueOf b x7))), (12, .int (fc (tw_ST_valueOf b x7) (tw_ST_valueOf b x8))), (11, .int (tw_ST_valueOf b x8)), (10, .int (tw_ST_valueOf b x7)), (0, .ref aS), (3, .int p2), (4, .int x4), (5, .int x5), (6, .int x6), (8, .int x8), (9, .int x9)]) hx hb d_ST_compareParts_175 hl (by decide) rfl (fun ls hl => ?_)
                  refine lv_aload_n hx hb d_ST_compareParts_177 rfl (lv_at hl 4 rfl) ?_
                  refine lv_iload hx hb d_ST_compareParts_178 (lv_at hl 2 rfl) ?_
                  refine rd_V (val := tw_ST_endOf b (tw_ST_valueOf b x8)) (As := [.int (tw_ST_valueOf b x8)]) (rest := []) ⟨hx, hb, hml, hown, hT⟩ (c_ST_endOf l D cB cI aS aB b (tw_ST_valueOf b x8)) (cwV 1 hT (gV_of k_483 k_416 k_417 k_2 kc_ST_endOf) rfl rfl rfl hd_ST_endOf ⟨rl_s (Nat.le_of_ble_eq_true rfl), rl_s (Nat.le_of_ble_eq_true rfl)⟩) hk hP (q0 := 0) rfl rfl rfl rfl hl.1 rfl (Nat.le_of_ble_eq_true rfl) d_ST_compareParts_180 ⟨Nat.zero_le _, Nat.zero_le _⟩ ?_
                  refine lv_istore (lv' := [(8, .int (tw_ST_endOf b (tw_ST_valueOf b x8))), (7, .int (tw_ST_endOf b (tw_ST_valueOf b x7))), (12, .int (fc (tw_ST_valueOf b x7) (tw_ST_valueOf b x8))), (11, .int (tw_ST_valueOf b x8)), (10, .int (tw_ST_valueOf b x7)), (0, .ref aS), (3, .int p2), (4, .int x4), (5, .int x5), (6, .int x6), (9, .int x9)]) hx hb d_ST_compareParts_183 hl (by decide) rfl (fun ls hl => ?_)
                  refine lv_iinc (v := x9 + 1) (lv' := [(9, .int (x9 + 1)), (8, .int (tw_ST_endOf b (tw_ST_valueOf b x8))), (7, .int (tw_ST_endOf b (tw_ST_valueOf b x7))), (12, .int (fc (tw_ST_valueOf b x7) (tw_ST_valueOf b x8))), (11, .int (tw_ST_valueOf b x8)), (10, .int (tw_ST_valueOf b x7)), (0, .ref aS), (3, .int p2), (4, .int x4), (5, .int x5), (6, .int x6)]) hx hb d_ST_compareParts_185 hl (k := 10) rfl rfl (by decide) rfl (fun ls hl => ?_)
                  refine lv_goto (tgt := 52) hx hb d_ST_compareParts_188 (by decide) ?_
                  exact ih (tw_ST_endOf b (tw_ST_valueOf b x7)) (tw_ST_endOf b (tw_ST_valueOf b x8)) (x9 + 1) (lp_up hm c_2) (by rw [hV, tw_ST_compareParts_h52, if_neg c_2, if_neg c_6, if_neg c_10, if_pos c_14, if_pos c_18, if_pos c_19, if_pos c_21]) ls (lv_sub hl [6, 7, 8, 9, 10, 2, 1, 0] rfl)
                · refine lv_iload hx hb d_ST_compareParts_166 (lv_at hl 0 rfl) ?_
                  exact W.iret (v := fc (tw_ST_valueOf b x7) (tw_ST_valueOf b x8)) hx hb hr (fun t ht hW => ⟨fc (tw_ST_valueOf b x7) (tw_ST_valueOf b x8), rfl, (by rw [hV, tw_ST_compareParts_h52, if_neg c_2, if_neg c_6, if_neg c_10, if_pos c_14, if_pos c_18, if_pos c_19, if_neg c_21]; first | done | rfl), ht⟩) (fun _ h => by cases h) d_ST_compareParts_168
            · refine lv_aload_n hx hb d_ST_compareParts_115 rfl (lv_at hl 3 rfl) ?_
              refine lv_iload hx hb d_ST_compareParts_116 (lv_at hl 8 rfl) ?_
              refine lv_iconst (v := 1) hx hb d_ST_compareParts_118 (by decide) ?_
              refine lv_iadd hx hb d_ST_compareParts_119 ?_
              refine lv_iload hx hb d_ST_compareParts_120 (lv_at hl 2 rfl) ?_
              refine rd_S (val := tw_ST_placeOf (tw_ST_valueOf b x7)) (As := [.int (tw_ST_valueOf b x7)]) (rest := [.int (x7 + 1), .ref aS]) ⟨hx, hb, hml, hown, hT⟩ (c_ST_placeOf l D cB cI (tw_ST_valueOf b x7)) (va_cwS 1 hT (gS_of k_484 k_403 k_2 kc_ST_placeOf) rfl rfl rfl hd_ST_placeOf ⟨rl_s (Nat.le_of_ble_eq_true rfl), rl_s (Nat.le_of_ble_eq_true rfl)⟩) hk (va_P_nil) rfl hl.1 rfl (Nat.le_of_ble_eq_true rfl) d_ST_compareParts_122 ⟨Nat.zero_le _, Nat.zero_le _⟩ ?_
              refine lv_iconst (v := 1) hx hb d_ST_compareParts_125 (by decide) ?_
              refine lv_isub hx hb d_ST_compareParts_126 ?_
              refine lv_iload hx hb d_ST_compareParts_127 (lv_at hl 9 rfl) ?_
              refine lv_iconst (v := 1) hx hb d_ST_compareParts_129 (by decide) ?_
              refine lv_iadd hx hb d_ST_compareParts_130 ?_
              refine lv_iload hx hb d_ST_compareParts_131 (lv_at hl 1 rfl) ?_
              refine rd_S (val := tw_ST_placeOf (tw_ST_valueOf b x8)) (As := [.int (tw_ST_valueOf b x8)]) (rest := [.int (x8 + 1), .int ((tw_ST_placeOf (tw_ST_valueOf b x7)) - 1), .int (x7 + 1), .ref aS]) ⟨hx, hb, hml, hown, hT⟩ (c_ST_placeOf l D cB cI (tw_ST_valueOf b x8)) (va_cwS 1 hT (gS_of k_484 k_403 k_2 kc_ST_placeOf) rfl rfl rfl hd_ST_placeOf ⟨rl_s (Nat.le_of_ble_eq_true rfl), rl_s (Nat.le_of_ble_eq_true rfl)⟩) hk (va_P_nil) rfl hl.1 rfl (Nat.le_of_ble_eq_true rfl) d_ST_compareParts_133 ⟨Nat.zero_le _, Nat.zero_le _⟩ ?_
              refine lv_iconst (v := 1) hx hb d_ST_compareParts_136 (by decide) ?_
              refine lv_isub hx hb d_ST_compareParts_137 ?_
              refine rd_V (val := tw_ST_compareBytes b (x7 + 1) ((tw_ST_placeOf (tw_ST_valueOf b x7)) - 1) (x8 + 1) ((tw_ST_placeOf (tw_ST_valueOf b x8)) - 1)) (As := [.int (x7 + 1), .int ((tw_ST_placeOf (tw_ST_valueOf b x7)) - 1), .int (x8 + 1), .int ((tw_ST_placeOf (tw_ST_valueOf b x8)) - 1)]) (rest := []) ⟨hx, hb, hml, hown, hT⟩ (c_ST_compareBytes l D cB cI aS aB b (x7 + 1) ((tw_ST_placeOf (tw_ST_valueOf b x7)) - 1) (x8 + 1) ((tw_ST_placeOf (tw_ST_valueOf b x8)) - 1)) (cwV 4 hT (gV_of k_614 k_406 k_407 k_2 kc_ST_compareBytes) rfl rfl rfl hd_ST_compareBytes ⟨rl_s (Nat.le_of_ble_eq_true rfl), rl_s (Nat.le_of_ble_eq_true rfl)⟩) hk hP (q0 := 0) rfl rfl rfl rfl hl.1 rfl (Nat.le_of_ble_eq_true rfl) d_ST_compareParts_138 ⟨Nat.zero_le _, Nat.zero_le _⟩ ?_
              refine lv_istore (lv' := [(12, .int (tw_ST_compareBytes b (x7 + 1) ((tw_ST_placeOf (tw_ST_valueOf b x7)) - 1) (x8 + 1) ((tw_ST_placeOf (tw_ST_valueOf b x8)) - 1))), (11, .int (tw_ST_valueOf b x8)), (10, .int (tw_ST_valueOf b x7)), (0, .ref aS), (3, .int p2), (4, .int x4), (5, .int x5), (6, .int x6), (7, .int x7), (8, .int x8), (9, .int x9)]) hx hb d_ST_compareParts_141 hl (by decide) rfl (fun ls hl => ?_)
              refine lv_iload hx hb d_ST_compareParts_143 (lv_at hl 0 rfl) ?_
              refine lv_if_ne (tgt := 161) hx hb d_ST_compareParts_145 (by decide) (fun c_22 => ?_) (fun c_22 => ?_)
              · refine lv_iload hx hb d_ST_compareParts_161 (lv_at hl 0 rfl) ?_
                refine lv_if_eq (tgt := 169) hx hb d_ST_compareParts_163 (by decide) (fun c_23 => ?_) (fun c_23 => ?_)
                · refine lv_aload_n hx hb d_ST_compareParts_169 rfl (lv_at hl 3 rfl) ?_
                  refine lv_iload hx hb d_ST_compareParts_170 (lv_at hl 2 rfl) ?_
                  refine rd_V (val := tw_ST_endOf b (tw_ST_valueOf b x7)) (As := [.int (tw_ST_valueOf b x7)]) (rest := []) ⟨hx, hb, hml, hown, hT⟩ (c_ST_endOf l D cB cI aS aB b (tw_ST_valueOf b x7)) (cwV 1 hT (gV_of k_483 k_416 k_417 k_2 kc_ST_endOf) rfl rfl rfl hd_ST_endOf ⟨rl_s (Nat.le_of_ble_eq_true rfl), rl_s (Nat.le_of_ble_eq_true rfl)⟩) hk hP (q0 := 0) rfl rfl rfl rfl hl.1 rfl (Nat.le_of_ble_eq_true rfl) d_ST_compareParts_172 ⟨Nat.zero_le _, Nat.zero_le _⟩ ?_
                  refine lv_istore (lv' := [(7, .int (tw_ST_endOf b (tw_ST_valueOf b x7))), (12, .int (tw_ST_compareBytes b (x7 + 1) ((tw_ST_placeOf (tw_ST_valueOf b x7)) - 1) (x8 + 1) ((tw_ST_placeOf (tw_ST_valueOf b x8)) - 1))), (11, .int (tw_ST_valueOf b x8)), (10, .int (tw_ST_valueOf b x7)), (0, .ref aS), (3, .int p2), (4, .int x4), (5, .int x5), (6, .int x6), (8, .int x8), (9, .int x9)]) hx hb d_ST_compareParts_175 hl (by decide) rfl (fun ls hl => ?_)
                  refine lv_aload_n hx hb d_ST_compareParts_177 rfl (lv_at hl 4 rfl) ?_
                  refine lv_iload hx hb d_ST_compareParts_178 (lv_at hl 2 rfl) ?_
                  refine rd_V (val := tw_ST_endOf b (tw_ST_valueOf b x8)) (As := [.int (tw_ST_valueOf b x8)]) (rest := []) ⟨hx, hb, hml, hown, hT⟩ (c_ST_endOf l D cB cI aS aB b (tw_ST_valueOf b x8)) (cwV 1 hT (gV_of k_483 k_416 k_417 k_2 kc_ST_endOf) rfl rfl rfl hd_ST_endOf ⟨rl_s (Nat.le_of_ble_eq_true rfl), rl_s (Nat.le_of_ble_eq_true rfl)⟩) hk hP (q0 := 0) rfl rfl rfl rfl hl.1 rfl (Nat.le_of_ble_eq_true rfl) d_ST_compareParts_180 ⟨Nat.zero_le _, Nat.zero_le _⟩ ?_
                  refine lv_istore (lv' := [(8, .int (tw_ST_endOf b (tw_ST_valueOf b x8))), (7, .int (tw_ST_endOf b (tw_ST_valueOf b x7))), (12, .int (tw_ST_compareBytes b (x7 + 1) ((tw_ST_placeOf (tw_ST_valueOf b x7)) - 1) (x8 + 1) ((tw_ST_placeOf (tw_ST_valueOf b x8)) - 1))), (11, .int (tw_ST_valueOf b x8)), (10, .int (tw_ST_valueOf b x7)), (0, .ref aS), (3, .int p2), (4, .int x4), (5, .int x5), (6, .int x6), (9, .int x9)]) hx hb d_ST_compareParts_183 hl (by decide) rfl (fun ls hl => ?_)
                  refine lv_iinc (v := x9 + 1) (lv' := [(9, .int (x9 + 1)), (8, .int (tw_ST_endOf b (tw_ST_valueOf b x8))), (7, .int (tw_ST_endOf b (tw_ST_valueOf b x7))), (12, .int (tw_ST_compareBytes b (x7 + 1) ((tw_ST_placeOf (tw_ST_valueOf b x7)) - 1) (x8 + 1) ((tw_ST_placeOf (tw_ST_valueOf b x8)) - 1))), (11, .int (tw_ST_valueOf b x8)), (10, .int (tw_ST_valueOf b x7)), (0, .ref aS), (3, .int p2), (4, .int x4), (5, .int x5), (6, .int x6)]) hx hb d_ST_compareParts_185 hl (k := 10) rfl rfl (by decide) rfl (fun ls hl => ?_)
                  refine lv_goto (tgt := 52) hx hb d_ST_compareParts_188 (by decide) ?_
                  exact ih (tw_ST_endOf b (tw_ST_valueOf b x7)) (tw_ST_endOf b (tw_ST_valueOf b x8)) (x9 + 1) (lp_up hm c_2) (by rw [hV, tw_ST_compareParts_h52, if_neg c_2, if_neg c_6, if_neg c_10, if_pos c_14, if_neg c_18, if_neg c_22, if_pos c_23]) ls (lv_sub hl [6, 7, 8, 9, 10, 2, 1, 0] rfl)
                · refine lv_iload hx hb d_ST_compareParts_166 (lv_at hl 0 rfl) ?_
                  exact W.iret (v := tw_ST_compareBytes b (x7 + 1) ((tw_ST_placeOf (tw_ST_valueOf b x7)) - 1) (x8 + 1) ((tw_ST_placeOf (tw_ST_valueOf b x8)) - 1)) hx hb hr (fun t ht hW => ⟨tw_ST_compareBytes b (x7 + 1) ((tw_ST_placeOf (tw_ST_valueOf b x7)) - 1) (x8 + 1) ((tw_ST_placeOf (tw_ST_valueOf b x8)) - 1), rfl, (by rw [hV, tw_ST_compareParts_h52, if_neg c_2, if_neg c_6, if_neg c_10, if_pos c_14, if_neg c_18, if_neg c_22, if_neg c_23]; first | done | rfl), ht⟩) (fun _ h => by cases h) d_ST_compareParts_168
              · refine lv_aload_n hx hb d_ST_compareParts_148 rfl (lv_at hl 3 rfl) ?_
                refine lv_iload hx hb d_ST_compareParts_149 (lv_at hl 2 rfl) ?_
                refine lv_iload hx hb d_ST_compareParts_151 (lv_at hl 1 rfl) ?_
                refine lv_iload_n hx hb d_ST_compareParts_153 rfl (lv_at hl 4 rfl) ?_
                refine lv_iconst (v := 1) hx hb d_ST_compareParts_154 (by decide) ?_
                refine lv_iadd hx hb d_ST_compareParts_155 ?_
                refine rd_V (val := fc (tw_ST_valueOf b x7) (tw_ST_valueOf b x8)) (As := [.int (tw_ST_valueOf b x7), .int (tw_ST_valueOf b x8), .int (p2 + 1)]) (rest := []) ⟨hx, hb, hml, hown, hT⟩ (hc (tw_ST_valueOf b x7) (tw_ST_valueOf b x8)) (cwV 3 hT (gV_of k_794 k_784 k_785 k_2 kc_ST_compare) rfl rfl rfl hd_ST_compare ⟨rl_f (Nat.le_of_ble_eq_true rfl), rl_l (Nat.le_of_ble_eq_true rfl)⟩) hk hP (q0 := 0) rfl rfl rfl rfl hl.1 rfl (Nat.le_of_ble_eq_true rfl) d_ST_compareParts_156 ⟨Nat.zero_le _, Nat.zero_le _⟩ ?_
                refine lv_istore (lv' := [(12, .int (fc (tw_ST_valueOf b x7) (tw_ST_valueOf b x8))), (11, .int (tw_ST_valueOf b x8)), (10, .int (tw_ST_valueOf b x7)), (0, .ref aS), (3, .int p2), (4, .int x4), (5, .int x5), (6, .int x6), (7, .int x7), (8, .int x8), (9, .int x9)]) hx hb d_ST_compareParts_159 hl (by decide) rfl (fun ls hl => ?_)
                refine lv_iload hx hb d_ST_compareParts_161 (lv_at hl 0 rfl) ?_
                refine lv_if_eq (tgt := 169) hx hb d_ST_compareParts_163 (by decide) (fun c_24 => ?_) (fun c_24 => ?_)
                · refine lv_aload_n hx hb d_ST_compareParts_169 rfl (lv_at hl 3 rfl) ?_
                  refine lv_iload hx hb d_ST_compareParts_170 (lv_at hl 2 rfl) ?_
                  refine rd_V (val := tw_ST_endOf b (tw_ST_valueOf b x7)) (As := [.int (tw_ST_valueOf b x7)]) (rest := []) ⟨hx, hb, hml, hown, hT⟩ (c_ST_endOf l D cB cI aS aB b (tw_ST_valueOf b x7)) (cwV 1 hT (gV_of k_483 k_416 k_417 k_2 kc_ST_endOf) rfl rfl rfl hd_ST_endOf ⟨rl_s (Nat.le_of_ble_eq_true rfl), rl_s (Nat.le_of_ble_eq_true rfl)⟩) hk hP (q0 := 0) rfl rfl rfl rfl hl.1 rfl (Nat.le_of_ble_eq_true rfl) d_ST_compareParts_172 ⟨Nat.zero_le _, Nat.zero_le _⟩ ?_
                  refine lv_istore (lv' := [(7, .int (tw_ST_endOf b (tw_ST_valueOf b x7))), (12, .int (fc (tw_ST_valueOf b x7) (tw_ST_valueOf b x8))), (11, .int (tw_ST_valueOf b x8)), (10, .int (tw_ST_valueOf b x7)), (0, .ref aS), (3, .int p2), (4, .int x4), (5, .int x5), (6, .int x6), (8, .int x8), (9, .int x9)]) hx hb d_ST_compareParts_175 hl (by decide) rfl (fun ls hl => ?_)
                  refine lv_aload_n hx hb d_ST_compareParts_177 rfl (lv_at hl 4 rfl) ?_
                  refine lv_iload hx hb d_ST_compareParts_178 (lv_at hl 2 rfl) ?_
                  refine rd_V (val := tw_ST_endOf b (tw_ST_valueOf b x8)) (As := [.int (tw_ST_valueOf b x8)]) (rest := []) ⟨hx, hb, hml, hown, hT⟩ (c_ST_endOf l D cB cI aS aB b (tw_ST_valueOf b x8)) (cwV 1 hT (gV_of k_483 k_416 k_417 k_2 kc_ST_endOf) rfl rfl rfl hd_ST_endOf ⟨rl_s (Nat.le_of_ble_eq_true rfl), rl_s (Nat.le_of_ble_eq_true rfl)⟩) hk hP (q0 := 0) rfl rfl rfl rfl hl.1 rfl (Nat.le_of_ble_eq_true rfl) d_ST_compareParts_180 ⟨Nat.zero_le _, Nat.zero_le _⟩ ?_
                  refine lv_istore (lv' := [(8, .int (tw_ST_endOf b (tw_ST_valueOf b x8))), (7, .int (tw_ST_endOf b (tw_ST_valueOf b x7))), (12, .int (fc (tw_ST_valueOf b x7) (tw_ST_valueOf b x8))), (11, .int (tw_ST_valueOf b x8)), (10, .int (tw_ST_valueOf b x7)), (0, .ref aS), (3, .int p2), (4, .int x4), (5, .int x5), (6, .int x6), (9, .int x9)]) hx hb d_ST_compareParts_183 hl (by decide) rfl (fun ls hl => ?_)
                  refine lv_iinc (v := x9 + 1) (lv' := [(9, .int (x9 + 1)), (8, .int (tw_ST_endOf b (tw_ST_valueOf b x8))), (7, .int (tw_ST_endOf b (tw_ST_valueOf b x7))), (12, .int (fc (tw_ST_valueOf b x7) (tw_ST_valueOf b x8))), (11, .int (tw_ST_valueOf b x8)), (10, .int (tw_ST_valueOf b x7)), (0, .ref aS), (3, .int p2), (4, .int x4), (5, .int x5), (6, .int x6)]) hx hb d_ST_compareParts_185 hl (k := 10) rfl rfl (by decide) rfl (fun ls hl => ?_)
                  refine lv_goto (tgt := 52) hx hb d_ST_compareParts_188 (by decide) ?_
                  exact ih (tw_ST_endOf b (tw_ST_valueOf b x7)) (tw_ST_endOf b (tw_ST_valueOf b x8)) (x9 + 1) (lp_up hm c_2) (by rw [hV, tw_ST_compareParts_h52, if_neg c_2, if_neg c_6, if_neg c_10, if_pos c_14, if_neg c_18, if_pos c_22, if_pos c_24]) ls (lv_sub hl [6, 7, 8, 9, 10, 2, 1, 0] rfl)
                · refine lv_iload hx hb d_ST_compareParts_166 (lv_at hl 0 rfl) ?_
                  exact W.iret (v := fc (tw_ST_valueOf b x7) (tw_ST_valueOf b x8)) hx hb hr (fun t ht hW => ⟨fc (tw_ST_valueOf b x7) (tw_ST_valueOf b x8), rfl, (by rw [hV, tw_ST_compareParts_h52, if_neg c_2, if_neg c_6, if_neg c_10, if_pos c_14, if_neg c_18, if_pos c_22, if_neg c_24]; first | done | rfl), ht⟩) (fun _ h => by cases h) d_ST_compareParts_168
set_option maxHeartbeats 4000000 in
set_option maxRecDepth 100000 in
theorem c_ST_compareParts (l : Launch) (D : va_G) (cB cI : ClassId) (aS aB : Nat) (rF : Nat) (rL : Nat) (fc : Int32 → Int32 → Int32) (b : Nat → UInt8) (p0 : Int32) (p1 : Int32) (p2 : Int32) (hc : ∀ x y : Int32, Met l y_ST_compare mw_ST_compare { frames := rF, cells := 0, slots := 0, locals := rL } (va_Pc [.ref aS, .int x, .int y, .int (p2 + 1)] (fun U => va_P D vwCl [(aS, .inr (0, [.ref aB])), (aB, .inl (cB, 202000, .inl (by_ b)))] U.heap ∧ hk_ D cB cI U)) (vp_Si (fun r => r = fc x y)) 0 0 (fun _ => False)) : Met l y_ST_compareParts mw_ST_compareParts { frames := rF + 5, cells := 0, slots := 0, locals := rL + 120 } (va_Pc [.ref aS, .int p0, .int p1, .int p2] (fun U => va_P D vwCl [(aS, .inr (0, [.ref aB])), (aB, .inl (cB, 202000, .inl (by_ b)))] U.heap ∧ hk_ D cB cI U)) (vp_Si (fun r => r = tw_ST_compareParts fc b p0 p1 p2)) 0 0 (fun _ => False) := by
  refine Met.ofW (cc := b_ST_compareParts) (maxL := 13) (ret := (some .int)) (by decide) rfl ?_
  intro p e s m args below meth c s₁ B0 hml hv
  obtain ⟨rfl, hP, hk⟩ := hv
  have hK := hk.1
  have hN := hk.2.1
  have hx := B0.exec
  have hb := B0.bytes
  have hr := B0.returns
  have hT : ∀ w ∈ lw_g, w.before _ s = true := fun w h => atoms_spec (ws := mw_ST_compareParts) B0.pre w (List.mem_cons_of_mem _ h)
  have hown : s.vm.findClass R_ST = some m.cls := findClass_of_methodNamed B0.named
  have hlocks := B0.notSynchronized
  have hl := lv_entry ([.ref aS, .int p0, .int p1, .int p2]) (n := 13) (Nat.le_of_ble_eq_true rfl)
  rw [lg_entry_eq]
  generalize (lg_sl ([.ref aS, .int p0, .int p1, .int p2]) ++ List.replicate (13 - (lg_sl ([.ref aS, .int p0, .int p1, .int p2])).length) Slot.unset).toArray = ls at hl ⊢
  have hl : lv_has ls 13 [(0, .ref aS), (1, .int p0), (2, .int p1), (3, .int p2)] := hl
  have C0 : lc_C p s m meth c _ b_ST_compareParts 13 (some .int) R_ST lw_g := ⟨hx, hb, hml, hr, hown, hlocks, hT⟩
  refine lv_iload_n hx hb d_ST_compareParts_0 rfl (lv_at hl 1 rfl) ?_
  refine rd_S (val := tw_ST_kindOf p0) (As := [.int p0]) (rest := []) ⟨hx, hb, hml, hown, hT⟩ (c_ST_kindOf l D cB cI p0) (va_cwS 1 hT (gS_of k_667 k_555 k_2 kc_ST_kindOf) rfl rfl rfl hd_ST_kindOf ⟨rl_s (Nat.le_of_ble_eq_true rfl), rl_s (Nat.le_of_ble_eq_true rfl)⟩) hk (va_P_nil) rfl hl.1 rfl (Nat.le_of_ble_eq_true rfl) d_ST_compareParts_1 ⟨Nat.zero_le _, Nat.zero_le _⟩ ?_
  refine lv_iconst (v := 3) hx hb d_ST_compareParts_4 (by decide) ?_
  refine lv_icmp_ne (tgt := 12) hx hb d_ST_compareParts_5 (by decide) (fun c_1 => ?_) (fun c_1 => ?_)
  · refine lv_iconst (v := 0) hx hb d_ST_compareParts_12 (by decide) ?_
    refine lv_istore (lv' := [(4, .int 0), (0, .ref aS), (1, .int p0), (2, .int p1), (3, .int p2)]) hx hb d_ST_compareParts_13 hl (by decide) rfl (fun ls hl => ?_)
    refine lv_aload_n hx hb d_ST_compareParts_15 rfl (lv_at hl 1 rfl) ?_
    refine lv_iload_n hx hb d_ST_compareParts_16 rfl (lv_at hl 2 rfl) ?_
    refine rd_V (val := tw_ST_endOf b p0) (As := [.int p0]) (rest := []) ⟨hx, hb, hml, hown, hT⟩ (c_ST_endOf l D cB cI aS aB b p0) (cwV 1 hT (gV_of k_483 k_416 k_417 k_2 kc_ST_endOf) rfl rfl rfl hd_ST_endOf ⟨rl_s (Nat.le_of_ble_eq_true rfl), rl_s (Nat.le_of_ble_eq_true rfl)⟩) hk hP (q0 := 0) rfl rfl rfl rfl hl.1 rfl (Nat.le_of_ble_eq_true rfl) d_ST_compareParts_17 ⟨Nat.zero_le _, Nat.zero_le _⟩ ?_
    refine lv_iconst (v := 1) hx hb d_ST_compareParts_20 (by decide) ?_
    refine lv_isub hx hb d_ST_compareParts_21 ?_
    refine lv_istore (lv' := [(5, .int ((tw_ST_endOf b p0) - 1)), (4, .int 0), (0, .ref aS), (1, .int p0), (2, .int p1), (3, .int p2)]) hx hb d_ST_compareParts_22 hl (by decide) rfl (fun ls hl => ?_)
    refine lv_aload_n hx hb d_ST_compareParts_24 rfl (lv_at hl 2 rfl) ?_
    refine lv_iload_n hx hb d_ST_compareParts_25 rfl (lv_at hl 4 rfl) ?_
    refine rd_V (val := tw_ST_endOf b p1) (As := [.int p1]) (rest := []) ⟨hx, hb, hml, hown, hT⟩ (c_ST_endOf l D cB cI aS aB b p1) (cwV 1 hT (gV_of k_483 k_416 k_417 k_2 kc_ST_endOf) rfl rfl rfl hd_ST_endOf ⟨rl_s (Nat.le_of_ble_eq_true rfl), rl_s (Nat.le_of_ble_eq_true rfl)⟩) hk hP (q0 := 0) rfl rfl rfl rfl hl.1 rfl (Nat.le_of_ble_eq_true rfl) d_ST_compareParts_26 ⟨Nat.zero_le _, Nat.zero_le _⟩ ?_
    refine lv_iconst (v := 1) hx hb d_ST_compareParts_29 (by decide) ?_
    refine lv_isub hx hb d_ST_compareParts_30 ?_
    refine lv_istore (lv' := [(6, .int ((tw_ST_endOf b p1) - 1)), (5, .int ((tw_ST_endOf b p0) - 1)), (4, .int 0), (0, .ref aS), (1, .int p0), (2, .int p1), (3, .int p2)]) hx hb d_ST_compareParts_31 hl (by decide) rfl (fun ls hl => ?_)
    refine lv_iload_n hx hb d_ST_compareParts_33 rfl (lv_at hl 4 rfl) ?_
    refine rd_S (val := tw_ST_placeOf p0) (As := [.int p0]) (rest := []) ⟨hx, hb, hml, hown, hT⟩ (c_ST_placeOf l D cB cI p0) (va_cwS 1 hT (gS_of k_484 k_403 k_2 kc_ST_placeOf) rfl rfl rfl hd_ST_placeOf ⟨rl_s (Nat.le_of_ble_eq_true rfl), rl_s (Nat.le_of_ble_eq_true rfl)⟩) hk (va_P_nil) rfl hl.1 rfl (Nat.le_of_ble_eq_true rfl) d_ST_compareParts_34 ⟨Nat.zero_le _, Nat.zero_le _⟩ ?_
    refine lv_iconst (v := 4) hx hb d_ST_compareParts_37 (by decide) ?_
    refine lv_iadd hx hb d_ST_compareParts_38 ?_
    refine lv_istore (lv' := [(7, .int ((tw_ST_placeOf p0) + 4)), (6, .int ((tw_ST_endOf b p1) - 1)), (5, .int ((tw_ST_endOf b p0) - 1)), (4, .int 0), (0, .ref aS), (1, .int p0), (2, .int p1), (3, .int p2)]) hx hb d_ST_compareParts_39 hl (by decide) rfl (fun ls hl => ?_)
    refine lv_iload_n hx hb d_ST_compareParts_41 rfl (lv_at hl 6 rfl) ?_
    refine rd_S (val := tw_ST_placeOf p1) (As := [.int p1]) (rest := []) ⟨hx, hb, hml, hown, hT⟩ (c_ST_placeOf l D cB cI p1) (va_cwS 1 hT (gS_of k_484 k_403 k_2 kc_ST_placeOf) rfl rfl rfl hd_ST_placeOf ⟨rl_s (Nat.le_of_ble_eq_true rfl), rl_s (Nat.le_of_ble_eq_true rfl)⟩) hk (va_P_nil) rfl hl.1 rfl (Nat.le_of_ble_eq_true rfl) d_ST_compareParts_42 ⟨Nat.zero_le _, Nat.zero_le _⟩ ?_
    refine lv_iconst (v := 4) hx hb d_ST_compareParts_45 (by decide) ?_
    refine lv_iadd hx hb d_ST_compareParts_46 ?_
    refine lv_istore (lv' := [(8, .int ((tw_ST_placeOf p1) + 4)), (7, .int ((tw_ST_placeOf p0) + 4)), (6, .int ((tw_ST_endOf b p1) - 1)), (5, .int ((tw_ST_endOf b p0) - 1)), (4, .int 0), (0, .ref aS), (1, .int p0), (2, .int p1), (3, .int p2)]) hx hb d_ST_compareParts_47 hl (by decide) rfl (fun ls hl => ?_)
    refine lv_iconst (v := 0) hx hb d_ST_compareParts_49 (by decide) ?_
    refine lv_istore (lv' := [(9, .int 0), (8, .int ((tw_ST_placeOf p1) + 4)), (7, .int ((tw_ST_placeOf p0) + 4)), (6, .int ((tw_ST_endOf b p1) - 1)), (5, .int ((tw_ST_endOf b p0) - 1)), (4, .int 0), (0, .ref aS), (1, .int p0), (2, .int p1), (3, .int p2)]) hx hb d_ST_compareParts_50 hl (by decide) rfl (fun ls hl => ?_)
    exact l_ST_compareParts_h52 C0 l D cB cI aS aB rF rL fc b hP hk p2 0 ((tw_ST_endOf b p0) - 1) ((tw_ST_endOf b p1) - 1) hc  ((((1000 : Int32).toInt - (0 : Int32).toInt).toNat) + 1) ((tw_ST_placeOf p0) + 4) ((tw_ST_placeOf p1) + 4) 0 (Nat.lt_succ_self _) (by rw [tw_ST_compareParts, if_neg c_1]) ls (lv_sub hl [6, 9, 5, 4, 3, 2, 1, 0] rfl)
  · refine lv_iconst (v := 1) hx hb d_ST_compareParts_8 (by decide) ?_
    refine lv_goto (tgt := 13) hx hb d_ST_compareParts_9 (by decide) ?_
    refine lv_istore (lv' := [(4, .int 1), (0, .ref aS), (1, .int p0), (2, .int p1), (3, .int p2)]) hx hb d_ST_compareParts_13 hl (by decide) rfl (fun ls hl => ?_)
    refine lv_aload_n hx hb d_ST_compareParts_15 rfl (lv_at hl 1 rfl) ?_
    refine lv_iload_n hx hb d_ST_compareParts_16 rfl (lv_at hl 2 rfl) ?_
    refine rd_V (val := tw_ST_endOf b p0) (As := [.int p0]) (rest := []) ⟨hx, hb, hml, hown, hT⟩ (c_ST_endOf l D cB cI aS aB b p0) (cwV 1 hT (gV_of k_483 k_416 k_417 k_2 kc_ST_endOf) rfl rfl rfl hd_ST_endOf ⟨rl_s (Nat.le_of_ble_eq_true rfl), rl_s (Nat.le_of_ble_eq_true rfl)⟩) hk hP (q0 := 0) rfl rfl rfl rfl hl.1 rfl (Nat.le_of_ble_eq_true rfl) d_ST_compareParts_17 ⟨Nat.zero_le _, Nat.zero_le _⟩ ?_
    refine lv_iconst (v := 1) hx hb d_ST_compareParts_20 (by decide) ?_
    refine lv_isub hx hb d_ST_compareParts_21 ?_
    refine lv_istore (lv' := [(5, .int ((tw_ST_endOf b p0) - 1)), (4, .int 1), (0, .ref aS), (1, .int p0), (2, .int p1), (3, .int p2)]) hx hb d_ST_compareParts_22 hl (by decide) rfl (fun ls hl => ?_)
    refine lv_aload_n hx hb d_ST_compareParts_24 rfl (lv_at hl 2 rfl) ?_
    refine lv_iload_n hx hb d_ST_compareParts_25 rfl (lv_at hl 4 rfl) ?_
    refine rd_V (val := tw_ST_endOf b p1) (As := [.int p1]) (rest := []) ⟨hx, hb, hml, hown, hT⟩ (c_ST_endOf l D cB cI aS aB b p1) (cwV 1 hT (gV_of k_483 k_416 k_417 k_2 kc_ST_endOf) rfl rfl rfl hd_ST_endOf ⟨rl_s (Nat.le_of_ble_eq_true rfl), rl_s (Nat.le_of_ble_eq_true rfl)⟩) hk hP (q0 := 0) rfl rfl rfl rfl hl.1 rfl (Nat.le_of_ble_eq_true rfl) d_ST_compareParts_26 ⟨Nat.zero_le _, Nat.zero_le _⟩ ?_
    refine lv_iconst (v := 1) hx hb d_ST_compareParts_29 (by decide) ?_
    refine lv_isub hx hb d_ST_compareParts_30 ?_
    refine lv_istore (lv' := [(6, .int ((tw_ST_endOf b p1) - 1)), (5, .int ((tw_ST_endOf b p0) - 1)), (4, .int 1), (0, .ref aS), (1, .int p0), (2, .int p1), (3, .int p2)]) hx hb d_ST_compareParts_31 hl (by decide) rfl (fun ls hl => ?_)
    refine lv_iload_n hx hb d_ST_compareParts_33 rfl (lv_at hl 4 rfl) ?_
    refine rd_S (val := tw_ST_placeOf p0) (As := [.int p0]) (rest := []) ⟨hx, hb, hml, hown, hT⟩ (c_ST_placeOf l D cB cI p0) (va_cwS 1 hT (gS_of k_484 k_403 k_2 kc_ST_placeOf) rfl rfl rfl hd_ST_placeOf ⟨rl_s (Nat.le_of_ble_eq_true rfl), rl_s (Nat.le_of_ble_eq_true rfl)⟩) hk (va_P_nil) rfl hl.1 rfl (Nat.le_of_ble_eq_true rfl) d_ST_compareParts_34 ⟨Nat.zero_le _, Nat.zero_le _⟩ ?_
    refine lv_iconst (v := 4) hx hb d_ST_compareParts_37 (by decide) ?_
    refine lv_iadd hx hb d_ST_compareParts_38 ?_
    refine lv_istore (lv' := [(7, .int ((tw_ST_placeOf p0) + 4)), (6, .int ((tw_ST_endOf b p1) - 1)), (5, .int ((tw_ST_endOf b p0) - 1)), (4, .int 1), (0, .ref aS), (1, .int p0), (2, .int p1), (3, .int p2)]) hx hb d_ST_compareParts_39 hl (by decide) rfl (fun ls hl => ?_)
    refine lv_iload_n hx hb d_ST_compareParts_41 rfl (lv_at hl 6 rfl) ?_
    refine rd_S (val := tw_ST_placeOf p1) (As := [.int p1]) (rest := []) ⟨hx, hb, hml, hown, hT⟩ (c_ST_placeOf l D cB cI p1) (va_cwS 1 hT (gS_of k_484 k_403 k_2 kc_ST_placeOf) rfl rfl rfl hd_ST_placeOf ⟨rl_s (Nat.le_of_ble_eq_true rfl), rl_s (Nat.le_of_ble_eq_true rfl)⟩) hk (va_P_nil) rfl hl.1 rfl (Nat.le_of_ble_eq_true rfl) d_ST_compareParts_42 ⟨Nat.zero_le _, Nat.zero_le _⟩ ?_
    refine lv_iconst (v := 4) hx hb d_ST_compareParts_45 (by decide) ?_
    refine lv_iadd hx hb d_ST_compareParts_46 ?_
    refine lv_istore (lv' := [(8, .int ((tw_ST_placeOf p1) + 4)), (7, .int ((tw_ST_placeOf p0) + 4)), (6, .int ((tw_ST_endOf b p1) - 1)), (5, .int ((tw_ST_endOf b p0) - 1)), (4, .int 1), (0, .ref aS), (1, .int p0), (2, .int p1), (3, .int p2)]) hx hb d_ST_compareParts_47 hl (by decide) rfl (fun ls hl => ?_)
    refine lv_iconst (v := 0) hx hb d_ST_compareParts_49 (by decide) ?_
    refine lv_istore (lv' := [(9, .int 0), (8, .int ((tw_ST_placeOf p1) + 4)), (7, .int ((tw_ST_placeOf p0) + 4)), (6, .int ((tw_ST_endOf b p1) - 1)), (5, .int ((tw_ST_endOf b p0) - 1)), (4, .int 1), (0, .ref aS), (1, .int p0), (2, .int p1), (3, .int p2)]) hx hb d_ST_compareParts_50 hl (by decide) rfl (fun ls hl => ?_)
    exact l_ST_compareParts_h52 C0 l D cB cI aS aB rF rL fc b hP hk p2 1 ((tw_ST_endOf b p0) - 1) ((tw_ST_endOf b p1) - 1) hc  ((((1000 : Int32).toInt - (0 : Int32).toInt).toNat) + 1) ((tw_ST_placeOf p0) + 4) ((tw_ST_placeOf p1) + 4) 0 (Nat.lt_succ_self _) (by rw [tw_ST_compareParts, if_pos c_1]) ls (lv_sub hl [6, 9, 5, 4, 3, 2, 1, 0] rfl)
set_option maxHeartbeats 4000000 in
set_option maxRecDepth 100000 in
theorem c_ST_compare (l : Launch) (D : va_G) (cB cI : ClassId) (aS aB : Nat) (rF : Nat) (rL : Nat) (fp : Int32 → Int32 → Int32) (b : Nat → UInt8) (p0 : Int32) (p1 : Int32) (p2 : Int32) (hp : p2 ≤ 40 → ∀ x y : Int32, Met l y_ST_compareParts mw_ST_compareParts { frames := rF, cells := 0, slots := 0, locals := rL } (va_Pc [.ref aS, .int x, .int y, .int p2] (fun U => va_P D vwCl [(aS, .inr (0, [.ref aB])), (aB, .inl (cB, 202000, .inl (by_ b)))] U.heap ∧ hk_ D cB cI U)) (vp_Si (fun r => r = fp x y)) 0 0 (fun _ => False)) : Met l y_ST_compare mw_ST_compare { frames := rF + 5, cells := 0, slots := 0, locals := rL + 120 } (va_Pc [.ref aS, .int p0, .int p1, .int p2] (fun U => va_P D vwCl [(aS, .inr (0, [.ref aB])), (aB, .inl (cB, 202000, .inl (by_ b)))] U.heap ∧ hk_ D cB cI U)) (vp_Si (fun r => r = tw_ST_compare fp b p0 p1 p2)) 0 0 (fun _ => False) := by
  refine Met.ofW (cc := b_ST_compare) (maxL := 5) (ret := (some .int)) (by decide) rfl ?_
  intro p e s m args below meth c s₁ B0 hml hv
  obtain ⟨rfl, hP, hk⟩ := hv
  have hK := hk.1
  have hN := hk.2.1
  have hx := B0.exec
  have hb := B0.bytes
  have hr := B0.returns
  have hT : ∀ w ∈ lw_g, w.before _ s = true := fun w h => atoms_spec (ws := mw_ST_compare) B0.pre w (List.mem_cons_of_mem _ h)
  have hown : s.vm.findClass R_ST = some m.cls := findClass_of_methodNamed B0.named
  have hlocks := B0.notSynchronized
  have hl := lv_entry ([.ref aS, .int p0, .int p1, .int p2]) (n := 5) (Nat.le_of_ble_eq_true rfl)
  rw [lg_entry_eq]
  generalize (lg_sl ([.ref aS, .int p0, .int p1, .int p2]) ++ List.replicate (5 - (lg_sl ([.ref aS, .int p0, .int p1, .int p2])).length) Slot.unset).toArray = ls at hl ⊢
  have hl : lv_has ls 5 [(0, .ref aS), (1, .int p0), (2, .int p1), (3, .int p2)] := hl
  refine lv_iload_n hx hb d_ST_compare_0 rfl (lv_at hl 1 rfl) ?_
  refine rd_S (val := tw_ST_classOf p0) (As := [.int p0]) (rest := []) ⟨hx, hb, hml, hown, hT⟩ (c_ST_classOf l D cB cI p0) (va_cwS 1 hT (gS_of k_779 k_780 k_2 kc_ST_classOf) rfl rfl rfl hd_ST_classOf ⟨rl_s (Nat.le_of_ble_eq_true rfl), rl_s (Nat.le_of_ble_eq_true rfl)⟩) hk (va_P_nil) rfl hl.1 rfl (Nat.le_of_ble_eq_true rfl) d_ST_compare_1 ⟨Nat.zero_le _, Nat.zero_le _⟩ ?_
  refine lv_iload_n hx hb d_ST_compare_4 rfl (lv_at hl 2 rfl) ?_
  refine rd_S (val := tw_ST_classOf p1) (As := [.int p1]) (rest := [.int (tw_ST_classOf p0)]) ⟨hx, hb, hml, hown, hT⟩ (c_ST_classOf l D cB cI p1) (va_cwS 1 hT (gS_of k_779 k_780 k_2 kc_ST_classOf) rfl rfl rfl hd_ST_classOf ⟨rl_s (Nat.le_of_ble_eq_true rfl), rl_s (Nat.le_of_ble_eq_true rfl)⟩) hk (va_P_nil) rfl hl.1 rfl (Nat.le_of_ble_eq_true rfl) d_ST_compare_5 ⟨Nat.zero_le _, Nat.zero_le _⟩ ?_
  refine rd_S (val := tw_JI_compare (tw_ST_classOf p0) (tw_ST_classOf p1)) (As := [.int (tw_ST_classOf p0), .int (tw_ST_classOf p1)]) (rest := []) ⟨hx, hb, hml, hown, hT⟩ (c_JI_compare l D cB cI (tw_ST_classOf p0) (tw_ST_classOf p1)) (va_cwS 2 hT (gS_of k_412 k_413 k_14 kc_JI_compare) rfl rfl rfl hd_JI_compare ⟨rl_s (Nat.le_of_ble_eq_true rfl), rl_s (Nat.le_of_ble_eq_true rfl)⟩) hk (va_P_nil) rfl hl.1 rfl (Nat.le_of_ble_eq_true rfl) d_ST_compare_8 ⟨Nat.zero_le _, Nat.zero_le _⟩ ?_
  refine lv_istore (lv' := [(4, .int (tw_JI_compare (tw_ST_classOf p0) (tw_ST_classOf p1))), (0, .ref aS), (1, .int p0), (2, .int p1), (3, .int p2)]) hx hb d_ST_compare_11 hl (by decide) rfl (fun ls hl => ?_)
  refine lv_iload hx hb d_ST_compare_13 (lv_at hl 0 rfl) ?_
  refine lv_if_ne (tgt := 24) hx hb d_ST_compare_15 (by decide) (fun c_1 => ?_) (fun c_1 => ?_)
  · refine lv_iload hx hb d_ST_compare_24 (lv_at hl 0 rfl) ?_
    exact W.iret (v := tw_JI_compare (tw_ST_classOf p0) (tw_ST_classOf p1)) hx hb hr (fun t ht hW => ⟨tw_JI_compare (tw_ST_classOf p0) (tw_ST_classOf p1), rfl, (by rw [tw_ST_compare, if_neg c_1]; first | done | rfl), ht⟩) (fun _ h => by cases h) d_ST_compare_26
  · refine lv_iload_n hx hb d_ST_compare_18 rfl (lv_at hl 4 rfl) ?_
    refine lv_bipush (v := 40) hx hb d_ST_compare_19 (by decide) ?_
    refine lv_icmp_le (tgt := 27) hx hb d_ST_compare_21 (by decide) (fun c_2 => ?_) (fun c_2 => ?_)
    · refine lv_iload_n hx hb d_ST_compare_27 rfl (lv_at hl 2 rfl) ?_
      refine rd_S (val := tw_ST_kindOf p0) (As := [.int p0]) (rest := []) ⟨hx, hb, hml, hown, hT⟩ (c_ST_kindOf l D cB cI p0) (va_cwS 1 hT (gS_of k_667 k_555 k_2 kc_ST_kindOf) rfl rfl rfl hd_ST_kindOf ⟨rl_s (Nat.le_of_ble_eq_true rfl), rl_s (Nat.le_of_ble_eq_true rfl)⟩) hk (va_P_nil) rfl hl.1 rfl (Nat.le_of_ble_eq_true rfl) d_ST_compare_28 ⟨Nat.zero_le _, Nat.zero_le _⟩ ?_
      by_cases c_3 : (tw_ST_kindOf p0) = 2
      · refine sw_T (tgt := 160) hx hb d_ST_compare_31 (Or.inr ⟨by rw [c_3]; decide, by rw [c_3]; decide, 129, by rw [c_3]; rfl, by decide⟩) ?_
        refine lv_aload_n hx hb d_ST_compare_160 rfl (lv_at hl 1 rfl) ?_
        refine lv_iload_n hx hb d_ST_compare_161 rfl (lv_at hl 2 rfl) ?_
        refine rd_S (val := tw_ST_placeOf p0) (As := [.int p0]) (rest := [.ref aS]) ⟨hx, hb, hml, hown, hT⟩ (c_ST_placeOf l D cB cI p0) (va_cwS 1 hT (gS_of k_484 k_403 k_2 kc_ST_placeOf) rfl rfl rfl hd_ST_placeOf ⟨rl_s (Nat.le_of_ble_eq_true rfl), rl_s (Nat.le_of_ble_eq_true rfl)⟩) hk (va_P_nil) rfl hl.1 rfl (Nat.le_of_ble_eq_true rfl) d_ST_compare_162 ⟨Nat.zero_le _, Nat.zero_le _⟩ ?_
        refine lv_iconst (v := 4) hx hb d_ST_compare_165 (by decide) ?_
        refine lv_iadd hx hb d_ST_compare_166 ?_
        refine lv_aload_n hx hb d_ST_compare_167 rfl (lv_at hl 1 rfl) ?_
        refine lv_iload_n hx hb d_ST_compare_168 rfl (lv_at hl 2 rfl) ?_
        refine rd_V (val := tw_ST_endOf b p0) (As := [.int p0]) (rest := [.int ((tw_ST_placeOf p0) + 4), .ref aS]) ⟨hx, hb, hml, hown, hT⟩ (c_ST_endOf l D cB cI aS aB b p0) (cwV 1 hT (gV_of k_483 k_416 k_417 k_2 kc_ST_endOf) rfl rfl rfl hd_ST_endOf ⟨rl_s (Nat.le_of_ble_eq_true rfl), rl_s (Nat.le_of_ble_eq_true rfl)⟩) hk hP (q0 := 0) rfl rfl rfl rfl hl.1 rfl (Nat.le_of_ble_eq_true rfl) d_ST_compare_169 ⟨Nat.zero_le _, Nat.zero_le _⟩ ?_
        refine lv_iconst (v := 1) hx hb d_ST_compare_172 (by decide) ?_
        refine lv_isub hx hb d_ST_compare_173 ?_
        refine lv_iload_n hx hb d_ST_compare_174 rfl (lv_at hl 3 rfl) ?_
        refine rd_S (val := tw_ST_placeOf p1) (As := [.int p1]) (rest := [.int ((tw_ST_endOf b p0) - 1), .int ((tw_ST_placeOf p0) + 4), .ref aS]) ⟨hx, hb, hml, hown, hT⟩ (c_ST_placeOf l D cB cI p1) (va_cwS 1 hT (gS_of k_484 k_403 k_2 kc_ST_placeOf) rfl rfl rfl hd_ST_placeOf ⟨rl_s (Nat.le_of_ble_eq_true rfl), rl_s (Nat.le_of_ble_eq_true rfl)⟩) hk (va_P_nil) rfl hl.1 rfl (Nat.le_of_ble_eq_true rfl) d_ST_compare_175 ⟨Nat.zero_le _, Nat.zero_le _⟩ ?_
        refine lv_iconst (v := 4) hx hb d_ST_compare_178 (by decide) ?_
        refine lv_iadd hx hb d_ST_compare_179 ?_
        refine lv_aload_n hx hb d_ST_compare_180 rfl (lv_at hl 1 rfl) ?_
        refine lv_iload_n hx hb d_ST_compare_181 rfl (lv_at hl 3 rfl) ?_
        refine rd_V (val := tw_ST_endOf b p1) (As := [.int p1]) (rest := [.int ((tw_ST_placeOf p1) + 4), .int ((tw_ST_endOf b p0) - 1), .int ((tw_ST_placeOf p0) + 4), .ref aS]) ⟨hx, hb, hml, hown, hT⟩ (c_ST_endOf l D cB cI aS aB b p1) (cwV 1 hT (gV_of k_483 k_416 k_417 k_2 kc_ST_endOf) rfl rfl rfl hd_ST_endOf ⟨rl_s (Nat.le_of_ble_eq_true rfl), rl_s (Nat.le_of_ble_eq_true rfl)⟩) hk hP (q0 := 0) rfl rfl rfl rfl hl.1 rfl (Nat.le_of_ble_eq_true rfl) d_ST_compare_182 ⟨Nat.zero_le _, Nat.zero_le _⟩ ?_
        refine lv_iconst (v := 1) hx hb d_ST_compare_185 (by decide) ?_
        refine lv_isub hx hb d_ST_compare_186 ?_
        refine rd_V (val := tw_ST_compareBytes b ((tw_ST_placeOf p0) + 4) ((tw_ST_endOf b p0) - 1) ((tw_ST_placeOf p1) + 4) ((tw_ST_endOf b p1) - 1)) (As := [.int ((tw_ST_placeOf p0) + 4), .int ((tw_ST_endOf b p0) - 1), .int ((tw_ST_placeOf p1) + 4), .int ((tw_ST_endOf b p1) - 1)]) (rest := []) ⟨hx, hb, hml, hown, hT⟩ (c_ST_compareBytes l D cB cI aS aB b ((tw_ST_placeOf p0) + 4) ((tw_ST_endOf b p0) - 1) ((tw_ST_placeOf p1) + 4) ((tw_ST_endOf b p1) - 1)) (cwV 4 hT (gV_of k_614 k_406 k_407 k_2 kc_ST_compareBytes) rfl rfl rfl hd_ST_compareBytes ⟨rl_s (Nat.le_of_ble_eq_true rfl), rl_s (Nat.le_of_ble_eq_true rfl)⟩) hk hP (q0 := 0) rfl rfl rfl rfl hl.1 rfl (Nat.le_of_ble_eq_true rfl) d_ST_compare_187 ⟨Nat.zero_le _, Nat.zero_le _⟩ ?_
        exact W.iret (v := tw_ST_compareBytes b ((tw_ST_placeOf p0) + 4) ((tw_ST_endOf b p0) - 1) ((tw_ST_placeOf p1) + 4) ((tw_ST_endOf b p1) - 1)) hx hb hr (fun t ht hW => ⟨tw_ST_compareBytes b ((tw_ST_placeOf p0) + 4) ((tw_ST_endOf b p0) - 1) ((tw_ST_placeOf p1) + 4) ((tw_ST_endOf b p1) - 1), rfl, (by rw [tw_ST_compare, if_pos c_1, if_pos c_2, if_pos c_3]; first | done | rfl), ht⟩) (fun _ h => by cases h) d_ST_compare_190
      by_cases c_4 : (tw_ST_kindOf p0) = 3
      · refine sw_T (tgt := 191) hx hb d_ST_compare_31 (Or.inr ⟨by rw [c_4]; decide, by rw [c_4]; decide, 160, by rw [c_4]; rfl, by decide⟩) ?_
        refine lv_aload_n hx hb d_ST_compare_191 rfl (lv_at hl 1 rfl) ?_
        refine lv_iload_n hx hb d_ST_compare_192 rfl (lv_at hl 2 rfl) ?_
        refine lv_iload_n hx hb d_ST_compare_193 rfl (lv_at hl 3 rfl) ?_
        refine lv_iload_n hx hb d_ST_compare_194 rfl (lv_at hl 4 rfl) ?_
        refine rd_V (val := fp p0 p1) (As := [.int p0, .int p1, .int p2]) (rest := []) ⟨hx, hb, hml, hown, hT⟩ (hp c_2 p0 p1) (cwV 3 hT (gV_of k_790 k_792 kp_ST_compareParts k_2 kc_ST_compareParts) rfl rfl rfl hd_ST_compareParts ⟨rl_f (Nat.le_of_ble_eq_true rfl), rl_l (Nat.le_of_ble_eq_true rfl)⟩) hk hP (q0 := 0) rfl rfl rfl rfl hl.1 rfl (Nat.le_of_ble_eq_true rfl) d_ST_compare_195 ⟨Nat.zero_le _, Nat.zero_le _⟩ ?_
        exact W.iret (v := fp p0 p1) hx hb hr (fun t ht hW => ⟨fp p0 p1, rfl, (by rw [tw_ST_compare, if_pos c_1, if_pos c_2, if_neg c_3, if_pos c_4]; first | done | rfl), ht⟩) (fun _ h => by cases h) d_ST_compare_198
      by_cases c_5 : (tw_ST_kindOf p0) = 4
      · refine sw_T (tgt := 199) hx hb d_ST_compare_31 (Or.inr ⟨by rw [c_5]; decide, by rw [c_5]; decide, 168, by rw [c_5]; rfl, by decide⟩) ?_
        refine lv_aload_n hx hb d_ST_compare_199 rfl (lv_at hl 1 rfl) ?_
        refine lv_iload_n hx hb d_ST_compare_200 rfl (lv_at hl 2 rfl) ?_
        refine lv_iload_n hx hb d_ST_compare_201 rfl (lv_at hl 3 rfl) ?_
        refine lv_iload_n hx hb d_ST_compare_202 rfl (lv_at hl 4 rfl) ?_
        refine rd_V (val := fp p0 p1) (As := [.int p0, .int p1, .int p2]) (rest := []) ⟨hx, hb, hml, hown, hT⟩ (hp c_2 p0 p1) (cwV 3 hT (gV_of k_790 k_792 kp_ST_compareParts k_2 kc_ST_compareParts) rfl rfl rfl hd_ST_compareParts ⟨rl_f (Nat.le_of_ble_eq_true rfl), rl_l (Nat.le_of_ble_eq_true rfl)⟩) hk hP (q0 := 0) rfl rfl rfl rfl hl.1 rfl (Nat.le_of_ble_eq_true rfl) d_ST_compare_203 ⟨Nat.zero_le _, Nat.zero_le _⟩ ?_
        exact W.iret (v := fp p0 p1) hx hb hr (fun t ht hW => ⟨fp p0 p1, rfl, (by rw [tw_ST_compare, if_pos c_1, if_pos c_2, if_neg c_3, if_neg c_4, if_pos c_5]; first | done | rfl), ht⟩) (fun _ h => by cases h) d_ST_compare_206
      by_cases c_6 : (tw_ST_kindOf p0) = 8
      · refine sw_T (tgt := 140) hx hb d_ST_compare_31 (Or.inr ⟨by rw [c_6]; decide, by rw [c_6]; decide, 109, by rw [c_6]; rfl, by decide⟩) ?_
        refine lv_aload_n hx hb d_ST_compare_140 rfl (lv_at hl 1 rfl) ?_
        refine lv_iload_n hx hb d_ST_compare_141 rfl (lv_at hl 2 rfl) ?_
        refine rd_S (val := tw_ST_placeOf p0) (As := [.int p0]) (rest := [.ref aS]) ⟨hx, hb, hml, hown, hT⟩ (c_ST_placeOf l D cB cI p0) (va_cwS 1 hT (gS_of k_484 k_403 k_2 kc_ST_placeOf) rfl rfl rfl hd_ST_placeOf ⟨rl_s (Nat.le_of_ble_eq_true rfl), rl_s (Nat.le_of_ble_eq_true rfl)⟩) hk (va_P_nil) rfl hl.1 rfl (Nat.le_of_ble_eq_true rfl) d_ST_compare_142 ⟨Nat.zero_le _, Nat.zero_le _⟩ ?_
        refine rd_V (val := tw_ST_at b (tw_ST_placeOf p0)) (As := [.int (tw_ST_placeOf p0)]) (rest := []) ⟨hx, hb, hml, hown, hT⟩ (c_ST_at l D cB cI aS aB b (tw_ST_placeOf p0)) (cwV 1 hT (gV_of k_385 k_378 k_379 k_2 kc_ST_at) rfl rfl rfl hd_ST_at ⟨rl_s (Nat.le_of_ble_eq_true rfl), rl_s (Nat.le_of_ble_eq_true rfl)⟩) hk hP (q0 := 0) rfl rfl rfl rfl hl.1 rfl (Nat.le_of_ble_eq_true rfl) d_ST_compare_145 ⟨Nat.zero_le _, Nat.zero_le _⟩ ?_
        refine lv_aload_n hx hb d_ST_compare_148 rfl (lv_at hl 1 rfl) ?_
        refine lv_iload_n hx hb d_ST_compare_149 rfl (lv_at hl 3 rfl) ?_
        refine rd_S (val := tw_ST_placeOf p1) (As := [.int p1]) (rest := [.ref aS, .int (tw_ST_at b (tw_ST_placeOf p0))]) ⟨hx, hb, hml, hown, hT⟩ (c_ST_placeOf l D cB cI p1) (va_cwS 1 hT (gS_of k_484 k_403 k_2 kc_ST_placeOf) rfl rfl rfl hd_ST_placeOf ⟨rl_s (Nat.le_of_ble_eq_true rfl), rl_s (Nat.le_of_ble_eq_true rfl)⟩) hk (va_P_nil) rfl hl.1 rfl (Nat.le_of_ble_eq_true rfl) d_ST_compare_150 ⟨Nat.zero_le _, Nat.zero_le _⟩ ?_
        refine rd_V (val := tw_ST_at b (tw_ST_placeOf p1)) (As := [.int (tw_ST_placeOf p1)]) (rest := [.int (tw_ST_at b (tw_ST_placeOf p0))]) ⟨hx, hb, hml, hown, hT⟩ (c_ST_at l D cB cI aS aB b (tw_ST_placeOf p1)) (cwV 1 hT (gV_of k_385 k_378 k_379 k_2 kc_ST_at) rfl rfl rfl hd_ST_at ⟨rl_s (Nat.le_of_ble_eq_true rfl), rl_s (Nat.le_of_ble_eq_true rfl)⟩) hk hP (q0 := 0) rfl rfl rfl rfl hl.1 rfl (Nat.le_of_ble_eq_true rfl) d_ST_compare_153 ⟨Nat.zero_le _, Nat.zero_le _⟩ ?_
        refine rd_S (val := tw_JI_compare (tw_ST_at b (tw_ST_placeOf p0)) (tw_ST_at b (tw_ST_placeOf p1))) (As := [.int (tw_ST_at b (tw_ST_placeOf p0)), .int (tw_ST_at b (tw_ST_placeOf p1))]) (rest := []) ⟨hx, hb, hml, hown, hT⟩ (c_JI_compare l D cB cI (tw_ST_at b (tw_ST_placeOf p0)) (tw_ST_at b (tw_ST_placeOf p1))) (va_cwS 2 hT (gS_of k_412 k_413 k_14 kc_JI_compare) rfl rfl rfl hd_JI_compare ⟨rl_s (Nat.le_of_ble_eq_true rfl), rl_s (Nat.le_of_ble_eq_true rfl)⟩) hk (va_P_nil) rfl hl.1 rfl (Nat.le_of_ble_eq_true rfl) d_ST_compare_156 ⟨Nat.zero_le _, Nat.zero_le _⟩ ?_
        exact W.iret (v := tw_JI_compare (tw_ST_at b (tw_ST_placeOf p0)) (tw_ST_at b (tw_ST_placeOf p1))) hx hb hr (fun t ht hW => ⟨tw_JI_compare (tw_ST_at b (tw_ST_placeOf p0)) (tw_ST_at b (tw_ST_placeOf p1)), rfl, (by rw [tw_ST_compare, if_pos c_1, if_pos c_2, if_neg c_3, if_neg c_4, if_neg c_5, if_pos c_6]; first | done | rfl), ht⟩) (fun _ h => by cases h) d_ST_compare_159
      by_cases c_7 : (tw_ST_kindOf p0) = 16
      · refine sw_T (tgt := 112) hx hb d_ST_compare_31 (Or.inr ⟨by rw [c_7]; decide, by rw [c_7]; decide, 81, by rw [c_7]; rfl, by decide⟩) ?_
        refine lv_aload_n hx hb d_ST_compare_112 rfl (lv_at hl 1 rfl) ?_
        refine lv_iload_n hx hb d_ST_compare_113 rfl (lv_at hl 2 rfl) ?_
        refine rd_Vl (val := tw_ST_number b p0) (As := [.int p0]) (rest := []) ⟨hx, hb, hml, hown, hT⟩ (c_ST_number l D cB cI aS aB b p0) (cwV 1 hT (gV_of k_760 k_761 k_762 k_2 kc_ST_number) rfl rfl rfl hd_ST_number ⟨rl_s (Nat.le_of_ble_eq_true rfl), rl_s (Nat.le_of_ble_eq_true rfl)⟩) hk hP (q0 := 0) rfl rfl rfl rfl hl.1 rfl (Nat.le_of_ble_eq_true rfl) d_ST_compare_114 ⟨Nat.zero_le _, Nat.zero_le _⟩ ?_
        refine lv_aload_n hx hb d_ST_compare_117 rfl (lv_at hl 1 rfl) ?_
        refine lv_iload_n hx hb d_ST_compare_118 rfl (lv_at hl 3 rfl) ?_
        refine rd_Vl (val := tw_ST_number b p1) (As := [.int p1]) (rest := [.long (tw_ST_number b p0)]) ⟨hx, hb, hml, hown, hT⟩ (c_ST_number l D cB cI aS aB b p1) (cwV 1 hT (gV_of k_760 k_761 k_762 k_2 kc_ST_number) rfl rfl rfl hd_ST_number ⟨rl_s (Nat.le_of_ble_eq_true rfl), rl_s (Nat.le_of_ble_eq_true rfl)⟩) hk hP (q0 := 0) rfl rfl rfl rfl hl.1 rfl (Nat.le_of_ble_eq_true rfl) d_ST_compare_119 ⟨Nat.zero_le _, Nat.zero_le _⟩ ?_
        refine rd_S (val := tw_JL_compare (tw_ST_number b p0) (tw_ST_number b p1)) (As := [.long (tw_ST_number b p0), .long (tw_ST_number b p1)]) (rest := []) ⟨hx, hb, hml, hown, hT⟩ (c_JL_compare l D cB cI (tw_ST_number b p0) (tw_ST_number b p1)) (va_cwS 2 hT (gS_of k_787 k_788 k_20 kc_JL_compare) rfl rfl rfl hd_JL_compare ⟨rl_s (Nat.le_of_ble_eq_true rfl), rl_s (Nat.le_of_ble_eq_true rfl)⟩) hk (va_P_nil) rfl hl.1 rfl (Nat.le_of_ble_eq_true rfl) d_ST_compare_122 ⟨Nat.zero_le _, Nat.zero_le _⟩ ?_
        exact W.iret (v := tw_JL_compare (tw_ST_number b p0) (tw_ST_number b p1)) hx hb hr (fun t ht hW => ⟨tw_JL_compare (tw_ST_number b p0) (tw_ST_number b p1), rfl, (by rw [tw_ST_compare, if_pos c_1, if_pos c_2, if_neg c_3, if_neg c_4, if_neg c_5, if_neg c_6, if_pos c_7]; first | done | rfl), ht⟩) (fun _ h => by cases h) d_ST_compare_125
      by_cases c_8 : (tw_ST_kindOf p0) = 18
      · refine sw_T (tgt := 126) hx hb d_ST_compare_31 (Or.inr ⟨by rw [c_8]; decide, by rw [c_8]; decide, 95, by rw [c_8]; rfl, by decide⟩) ?_
        refine lv_aload_n hx hb d_ST_compare_126 rfl (lv_at hl 1 rfl) ?_
        refine lv_iload_n hx hb d_ST_compare_127 rfl (lv_at hl 2 rfl) ?_
        refine rd_Vl (val := tw_ST_number b p0) (As := [.int p0]) (rest := []) ⟨hx, hb, hml, hown, hT⟩ (c_ST_number l D cB cI aS aB b p0) (cwV 1 hT (gV_of k_760 k_761 k_762 k_2 kc_ST_number) rfl rfl rfl hd_ST_number ⟨rl_s (Nat.le_of_ble_eq_true rfl), rl_s (Nat.le_of_ble_eq_true rfl)⟩) hk hP (q0 := 0) rfl rfl rfl rfl hl.1 rfl (Nat.le_of_ble_eq_true rfl) d_ST_compare_128 ⟨Nat.zero_le _, Nat.zero_le _⟩ ?_
        refine lv_aload_n hx hb d_ST_compare_131 rfl (lv_at hl 1 rfl) ?_
        refine lv_iload_n hx hb d_ST_compare_132 rfl (lv_at hl 3 rfl) ?_
        refine rd_Vl (val := tw_ST_number b p1) (As := [.int p1]) (rest := [.long (tw_ST_number b p0)]) ⟨hx, hb, hml, hown, hT⟩ (c_ST_number l D cB cI aS aB b p1) (cwV 1 hT (gV_of k_760 k_761 k_762 k_2 kc_ST_number) rfl rfl rfl hd_ST_number ⟨rl_s (Nat.le_of_ble_eq_true rfl), rl_s (Nat.le_of_ble_eq_true rfl)⟩) hk hP (q0 := 0) rfl rfl rfl rfl hl.1 rfl (Nat.le_of_ble_eq_true rfl) d_ST_compare_133 ⟨Nat.zero_le _, Nat.zero_le _⟩ ?_
        refine rd_S (val := tw_JL_compare (tw_ST_number b p0) (tw_ST_number b p1)) (As := [.long (tw_ST_number b p0), .long (tw_ST_number b p1)]) (rest := []) ⟨hx, hb, hml, hown, hT⟩ (c_JL_compare l D cB cI (tw_ST_number b p0) (tw_ST_number b p1)) (va_cwS 2 hT (gS_of k_787 k_788 k_20 kc_JL_compare) rfl rfl rfl hd_JL_compare ⟨rl_s (Nat.le_of_ble_eq_true rfl), rl_s (Nat.le_of_ble_eq_true rfl)⟩) hk (va_P_nil) rfl hl.1 rfl (Nat.le_of_ble_eq_true rfl) d_ST_compare_136 ⟨Nat.zero_le _, Nat.zero_le _⟩ ?_
        exact W.iret (v := tw_JL_compare (tw_ST_number b p0) (tw_ST_number b p1)) hx hb hr (fun t ht hW => ⟨tw_JL_compare (tw_ST_number b p0) (tw_ST_number b p1), rfl, (by rw [tw_ST_compare, if_pos c_1, if_pos c_2, if_neg c_3, if_neg c_4, if_neg c_5, if_neg c_6, if_neg c_7, if_pos c_8]; first | done | rfl), ht⟩) (fun _ h => by cases h) d_ST_compare_139
      have h_c_3 := lv_neT c_3 (show (2 : Int32).toInt = 2 from rfl)
      have h_c_4 := lv_neT c_4 (show (3 : Int32).toInt = 3 from rfl)
      have h_c_5 := lv_neT c_5 (show (4 : Int32).toInt = 4 from rfl)
      have h_c_6 := lv_neT c_6 (show (8 : Int32).toInt = 8 from rfl)
      have h_c_7 := lv_neT c_7 (show (16 : Int32).toInt = 16 from rfl)
      have h_c_8 := lv_neT c_8 (show (18 : Int32).toInt = 18 from rfl)
      refine sw_T (tgt := 207) hx hb d_ST_compare_31 (by
        rcases Int.lt_or_le (tw_ST_kindOf p0).toInt 2 with q | q
        · exact Or.inl ⟨Or.inl q, by decide⟩
        · rcases Int.lt_or_le 18 (tw_ST_kindOf p0).toInt with q2 | q2
          · exact Or.inl ⟨Or.inr q2, by decide⟩
          · refine Or.inr ⟨by omega, by omega, ?_⟩
            have q3 : (tw_ST_kindOf p0).toInt = 5 ∨ (tw_ST_kindOf p0).toInt = 6 ∨ (tw_ST_kindOf p0).toInt = 7 ∨ (tw_ST_kindOf p0).toInt = 9 ∨ (tw_ST_kindOf p0).toInt = 10 ∨ (tw_ST_kindOf p0).toInt = 11 ∨ (tw_ST_kindOf p0).toInt = 12 ∨ (tw_ST_kindOf p0).toInt = 13 ∨ (tw_ST_kindOf p0).toInt = 14 ∨ (tw_ST_kindOf p0).toInt = 15 ∨ (tw_ST_kindOf p0).toInt = 17 := by omega
            rcases q3 with q3 | q3 | q3 | q3 | q3 | q3 | q3 | q3 | q3 | q3 | q3 <;> (rw [q3]; exact ⟨_, rfl, by decide⟩)) ?_
      refine lv_iconst (v := 0) hx hb d_ST_compare_207 (by decide) ?_
      exact W.iret (v := 0) hx hb hr (fun t ht hW => ⟨0, rfl, (by rw [tw_ST_compare, if_pos c_1, if_pos c_2, if_neg c_3, if_neg c_4, if_neg c_5, if_neg c_6, if_neg c_7, if_neg c_8]; first | done | rfl), ht⟩) (fun _ h => by cases h) d_ST_compare_208
    · refine lv_iload hx hb d_ST_compare_24 (lv_at hl 0 rfl) ?_
      exact W.iret (v := tw_JI_compare (tw_ST_classOf p0) (tw_ST_classOf p1)) hx hb hr (fun t ht hW => ⟨tw_JI_compare (tw_ST_classOf p0) (tw_ST_classOf p1), rfl, (by rw [tw_ST_compare, if_pos c_1, if_neg c_2]; first | done | rfl), ht⟩) (fun _ h => by cases h) d_ST_compare_26
/-- compare, its depth counted down by k -/
theorem dp_0 {d M : Int32} (h : M.toInt + 1 - d.toInt ≤ 0) (q : d ≤ M) : False := by
  have := Int32.le_iff_toInt_le.mp q
  omega
theorem dp_s {d M : Int32} {k : Nat} (hM : M.toInt < 1000) (h : M.toInt + 1 - d.toInt ≤ (k + 1 : Nat)) (q : d ≤ M) : M.toInt + 1 - (d + 1).toInt ≤ (k : Nat) := by
  have h1 := Int32.le_iff_toInt_le.mp q
  have h2 : -2 ^ 31 ≤ d.toInt := Int32.le_toInt d
  have e : (d + 1).toInt = d.toInt + 1 := i_add (a := d) (b := 1) (by show _ ≤ d.toInt + 1; omega) (by show d.toInt + 1 < _; omega)
  omega
theorem c_ST_cmp (l : Launch) (D : va_G) (cB cI : ClassId) (aS aB : Nat) (b : Nat → UInt8) : ∀ (k : Nat) (d : Int32), (40 : Int32).toInt + 1 - d.toInt ≤ (k : Nat) → ∀ x y : Int32, Met l y_ST_compare mw_ST_compare { frames := 10 * k + 5, cells := 0, slots := 0, locals := 240 * k + 120 } (va_Pc [.ref aS, .int x, .int y, .int d] (fun U => va_P D vwCl [(aS, .inr (0, [.ref aB])), (aB, .inl (cB, 202000, .inl (by_ b)))] U.heap ∧ hk_ D cB cI U)) (vp_Si (fun r => r = tw_ST_cmp k b x y d)) 0 0 (fun _ => False) := by
  intro k
  induction k with
  | zero =>
    intro d hd x y
    exact c_ST_compare l D cB cI aS aB (10 * 0) (240 * 0) (fun _ _ => 0) b x y d (fun q => (dp_0 hd q).elim)
  | succ k ih =>
    intro d hd x y
    exact c_ST_compare l D cB cI aS aB (10 * (k + 1)) (240 * (k + 1)) (fun x y => tw_ST_compareParts (fun x y => tw_ST_cmp k b x y (d + 1)) b x y d) b x y d
      (fun q x y => c_ST_compareParts l D cB cI aS aB (10 * k + 5) (240 * k + 120) (fun x y => tw_ST_cmp k b x y (d + 1)) b x y d (ih (d + 1) (dp_s (by decide) hd q)))
theorem c_ST_cmp0 (l : Launch) (D : va_G) (cB cI : ClassId) (aS aB : Nat) (b : Nat → UInt8) (x y : Int32) : Met l y_ST_compare mw_ST_compare { frames := 415, cells := 0, slots := 0, locals := 9960 } (va_Pc [.ref aS, .int x, .int y, .int 0] (fun U => va_P D vwCl [(aS, .inr (0, [.ref aB])), (aB, .inl (cB, 202000, .inl (by_ b)))] U.heap ∧ hk_ D cB cI U)) (vp_Si (fun r => r = tw_ST_cmp0 b x y)) 0 0 (fun _ => False) := c_ST_cmp l D cB cI aS aB b 41 0 (by decide) x y

theorem mx_nn {x : Int32} : ¬ (if x < 0 then 0 else x) < 0 := by
  split
  · decide
  · assumption

set_option maxHeartbeats 4000000 in
set_option maxRecDepth 100000 in
theorem l_ST_hashBytes_h9 {p : Program} {e : Env} {s : State} {m : MethodId} {args : Array Value} {below : List Frame} {meth : Method} {c : Code} {V : Int32} (C0 : lc_C p s m meth c args b_ST_hashBytes 5 (some .int) R_ST lw_g) (l : Launch) (D : va_G) (cB cI : ClassId) (aS aB : Nat) (b : Nat → UInt8) (hP : va_P D vwCl [(aS, .inr (0, [.ref aB])), (aB, .inl (cB, 202000, .inl (by_ b)))] s.heap) (hk : hk_ D cB cI s) (p1 : Int32) : ∀ (n : Nat) (x3 : Int32) (x4 : Int32), (p1.toInt - x4.toInt).toNat < n → ¬ x4 < 0 → V = tw_ST_hashBytes_h9 b p1 n x3 x4 → ∀ ls : Array Slot, lv_has ls 5 [(0, .ref aS), (2, .int p1), (3, .int x3), (4, .int x4)] → W p l e ({ frames := 1, cells := 0, slots := 0, locals := 13 }) s m args below meth c s.heap [] 0 0 (MQ below (vp_Si (fun r => r = V)) args s 0 0 (fun _ => False)) (F0 m 9 ls []) := by
  obtain ⟨hx, hb, hml, hr, hown, hlocks, hT⟩ := id C0
  have hK := hk.1
  have hN := hk.2.1
  intro n
  induction n with
  | zero =>
    intro x3 x4 hm
    exact absurd hm (Nat.not_lt_zero _)
  | succ n ih =>
    intro x3 x4 hm hv1 hV ls hl
    refine lv_iload hx hb d_ST_hashBytes_9 (lv_at hl 3 rfl) ?_
    refine lv_iload_n hx hb d_ST_hashBytes_11 rfl (lv_at hl 1 rfl) ?_
    refine lv_icmp_ge (tgt := 44) hx hb d_ST_hashBytes_12 (by decide) (fun c_1 => ?_) (fun c_1 => ?_)
    · refine lv_iload_n hx hb d_ST_hashBytes_44 rfl (lv_at hl 2 rfl) ?_
      exact W.iret (v := x3) hx hb hr (fun t ht hW => ⟨x3, rfl, (by rw [hV, tw_ST_hashBytes_h9, if_pos c_1]; first | done | rfl), ht⟩) (fun _ h => by cases h) d_ST_hashBytes_45
    · refine lv_iload hx hb d_ST_hashBytes_15 (lv_at hl 3 rfl) ?_
      refine lv_aload_n hx hb d_ST_hashBytes_17 rfl (lv_at hl 0 rfl) ?_
      refine va_get (D := D) (ci := 0) (v := .ref aB) (C := R_ST) (T := T_ST) (N := 1) hx hb hT u_ST hown hK hP 0 rfl rfl 0 (by decide) (hT _ k_37) (fun _ h9 => h9) rfl d_ST_hashBytes_18 ?_
      refine va_alen (v := 202000) hx hb hK hP 1 0 rfl rfl rfl d_ST_hashBytes_21 ?_
      refine lv_icmp_ge (tgt := 44) hx hb d_ST_hashBytes_22 (by decide) (fun c_2 => ?_) (fun c_2 => ?_)
      · refine lv_iload_n hx hb d_ST_hashBytes_44 rfl (lv_at hl 2 rfl) ?_
        exact W.iret (v := x3) hx hb hr (fun t ht hW => ⟨x3, rfl, (by rw [hV, tw_ST_hashBytes_h9, if_neg c_1, if_pos c_2]; first | done | rfl), ht⟩) (fun _ h => by cases h) d_ST_hashBytes_45
      · refine lv_iload_n hx hb d_ST_hashBytes_25 rfl (lv_at hl 2 rfl) ?_
        refine lv_bipush (v := 31) hx hb d_ST_hashBytes_26 (by decide) ?_
        refine lv_imul hx hb d_ST_hashBytes_28 ?_
        refine lv_aload_n hx hb d_ST_hashBytes_29 rfl (lv_at hl 0 rfl) ?_
        refine va_get (D := D) (ci := 0) (v := .ref aB) (C := R_ST) (T := T_ST) (N := 1) hx hb hT u_ST hown hK hP 0 rfl rfl 0 (by decide) (hT _ k_37) (fun _ h9 => h9) rfl d_ST_hashBytes_30 ?_
        refine lv_iload hx hb d_ST_hashBytes_33 (lv_at hl 3 rfl) ?_
        refine va_bald hx hb hK hP 1 0 rfl rfl (in_nn hv1 c_2 rfl) d_ST_hashBytes_35 ?_
        refine lv_iadd hx hb d_ST_hashBytes_36 ?_
        refine lv_istore_n (lv' := [(3, .int ((x3 * 31) + (by_ b x4.toNatClampNeg))), (0, .ref aS), (2, .int p1), (4, .int x4)]) hx hb d_ST_hashBytes_37 rfl hl (by decide) rfl (fun ls hl => ?_)
        refine lv_iinc (v := x4 + 1) (lv' := [(4, .int (x4 + 1)), (3, .int ((x3 * 31) + (by_ b x4.toNatClampNeg))), (0, .ref aS), (2, .int p1)]) hx hb d_ST_hashBytes_38 hl (k := 3) rfl rfl (by decide) rfl (fun ls hl => ?_)
        refine lv_goto (tgt := 9) hx hb d_ST_hashBytes_41 (by decide) ?_
        exact ih ((x3 * 31) + (by_ b x4.toNatClampNeg)) (x4 + 1) (lp_up hm c_1) (i_upn hv1 c_2) (by rw [hV, tw_ST_hashBytes_h9, if_neg c_1, if_neg c_2]) ls (lv_sub hl [2, 3, 1, 0] rfl)
set_option maxHeartbeats 4000000 in
set_option maxRecDepth 100000 in
theorem c_ST_hashBytes (l : Launch) (D : va_G) (cB cI : ClassId) (aS aB : Nat) (b : Nat → UInt8) (p0 : Int32) (p1 : Int32) : Met l y_ST_hashBytes mw_ST_hashBytes { frames := 1, cells := 0, slots := 0, locals := 13 } (va_Pc [.ref aS, .int p0, .int p1] (fun U => va_P D vwCl [(aS, .inr (0, [.ref aB])), (aB, .inl (cB, 202000, .inl (by_ b)))] U.heap ∧ hk_ D cB cI U)) (vp_Si (fun r => r = tw_ST_hashBytes b p0 p1)) 0 0 (fun _ => False) := by
  refine Met.ofW (cc := b_ST_hashBytes) (maxL := 5) (ret := (some .int)) (by decide) rfl ?_
  intro p e s m args below meth c s₁ B0 hml hv
  obtain ⟨rfl, hP, hk⟩ := hv
  have hK := hk.1
  have hN := hk.2.1
  have hx := B0.exec
  have hb := B0.bytes
  have hr := B0.returns
  have hT : ∀ w ∈ lw_g, w.before _ s = true := fun w h => atoms_spec (ws := mw_ST_hashBytes) B0.pre w (List.mem_cons_of_mem _ h)
  have hown : s.vm.findClass R_ST = some m.cls := findClass_of_methodNamed B0.named
  have hlocks := B0.notSynchronized
  have hl := lv_entry ([.ref aS, .int p0, .int p1]) (n := 5) (Nat.le_of_ble_eq_true rfl)
  rw [lg_entry_eq]
  generalize (lg_sl ([.ref aS, .int p0, .int p1]) ++ List.replicate (5 - (lg_sl ([.ref aS, .int p0, .int p1])).length) Slot.unset).toArray = ls at hl ⊢
  have hl : lv_has ls 5 [(0, .ref aS), (1, .int p0), (2, .int p1)] := hl
  have C0 : lc_C p s m meth c _ b_ST_hashBytes 5 (some .int) R_ST lw_g := ⟨hx, hb, hml, hr, hown, hlocks, hT⟩
  refine lv_iconst (v := 3) hx hb d_ST_hashBytes_0 (by decide) ?_
  refine lv_istore_n (lv' := [(3, .int 3), (0, .ref aS), (1, .int p0), (2, .int p1)]) hx hb d_ST_hashBytes_1 rfl hl (by decide) rfl (fun ls hl => ?_)
  refine lv_iload_n hx hb d_ST_hashBytes_2 rfl (lv_at hl 2 rfl) ?_
  refine lv_iconst (v := 0) hx hb d_ST_hashBytes_3 (by decide) ?_
  refine va_mmax hx hb (hml.trans hl.1.symm) hown (hT _ k_774) (hT _ k_627) (hT _ k_13) (hT _ kc_JM_max) (Nat.le_of_ble_eq_true rfl) (Nat.le_of_ble_eq_true rfl) (Nat.zero_le _) (Nat.zero_le _) d_ST_hashBytes_4 ?_
  refine lv_istore (lv' := [(4, .int (if p0 < 0 then 0 else p0)), (3, .int 3), (0, .ref aS), (1, .int p0), (2, .int p1)]) hx hb d_ST_hashBytes_7 hl (by decide) rfl (fun ls hl => ?_)
  exact l_ST_hashBytes_h9 C0 l D cB cI aS aB b hP hk p1  (((p1.toInt - (if p0 < 0 then 0 else p0).toInt).toNat) + 1) 3 (if p0 < 0 then 0 else p0) (Nat.lt_succ_self _) (mx_nn) (by rw [tw_ST_hashBytes]) ls (lv_sub hl [2, 4, 1, 0] rfl)
set_option maxHeartbeats 4000000 in
set_option maxRecDepth 100000 in
theorem c_ST_hashNumber (l : Launch) (D : va_G) (cB cI : ClassId) (p0 : Int64) : Met l y_ST_hashNumber mw_ST_hashNumber { frames := 0, cells := 0, slots := 0, locals := 0 } (va_Pc [.long p0] (fun U => va_P D vwCl [] U.heap ∧ hk_ D cB cI U)) (vp_Si (fun r => r = tw_ST_hashNumber p0)) 0 0 (fun _ => False) := by
  refine Met.ofW (cc := b_ST_hashNumber) (maxL := 3) (ret := (some .int)) (by decide) rfl ?_
  intro p e s m args below meth c s₁ B0 hml hv
  obtain ⟨rfl, hP, hk⟩ := hv
  have hK := hk.1
  have hN := hk.2.1
  have hx := B0.exec
  have hb := B0.bytes
  have hr := B0.returns
  have hT : ∀ w ∈ lw_g, w.before _ s = true := fun w h => atoms_spec (ws := mw_ST_hashNumber) B0.pre w (List.mem_cons_of_mem _ h)
  have hown : s.vm.findClass R_ST = some m.cls := findClass_of_methodNamed B0.named
  have hlocks := B0.notSynchronized
  have hl := lv_entry ([.long p0]) (n := 3) (Nat.le_of_ble_eq_true rfl)
  rw [lg_entry_eq]
  generalize (lg_sl ([.long p0]) ++ List.replicate (3 - (lg_sl ([.long p0])).length) Slot.unset).toArray = ls at hl ⊢
  have hl : lv_has ls 3 [(0, .long p0)] := hl
  refine lv_lload_n hx hb d_ST_hashNumber_0 rfl (lv_at hl 0 rfl) ?_
  refine lv_lload_n hx hb d_ST_hashNumber_1 rfl (lv_at hl 0 rfl) ?_
  refine lv_bipush (v := 32) hx hb d_ST_hashNumber_2 (by decide) ?_
  refine lv_lushr hx hb d_ST_hashNumber_4 rfl ?_
  refine lv_lxor hx hb d_ST_hashNumber_5 ?_
  refine lv_l2i (v := (p0 ^^^ ((p0.toUInt64 >>> ((32 : Int32).toInt64.toUInt64 &&& Int64.toUInt64 63)).toInt64)).toInt32) hx hb d_ST_hashNumber_6 rfl ?_
  refine lv_ldc (v := 625341585) hx hb hown (hT _ k_769) d_ST_hashNumber_7 ?_
  refine lv_imul hx hb d_ST_hashNumber_9 ?_
  refine lv_istore_n (lv' := [(2, .int (((p0 ^^^ ((p0.toUInt64 >>> ((32 : Int32).toInt64.toUInt64 &&& Int64.toUInt64 63)).toInt64)).toInt32) * 625341585)), (0, .long p0)]) hx hb d_ST_hashNumber_10 rfl hl (by decide) rfl (fun ls hl => ?_)
  refine lv_iload_n hx hb d_ST_hashNumber_11 rfl (lv_at hl 0 rfl) ?_
  refine lv_iload_n hx hb d_ST_hashNumber_12 rfl (lv_at hl 0 rfl) ?_
  refine lv_bipush (v := 15) hx hb d_ST_hashNumber_13 (by decide) ?_
  refine lv_iushr (v := ((((p0 ^^^ ((p0.toUInt64 >>> ((32 : Int32).toInt64.toUInt64 &&& Int64.toUInt64 63)).toInt64)).toInt32) * 625341585).toUInt32 >>> ((15 : Int32).toUInt32 &&& Int32.toUInt32 31)).toInt32) hx hb d_ST_hashNumber_15 rfl ?_
  refine lv_ixor hx hb d_ST_hashNumber_16 ?_
  exact W.iret (v := (((p0 ^^^ ((p0.toUInt64 >>> ((32 : Int32).toInt64.toUInt64 &&& Int64.toUInt64 63)).toInt64)).toInt32) * 625341585) ^^^ (((((p0 ^^^ ((p0.toUInt64 >>> ((32 : Int32).toInt64.toUInt64 &&& Int64.toUInt64 63)).toInt64)).toInt32) * 625341585).toUInt32 >>> ((15 : Int32).toUInt32 &&& Int32.toUInt32 31)).toInt32)) hx hb hr (fun t ht hW => ⟨(((p0 ^^^ ((p0.toUInt64 >>> ((32 : Int32).toInt64.toUInt64 &&& Int64.toUInt64 63)).toInt64)).toInt32) * 625341585) ^^^ (((((p0 ^^^ ((p0.toUInt64 >>> ((32 : Int32).toInt64.toUInt64 &&& Int64.toUInt64 63)).toInt64)).toInt32) * 625341585).toUInt32 >>> ((15 : Int32).toUInt32 &&& Int32.toUInt32 31)).toInt32), rfl, (by rw [tw_ST_hashNumber]; first | done | rfl), ht⟩) (fun _ h => by cases h) d_ST_hashNumber_17
set_option maxHeartbeats 4000000 in
set_option maxRecDepth 100000 in
theorem l_ST_hashParts_h25 {p : Program} {e : Env} {s : State} {m : MethodId} {args : Array Value} {below : List Frame} {meth : Method} {c : Code} {V : Int32} (C0 : lc_C p s m meth c args b_ST_hashParts 8 (some .int) R_ST lw_g) (l : Launch) (D : va_G) (cB cI : ClassId) (aS aB : Nat) (rF : Nat) (rL : Nat) (fc : Int32 → Int32) (b : Nat → UInt8) (hP : va_P D vwCl [(aS, .inr (0, [.ref aB])), (aB, .inl (cB, 202000, .inl (by_ b)))] s.heap) (hk : hk_ D cB cI s) (p0 : Int32) (p1 : Int32) (x3 : Int32) (hc : ∀ x : Int32, Met l y_ST_hash mw_ST_hash { frames := rF, cells := 0, slots := 0, locals := rL } (va_Pc [.ref aS, .int x, .int (p1 + 1)] (fun U => va_P D vwCl [(aS, .inr (0, [.ref aB])), (aB, .inl (cB, 202000, .inl (by_ b)))] U.heap ∧ hk_ D cB cI U)) (vp_Si (fun r => r = fc x)) 0 0 (fun _ => False)) : ∀ (n : Nat) (x4 : Int32) (x5 : Int32) (x6 : Int32), ((1000 : Int32).toInt - x6.toInt).toNat < n → V = tw_ST_hashParts_h25 fc b p0 p1 x3 n x4 x5 x6 → ∀ ls : Array Slot, lv_has ls 8 [(0, .ref aS), (1, .int p0), (2, .int p1), (3, .int x3), (4, .int x4), (5, .int x5), (6, .int x6)] → W p l e ({ frames := rF + 5, cells := 0, slots := 0, locals := rL + 120 }) s m args below meth c s.heap [] 0 0 (MQ below (vp_Si (fun r => r = V)) args s 0 0 (fun _ => False)) (F0 m 25 ls []) := by
  obtain ⟨hx, hb, hml, hr, hown, hlocks, hT⟩ := id C0
  have hK := hk.1
  have hN := hk.2.1
  intro n
  induction n with
  | zero =>
    intro x4 x5 x6 hm
    exact absurd hm (Nat.not_lt_zero _)
  | succ n ih =>
    intro x4 x5 x6 hm hV ls hl
    refine lv_iload hx hb d_ST_hashParts_25 (lv_at hl 6 rfl) ?_
    refine lv_sipush (v := 1000) hx hb d_ST_hashParts_27 (by decide) ?_
    refine lv_icmp_ge (tgt := 109) hx hb d_ST_hashParts_30 (by decide) (fun c_1 => ?_) (fun c_1 => ?_)
    · refine lv_iload hx hb d_ST_hashParts_109 (lv_at hl 5 rfl) ?_
      exact W.iret (v := x5) hx hb hr (fun t ht hW => ⟨x5, rfl, (by rw [hV, tw_ST_hashParts_h25, if_pos c_1]; first | done | rfl), ht⟩) (fun _ h => by cases h) d_ST_hashParts_111
    · refine lv_iload hx hb d_ST_hashParts_33 (lv_at hl 4 rfl) ?_
      refine lv_iload_n hx hb d_ST_hashParts_35 rfl (lv_at hl 3 rfl) ?_
      refine lv_icmp_ge (tgt := 109) hx hb d_ST_hashParts_36 (by decide) (fun c_2 => ?_) (fun c_2 => ?_)
      · refine lv_iload hx hb d_ST_hashParts_109 (lv_at hl 5 rfl) ?_
        exact W.iret (v := x5) hx hb hr (fun t ht hW => ⟨x5, rfl, (by rw [hV, tw_ST_hashParts_h25, if_neg c_1, if_pos c_2]; first | done | rfl), ht⟩) (fun _ h => by cases h) d_ST_hashParts_111
      · refine lv_aload_n hx hb d_ST_hashParts_39 rfl (lv_at hl 0 rfl) ?_
        refine lv_iload hx hb d_ST_hashParts_40 (lv_at hl 4 rfl) ?_
        refine rd_V (val := tw_ST_valueOf b x4) (As := [.int x4]) (rest := []) ⟨hx, hb, hml, hown, hT⟩ (c_ST_valueOf l D cB cI aS aB b x4) (cwV 1 hT (gV_of k_485 k_399 k_400 k_2 kc_ST_valueOf) rfl rfl rfl hd_ST_valueOf ⟨rl_s (Nat.le_of_ble_eq_true rfl), rl_s (Nat.le_of_ble_eq_true rfl)⟩) hk hP (q0 := 0) rfl rfl rfl rfl hl.1 rfl (Nat.le_of_ble_eq_true rfl) d_ST_hashParts_42 ⟨Nat.zero_le _, Nat.zero_le _⟩ ?_
        refine lv_istore (lv' := [(7, .int (tw_ST_valueOf b x4)), (0, .ref aS), (1, .int p0), (2, .int p1), (3, .int x3), (4, .int x4), (5, .int x5), (6, .int x6)]) hx hb d_ST_hashParts_45 hl (by decide) rfl (fun ls hl => ?_)
        refine lv_iload_n hx hb d_ST_hashParts_47 rfl (lv_at hl 2 rfl) ?_
        refine rd_S (val := tw_ST_kindOf p0) (As := [.int p0]) (rest := []) ⟨hx, hb, hml, hown, hT⟩ (c_ST_kindOf l D cB cI p0) (va_cwS 1 hT (gS_of k_667 k_555 k_2 kc_ST_kindOf) rfl rfl rfl hd_ST_kindOf ⟨rl_s (Nat.le_of_ble_eq_true rfl), rl_s (Nat.le_of_ble_eq_true rfl)⟩) hk (va_P_nil) rfl hl.1 rfl (Nat.le_of_ble_eq_true rfl) d_ST_hashParts_48 ⟨Nat.zero_le _, Nat.zero_le _⟩ ?_
        refine lv_iconst (v := 3) hx hb d_ST_hashParts_51 (by decide) ?_
        refine lv_icmp_ne (tgt := 78) hx hb d_ST_hashParts_52 (by decide) (fun c_3 => ?_) (fun c_3 => ?_)
        · refine lv_iload hx hb d_ST_hashParts_78 (lv_at hl 6 rfl) ?_
          refine lv_bipush (v := 31) hx hb d_ST_hashParts_80 (by decide) ?_
          refine lv_imul hx hb d_ST_hashParts_82 ?_
          refine lv_aload_n hx hb d_ST_hashParts_83 rfl (lv_at hl 1 rfl) ?_
          refine lv_iload hx hb d_ST_hashParts_84 (lv_at hl 0 rfl) ?_
          refine lv_iload_n hx hb d_ST_hashParts_86 rfl (lv_at hl 3 rfl) ?_
          refine lv_iconst (v := 1) hx hb d_ST_hashParts_87 (by decide) ?_
          refine lv_iadd hx hb d_ST_hashParts_88 ?_
          refine rd_V (val := fc (tw_ST_valueOf b x4)) (As := [.int (tw_ST_valueOf b x4), .int (p1 + 1)]) (rest := [.int (x5 * 31)]) ⟨hx, hb, hml, hown, hT⟩ (hc (tw_ST_valueOf b x4)) (cwV 2 hT (gV_of k_782 k_757 k_758 k_2 kc_ST_hash) rfl rfl rfl hd_ST_hash ⟨rl_f (Nat.le_of_ble_eq_true rfl), rl_l (Nat.le_of_ble_eq_true rfl)⟩) hk hP (q0 := 0) rfl rfl rfl rfl hl.1 rfl (Nat.le_of_ble_eq_true rfl) d_ST_hashParts_89 ⟨Nat.zero_le _, Nat.zero_le _⟩ ?_
          refine lv_iadd hx hb d_ST_hashParts_92 ?_
          refine lv_istore (lv' := [(5, .int ((x5 * 31) + (fc (tw_ST_valueOf b x4)))), (7, .int (tw_ST_valueOf b x4)), (0, .ref aS), (1, .int p0), (2, .int p1), (3, .int x3), (4, .int x4), (6, .int x6)]) hx hb d_ST_hashParts_93 hl (by decide) rfl (fun ls hl => ?_)
          refine lv_aload_n hx hb d_ST_hashParts_95 rfl (lv_at hl 2 rfl) ?_
          refine lv_iload hx hb d_ST_hashParts_96 (lv_at hl 1 rfl) ?_
          refine rd_V (val := tw_ST_endOf b (tw_ST_valueOf b x4)) (As := [.int (tw_ST_valueOf b x4)]) (rest := []) ⟨hx, hb, hml, hown, hT⟩ (c_ST_endOf l D cB cI aS aB b (tw_ST_valueOf b x4)) (cwV 1 hT (gV_of k_483 k_416 k_417 k_2 kc_ST_endOf) rfl rfl rfl hd_ST_endOf ⟨rl_s (Nat.le_of_ble_eq_true rfl), rl_s (Nat.le_of_ble_eq_true rfl)⟩) hk hP (q0 := 0) rfl rfl rfl rfl hl.1 rfl (Nat.le_of_ble_eq_true rfl) d_ST_hashParts_98 ⟨Nat.zero_le _, Nat.zero_le _⟩ ?_
          refine lv_istore (lv' := [(4, .int (tw_ST_endOf b (tw_ST_valueOf b x4))), (5, .int ((x5 * 31) + (fc (tw_ST_valueOf b x4)))), (7, .int (tw_ST_valueOf b x4)), (0, .ref aS), (1, .int p0), (2, .int p1), (3, .int x3), (6, .int x6)]) hx hb d_ST_hashParts_101 hl (by decide) rfl (fun ls hl => ?_)
          refine lv_iinc (v := x6 + 1) (lv' := [(6, .int (x6 + 1)), (4, .int (tw_ST_endOf b (tw_ST_valueOf b x4))), (5, .int ((x5 * 31) + (fc (tw_ST_valueOf b x4)))), (7, .int (tw_ST_valueOf b x4)), (0, .ref aS), (1, .int p0), (2, .int p1), (3, .int x3)]) hx hb d_ST_hashParts_103 hl (k := 7) rfl rfl (by decide) rfl (fun ls hl => ?_)
          refine lv_goto (tgt := 25) hx hb d_ST_hashParts_106 (by decide) ?_
          exact ih (tw_ST_endOf b (tw_ST_valueOf b x4)) ((x5 * 31) + (fc (tw_ST_valueOf b x4))) (x6 + 1) (lp_up hm c_1) (by rw [hV, tw_ST_hashParts_h25, if_neg c_1, if_neg c_2, if_neg c_3]) ls (lv_sub hl [4, 5, 6, 7, 1, 2, 0] rfl)
        · refine lv_iload hx hb d_ST_hashParts_55 (lv_at hl 6 rfl) ?_
          refine lv_bipush (v := 31) hx hb d_ST_hashParts_57 (by decide) ?_
          refine lv_imul hx hb d_ST_hashParts_59 ?_
          refine lv_aload_n hx hb d_ST_hashParts_60 rfl (lv_at hl 1 rfl) ?_
          refine lv_iload hx hb d_ST_hashParts_61 (lv_at hl 5 rfl) ?_
          refine lv_iconst (v := 1) hx hb d_ST_hashParts_63 (by decide) ?_
          refine lv_iadd hx hb d_ST_hashParts_64 ?_
          refine lv_iload hx hb d_ST_hashParts_65 (lv_at hl 0 rfl) ?_
          refine rd_S (val := tw_ST_placeOf (tw_ST_valueOf b x4)) (As := [.int (tw_ST_valueOf b x4)]) (rest := [.int (x4 + 1), .ref aS, .int (x5 * 31)]) ⟨hx, hb, hml, hown, hT⟩ (c_ST_placeOf l D cB cI (tw_ST_valueOf b x4)) (va_cwS 1 hT (gS_of k_484 k_403 k_2 kc_ST_placeOf) rfl rfl rfl hd_ST_placeOf ⟨rl_s (Nat.le_of_ble_eq_true rfl), rl_s (Nat.le_of_ble_eq_true rfl)⟩) hk (va_P_nil) rfl hl.1 rfl (Nat.le_of_ble_eq_true rfl) d_ST_hashParts_67 ⟨Nat.zero_le _, Nat.zero_le _⟩ ?_
          refine lv_iconst (v := 1) hx hb d_ST_hashParts_70 (by decide) ?_
          refine lv_isub hx hb d_ST_hashParts_71 ?_
          refine rd_V (val := tw_ST_hashBytes b (x4 + 1) ((tw_ST_placeOf (tw_ST_valueOf b x4)) - 1)) (As := [.int (x4 + 1), .int ((tw_ST_placeOf (tw_ST_valueOf b x4)) - 1)]) (rest := [.int (x5 * 31)]) ⟨hx, hb, hml, hown, hT⟩ (c_ST_hashBytes l D cB cI aS aB b (x4 + 1) ((tw_ST_placeOf (tw_ST_valueOf b x4)) - 1)) (cwV 2 hT (gV_of k_770 k_772 kp_ST_hashBytes k_2 kc_ST_hashBytes) rfl rfl rfl hd_ST_hashBytes ⟨rl_s (Nat.le_of_ble_eq_true rfl), rl_s (Nat.le_of_ble_eq_true rfl)⟩) hk hP (q0 := 0) rfl rfl rfl rfl hl.1 rfl (Nat.le_of_ble_eq_true rfl) d_ST_hashParts_72 ⟨Nat.zero_le _, Nat.zero_le _⟩ ?_
          refine lv_iadd hx hb d_ST_hashParts_75 ?_
          refine lv_istore (lv' := [(5, .int ((x5 * 31) + (tw_ST_hashBytes b (x4 + 1) ((tw_ST_placeOf (tw_ST_valueOf b x4)) - 1)))), (7, .int (tw_ST_valueOf b x4)), (0, .ref aS), (1, .int p0), (2, .int p1), (3, .int x3), (4, .int x4), (6, .int x6)]) hx hb d_ST_hashParts_76 hl (by decide) rfl (fun ls hl => ?_)
          refine lv_iload hx hb d_ST_hashParts_78 (lv_at hl 0 rfl) ?_
          refine lv_bipush (v := 31) hx hb d_ST_hashParts_80 (by decide) ?_
          refine lv_imul hx hb d_ST_hashParts_82 ?_
          refine lv_aload_n hx hb d_ST_hashParts_83 rfl (lv_at hl 2 rfl) ?_
          refine lv_iload hx hb d_ST_hashParts_84 (lv_at hl 1 rfl) ?_
          refine lv_iload_n hx hb d_ST_hashParts_86 rfl (lv_at hl 4 rfl) ?_
          refine lv_iconst (v := 1) hx hb d_ST_hashParts_87 (by decide) ?_
          refine lv_iadd hx hb d_ST_hashParts_88 ?_
          refine rd_V (val := fc (tw_ST_valueOf b x4)) (As := [.int (tw_ST_valueOf b x4), .int (p1 + 1)]) (rest := [.int (((x5 * 31) + (tw_ST_hashBytes b (x4 + 1) ((tw_ST_placeOf (tw_ST_valueOf b x4)) - 1))) * 31)]) ⟨hx, hb, hml, hown, hT⟩ (hc (tw_ST_valueOf b x4)) (cwV 2 hT (gV_of k_782 k_757 k_758 k_2 kc_ST_hash) rfl rfl rfl hd_ST_hash ⟨rl_f (Nat.le_of_ble_eq_true rfl), rl_l (Nat.le_of_ble_eq_true rfl)⟩) hk hP (q0 := 0) rfl rfl rfl rfl hl.1 rfl (Nat.le_of_ble_eq_true rfl) d_ST_hashParts_89 ⟨Nat.zero_le _, Nat.zero_le _⟩ ?_
          refine lv_iadd hx hb d_ST_hashParts_92 ?_
          refine lv_istore (lv' := [(5, .int ((((x5 * 31) + (tw_ST_hashBytes b (x4 + 1) ((tw_ST_placeOf (tw_ST_valueOf b x4)) - 1))) * 31) + (fc (tw_ST_valueOf b x4)))), (7, .int (tw_ST_valueOf b x4)), (0, .ref aS), (1, .int p0), (2, .int p1), (3, .int x3), (4, .int x4), (6, .int x6)]) hx hb d_ST_hashParts_93 hl (by decide) rfl (fun ls hl => ?_)
          refine lv_aload_n hx hb d_ST_hashParts_95 rfl (lv_at hl 2 rfl) ?_
          refine lv_iload hx hb d_ST_hashParts_96 (lv_at hl 1 rfl) ?_
          refine rd_V (val := tw_ST_endOf b (tw_ST_valueOf b x4)) (As := [.int (tw_ST_valueOf b x4)]) (rest := []) ⟨hx, hb, hml, hown, hT⟩ (c_ST_endOf l D cB cI aS aB b (tw_ST_valueOf b x4)) (cwV 1 hT (gV_of k_483 k_416 k_417 k_2 kc_ST_endOf) rfl rfl rfl hd_ST_endOf ⟨rl_s (Nat.le_of_ble_eq_true rfl), rl_s (Nat.le_of_ble_eq_true rfl)⟩) hk hP (q0 := 0) rfl rfl rfl rfl hl.1 rfl (Nat.le_of_ble_eq_true rfl) d_ST_hashParts_98 ⟨Nat.zero_le _, Nat.zero_le _⟩ ?_
          refine lv_istore (lv' := [(4, .int (tw_ST_endOf b (tw_ST_valueOf b x4))), (5, .int ((((x5 * 31) + (tw_ST_hashBytes b (x4 + 1) ((tw_ST_placeOf (tw_ST_valueOf b x4)) - 1))) * 31) + (fc (tw_ST_valueOf b x4)))), (7, .int (tw_ST_valueOf b x4)), (0, .ref aS), (1, .int p0), (2, .int p1), (3, .int x3), (6, .int x6)]) hx hb d_ST_hashParts_101 hl (by decide) rfl (fun ls hl => ?_)
          refine lv_iinc (v := x6 + 1) (lv' := [(6, .int (x6 + 1)), (4, .int (tw_ST_endOf b (tw_ST_valueOf b x4))), (5, .int ((((x5 * 31) + (tw_ST_hashBytes b (x4 + 1) ((tw_ST_placeOf (tw_ST_valueOf b x4)) - 1))) * 31) + (fc (tw_ST_valueOf b x4)))), (7, .int (tw_ST_valueOf b x4)), (0, .ref aS), (1, .int p0), (2, .int p1), (3, .int x3)]) hx hb d_ST_hashParts_103 hl (k := 7) rfl rfl (by decide) rfl (fun ls hl => ?_)
          refine lv_goto (tgt := 25) hx hb d_ST_hashParts_106 (by decide) ?_
          exact ih (tw_ST_endOf b (tw_ST_valueOf b x4)) ((((x5 * 31) + (tw_ST_hashBytes b (x4 + 1) ((tw_ST_placeOf (tw_ST_valueOf b x4)) - 1))) * 31) + (fc (tw_ST_valueOf b x4))) (x6 + 1) (lp_up hm c_1) (by rw [hV, tw_ST_hashParts_h25, if_neg c_1, if_neg c_2, if_pos c_3]) ls (lv_sub hl [4, 5, 6, 7, 1, 2, 0] rfl)
set_option maxHeartbeats 4000000 in
set_option maxRecDepth 100000 in
theorem c_ST_hashParts (l : Launch) (D : va_G) (cB cI : ClassId) (aS aB : Nat) (rF : Nat) (rL : Nat) (fc : Int32 → Int32) (b : Nat → UInt8) (p0 : Int32) (p1 : Int32) (hc : ∀ x : Int32, Met l y_ST_hash mw_ST_hash { frames := rF, cells := 0, slots := 0, locals := rL } (va_Pc [.ref aS, .int x, .int (p1 + 1)] (fun U => va_P D vwCl [(aS, .inr (0, [.ref aB])), (aB, .inl (cB, 202000, .inl (by_ b)))] U.heap ∧ hk_ D cB cI U)) (vp_Si (fun r => r = fc x)) 0 0 (fun _ => False)) : Met l y_ST_hashParts mw_ST_hashParts { frames := rF + 5, cells := 0, slots := 0, locals := rL + 120 } (va_Pc [.ref aS, .int p0, .int p1] (fun U => va_P D vwCl [(aS, .inr (0, [.ref aB])), (aB, .inl (cB, 202000, .inl (by_ b)))] U.heap ∧ hk_ D cB cI U)) (vp_Si (fun r => r = tw_ST_hashParts fc b p0 p1)) 0 0 (fun _ => False) := by
  refine Met.ofW (cc := b_ST_hashParts) (maxL := 8) (ret := (some .int)) (by decide) rfl ?_
  intro p e s m args below meth c s₁ B0 hml hv
  obtain ⟨rfl, hP, hk⟩ := hv
  have hK := hk.1
  have hN := hk.2.1
  have hx := B0.exec
  have hb := B0.bytes
  have hr := B0.returns
  have hT : ∀ w ∈ lw_g, w.before _ s = true := fun w h => atoms_spec (ws := mw_ST_hashParts) B0.pre w (List.mem_cons_of_mem _ h)
  have hown : s.vm.findClass R_ST = some m.cls := findClass_of_methodNamed B0.named
  have hlocks := B0.notSynchronized
  have hl := lv_entry ([.ref aS, .int p0, .int p1]) (n := 8) (Nat.le_of_ble_eq_true rfl)
  rw [lg_entry_eq]
  generalize (lg_sl ([.ref aS, .int p0, .int p1]) ++ List.replicate (8 - (lg_sl ([.ref aS, .int p0, .int p1])).length) Slot.unset).toArray = ls at hl ⊢
  have hl : lv_has ls 8 [(0, .ref aS), (1, .int p0), (2, .int p1)] := hl
  have C0 : lc_C p s m meth c _ b_ST_hashParts 8 (some .int) R_ST lw_g := ⟨hx, hb, hml, hr, hown, hlocks, hT⟩
  refine lv_aload_n hx hb d_ST_hashParts_0 rfl (lv_at hl 0 rfl) ?_
  refine lv_iload_n hx hb d_ST_hashParts_1 rfl (lv_at hl 1 rfl) ?_
  refine rd_V (val := tw_ST_endOf b p0) (As := [.int p0]) (rest := []) ⟨hx, hb, hml, hown, hT⟩ (c_ST_endOf l D cB cI aS aB b p0) (cwV 1 hT (gV_of k_483 k_416 k_417 k_2 kc_ST_endOf) rfl rfl rfl hd_ST_endOf ⟨rl_s (Nat.le_of_ble_eq_true rfl), rl_s (Nat.le_of_ble_eq_true rfl)⟩) hk hP (q0 := 0) rfl rfl rfl rfl hl.1 rfl (Nat.le_of_ble_eq_true rfl) d_ST_hashParts_2 ⟨Nat.zero_le _, Nat.zero_le _⟩ ?_
  refine lv_iconst (v := 1) hx hb d_ST_hashParts_5 (by decide) ?_
  refine lv_isub hx hb d_ST_hashParts_6 ?_
  refine lv_istore_n (lv' := [(3, .int ((tw_ST_endOf b p0) - 1)), (0, .ref aS), (1, .int p0), (2, .int p1)]) hx hb d_ST_hashParts_7 rfl hl (by decide) rfl (fun ls hl => ?_)
  refine lv_iload_n hx hb d_ST_hashParts_8 rfl (lv_at hl 2 rfl) ?_
  refine rd_S (val := tw_ST_placeOf p0) (As := [.int p0]) (rest := []) ⟨hx, hb, hml, hown, hT⟩ (c_ST_placeOf l D cB cI p0) (va_cwS 1 hT (gS_of k_484 k_403 k_2 kc_ST_placeOf) rfl rfl rfl hd_ST_placeOf ⟨rl_s (Nat.le_of_ble_eq_true rfl), rl_s (Nat.le_of_ble_eq_true rfl)⟩) hk (va_P_nil) rfl hl.1 rfl (Nat.le_of_ble_eq_true rfl) d_ST_hashParts_9 ⟨Nat.zero_le _, Nat.zero_le _⟩ ?_
  refine lv_iconst (v := 4) hx hb d_ST_hashParts_12 (by decide) ?_
  refine lv_iadd hx hb d_ST_hashParts_13 ?_
  refine lv_istore (lv' := [(4, .int ((tw_ST_placeOf p0) + 4)), (3, .int ((tw_ST_endOf b p0) - 1)), (0, .ref aS), (1, .int p0), (2, .int p1)]) hx hb d_ST_hashParts_14 hl (by decide) rfl (fun ls hl => ?_)
  refine lv_iload_n hx hb d_ST_hashParts_16 rfl (lv_at hl 3 rfl) ?_
  refine rd_S (val := tw_ST_classOf p0) (As := [.int p0]) (rest := []) ⟨hx, hb, hml, hown, hT⟩ (c_ST_classOf l D cB cI p0) (va_cwS 1 hT (gS_of k_779 k_780 k_2 kc_ST_classOf) rfl rfl rfl hd_ST_classOf ⟨rl_s (Nat.le_of_ble_eq_true rfl), rl_s (Nat.le_of_ble_eq_true rfl)⟩) hk (va_P_nil) rfl hl.1 rfl (Nat.le_of_ble_eq_true rfl) d_ST_hashParts_17 ⟨Nat.zero_le _, Nat.zero_le _⟩ ?_
  refine lv_istore (lv' := [(5, .int (tw_ST_classOf p0)), (4, .int ((tw_ST_placeOf p0) + 4)), (3, .int ((tw_ST_endOf b p0) - 1)), (0, .ref aS), (1, .int p0), (2, .int p1)]) hx hb d_ST_hashParts_20 hl (by decide) rfl (fun ls hl => ?_)
  refine lv_iconst (v := 0) hx hb d_ST_hashParts_22 (by decide) ?_
  refine lv_istore (lv' := [(6, .int 0), (5, .int (tw_ST_classOf p0)), (4, .int ((tw_ST_placeOf p0) + 4)), (3, .int ((tw_ST_endOf b p0) - 1)), (0, .ref aS), (1, .int p0), (2, .int p1)]) hx hb d_ST_hashParts_23 hl (by decide) rfl (fun ls hl => ?_)
  exact l_ST_hashParts_h25 C0 l D cB cI aS aB rF rL fc b hP hk p0 p1 ((tw_ST_endOf b p0) - 1) hc  ((((1000 : Int32).toInt - (0 : Int32).toInt).toNat) + 1) ((tw_ST_placeOf p0) + 4) (tw_ST_classOf p0) 0 (Nat.lt_succ_self _) (by rw [tw_ST_hashParts]) ls (lv_sub hl [4, 5, 6, 3, 2, 1, 0] rfl)
set_option maxHeartbeats 4000000 in
set_option maxRecDepth 100000 in
theorem c_ST_hash (l : Launch) (D : va_G) (cB cI : ClassId) (aS aB : Nat) (rF : Nat) (rL : Nat) (fp : Int32 → Int32) (b : Nat → UInt8) (p0 : Int32) (p1 : Int32) (hp : p1 ≤ 40 → ∀ x : Int32, Met l y_ST_hashParts mw_ST_hashParts { frames := rF, cells := 0, slots := 0, locals := rL } (va_Pc [.ref aS, .int x, .int p1] (fun U => va_P D vwCl [(aS, .inr (0, [.ref aB])), (aB, .inl (cB, 202000, .inl (by_ b)))] U.heap ∧ hk_ D cB cI U)) (vp_Si (fun r => r = fp x)) 0 0 (fun _ => False)) : Met l y_ST_hash mw_ST_hash { frames := rF + 5, cells := 0, slots := 0, locals := rL + 120 } (va_Pc [.ref aS, .int p0, .int p1] (fun U => va_P D vwCl [(aS, .inr (0, [.ref aB])), (aB, .inl (cB, 202000, .inl (by_ b)))] U.heap ∧ hk_ D cB cI U)) (vp_Si (fun r => r = tw_ST_hash fp b p0 p1)) 0 0 (fun _ => False) := by
  refine Met.ofW (cc := b_ST_hash) (maxL := 4) (ret := (some .int)) (by decide) rfl ?_
  intro p e s m args below meth c s₁ B0 hml hv
  obtain ⟨rfl, hP, hk⟩ := hv
  have hK := hk.1
  have hN := hk.2.1
  have hx := B0.exec
  have hb := B0.bytes
  have hr := B0.returns
  have hT : ∀ w ∈ lw_g, w.before _ s = true := fun w h => atoms_spec (ws := mw_ST_hash) B0.pre w (List.mem_cons_of_mem _ h)
  have hown : s.vm.findClass R_ST = some m.cls := findClass_of_methodNamed B0.named
  have hlocks := B0.notSynchronized
  have hl := lv_entry ([.ref aS, .int p0, .int p1]) (n := 4) (Nat.le_of_ble_eq_true rfl)
  rw [lg_entry_eq]
  generalize (lg_sl ([.ref aS, .int p0, .int p1]) ++ List.replicate (4 - (lg_sl ([.ref aS, .int p0, .int p1])).length) Slot.unset).toArray = ls at hl ⊢
  have hl : lv_has ls 4 [(0, .ref aS), (1, .int p0), (2, .int p1)] := hl
  refine lv_iload_n hx hb d_ST_hash_0 rfl (lv_at hl 1 rfl) ?_
  refine rd_S (val := tw_ST_placeOf p0) (As := [.int p0]) (rest := []) ⟨hx, hb, hml, hown, hT⟩ (c_ST_placeOf l D cB cI p0) (va_cwS 1 hT (gS_of k_484 k_403 k_2 kc_ST_placeOf) rfl rfl rfl hd_ST_placeOf ⟨rl_s (Nat.le_of_ble_eq_true rfl), rl_s (Nat.le_of_ble_eq_true rfl)⟩) hk (va_P_nil) rfl hl.1 rfl (Nat.le_of_ble_eq_true rfl) d_ST_hash_1 ⟨Nat.zero_le _, Nat.zero_le _⟩ ?_
  refine lv_istore_n (lv' := [(3, .int (tw_ST_placeOf p0)), (0, .ref aS), (1, .int p0), (2, .int p1)]) hx hb d_ST_hash_4 rfl hl (by decide) rfl (fun ls hl => ?_)
  refine lv_iload_n hx hb d_ST_hash_5 rfl (lv_at hl 2 rfl) ?_
  refine rd_S (val := tw_ST_kindOf p0) (As := [.int p0]) (rest := []) ⟨hx, hb, hml, hown, hT⟩ (c_ST_kindOf l D cB cI p0) (va_cwS 1 hT (gS_of k_667 k_555 k_2 kc_ST_kindOf) rfl rfl rfl hd_ST_kindOf ⟨rl_s (Nat.le_of_ble_eq_true rfl), rl_s (Nat.le_of_ble_eq_true rfl)⟩) hk (va_P_nil) rfl hl.1 rfl (Nat.le_of_ble_eq_true rfl) d_ST_hash_6 ⟨Nat.zero_le _, Nat.zero_le _⟩ ?_
  by_cases c_1 : (tw_ST_kindOf p0) = 2
  · refine sw_T (tgt := 119) hx hb d_ST_hash_9 (Or.inr ⟨by rw [c_1]; decide, by rw [c_1]; decide, 110, by rw [c_1]; rfl, by decide⟩) ?_
    refine lv_aload_n hx hb d_ST_hash_119 rfl (lv_at hl 1 rfl) ?_
    refine lv_iload_n hx hb d_ST_hash_120 rfl (lv_at hl 0 rfl) ?_
    refine lv_iconst (v := 4) hx hb d_ST_hash_121 (by decide) ?_
    refine lv_iadd hx hb d_ST_hash_122 ?_
    refine lv_aload_n hx hb d_ST_hash_123 rfl (lv_at hl 1 rfl) ?_
    refine lv_iload_n hx hb d_ST_hash_124 rfl (lv_at hl 2 rfl) ?_
    refine rd_V (val := tw_ST_endOf b p0) (As := [.int p0]) (rest := [.int ((tw_ST_placeOf p0) + 4), .ref aS]) ⟨hx, hb, hml, hown, hT⟩ (c_ST_endOf l D cB cI aS aB b p0) (cwV 1 hT (gV_of k_483 k_416 k_417 k_2 kc_ST_endOf) rfl rfl rfl hd_ST_endOf ⟨rl_s (Nat.le_of_ble_eq_true rfl), rl_s (Nat.le_of_ble_eq_true rfl)⟩) hk hP (q0 := 0) rfl rfl rfl rfl hl.1 rfl (Nat.le_of_ble_eq_true rfl) d_ST_hash_125 ⟨Nat.zero_le _, Nat.zero_le _⟩ ?_
    refine lv_iconst (v := 1) hx hb d_ST_hash_128 (by decide) ?_
    refine lv_isub hx hb d_ST_hash_129 ?_
    refine rd_V (val := tw_ST_hashBytes b ((tw_ST_placeOf p0) + 4) ((tw_ST_endOf b p0) - 1)) (As := [.int ((tw_ST_placeOf p0) + 4), .int ((tw_ST_endOf b p0) - 1)]) (rest := []) ⟨hx, hb, hml, hown, hT⟩ (c_ST_hashBytes l D cB cI aS aB b ((tw_ST_placeOf p0) + 4) ((tw_ST_endOf b p0) - 1)) (cwV 2 hT (gV_of k_770 k_772 kp_ST_hashBytes k_2 kc_ST_hashBytes) rfl rfl rfl hd_ST_hashBytes ⟨rl_s (Nat.le_of_ble_eq_true rfl), rl_s (Nat.le_of_ble_eq_true rfl)⟩) hk hP (q0 := 0) rfl rfl rfl rfl hl.1 rfl (Nat.le_of_ble_eq_true rfl) d_ST_hash_130 ⟨Nat.zero_le _, Nat.zero_le _⟩ ?_
    exact W.iret (v := tw_ST_hashBytes b ((tw_ST_placeOf p0) + 4) ((tw_ST_endOf b p0) - 1)) hx hb hr (fun t ht hW => ⟨tw_ST_hashBytes b ((tw_ST_placeOf p0) + 4) ((tw_ST_endOf b p0) - 1), rfl, (by rw [tw_ST_hash, if_pos c_1]; first | done | rfl), ht⟩) (fun _ h => by cases h) d_ST_hash_133
  by_cases c_2 : (tw_ST_kindOf p0) = 3
  · refine sw_T (tgt := 134) hx hb d_ST_hash_9 (Or.inr ⟨by rw [c_2]; decide, by rw [c_2]; decide, 125, by rw [c_2]; rfl, by decide⟩) ?_
    refine lv_iload_n hx hb d_ST_hash_134 rfl (lv_at hl 3 rfl) ?_
    refine lv_bipush (v := 40) hx hb d_ST_hash_135 (by decide) ?_
    refine lv_icmp_le (tgt := 144) hx hb d_ST_hash_137 (by decide) (fun c_3 => ?_) (fun c_3 => ?_)
    · refine lv_aload_n hx hb d_ST_hash_144 rfl (lv_at hl 1 rfl) ?_
      refine lv_iload_n hx hb d_ST_hash_145 rfl (lv_at hl 2 rfl) ?_
      refine lv_iload_n hx hb d_ST_hash_146 rfl (lv_at hl 3 rfl) ?_
      refine rd_V (val := fp p0) (As := [.int p0, .int p1]) (rest := []) ⟨hx, hb, hml, hown, hT⟩ (hp c_3 p0) (cwV 2 hT (gV_of k_775 k_777 kp_ST_hashParts k_2 kc_ST_hashParts) rfl rfl rfl hd_ST_hashParts ⟨rl_f (Nat.le_of_ble_eq_true rfl), rl_l (Nat.le_of_ble_eq_true rfl)⟩) hk hP (q0 := 0) rfl rfl rfl rfl hl.1 rfl (Nat.le_of_ble_eq_true rfl) d_ST_hash_147 ⟨Nat.zero_le _, Nat.zero_le _⟩ ?_
      exact W.iret (v := fp p0) hx hb hr (fun t ht hW => ⟨fp p0, rfl, (by rw [tw_ST_hash, if_neg c_1, if_pos c_2, if_pos c_3]; first | done | rfl), ht⟩) (fun _ h => by cases h) d_ST_hash_150
    · refine lv_iconst (v := 0) hx hb d_ST_hash_140 (by decide) ?_
      refine lv_goto (tgt := 150) hx hb d_ST_hash_141 (by decide) ?_
      exact W.iret (v := 0) hx hb hr (fun t ht hW => ⟨0, rfl, (by rw [tw_ST_hash, if_neg c_1, if_pos c_2, if_neg c_3]; first | done | rfl), ht⟩) (fun _ h => by cases h) d_ST_hash_150
  by_cases c_4 : (tw_ST_kindOf p0) = 4
  · refine sw_T (tgt := 151) hx hb d_ST_hash_9 (Or.inr ⟨by rw [c_4]; decide, by rw [c_4]; decide, 142, by rw [c_4]; rfl, by decide⟩) ?_
    refine lv_iload_n hx hb d_ST_hash_151 rfl (lv_at hl 3 rfl) ?_
    refine lv_bipush (v := 40) hx hb d_ST_hash_152 (by decide) ?_
    refine lv_icmp_le (tgt := 161) hx hb d_ST_hash_154 (by decide) (fun c_5 => ?_) (fun c_5 => ?_)
    · refine lv_aload_n hx hb d_ST_hash_161 rfl (lv_at hl 1 rfl) ?_
      refine lv_iload_n hx hb d_ST_hash_162 rfl (lv_at hl 2 rfl) ?_
      refine lv_iload_n hx hb d_ST_hash_163 rfl (lv_at hl 3 rfl) ?_
      refine rd_V (val := fp p0) (As := [.int p0, .int p1]) (rest := []) ⟨hx, hb, hml, hown, hT⟩ (hp c_5 p0) (cwV 2 hT (gV_of k_775 k_777 kp_ST_hashParts k_2 kc_ST_hashParts) rfl rfl rfl hd_ST_hashParts ⟨rl_f (Nat.le_of_ble_eq_true rfl), rl_l (Nat.le_of_ble_eq_true rfl)⟩) hk hP (q0 := 0) rfl rfl rfl rfl hl.1 rfl (Nat.le_of_ble_eq_true rfl) d_ST_hash_164 ⟨Nat.zero_le _, Nat.zero_le _⟩ ?_
      exact W.iret (v := fp p0) hx hb hr (fun t ht hW => ⟨fp p0, rfl, (by rw [tw_ST_hash, if_neg c_1, if_neg c_2, if_pos c_4, if_pos c_5]; first | done | rfl), ht⟩) (fun _ h => by cases h) d_ST_hash_167
    · refine lv_iconst (v := 0) hx hb d_ST_hash_157 (by decide) ?_
      refine lv_goto (tgt := 167) hx hb d_ST_hash_158 (by decide) ?_
      exact W.iret (v := 0) hx hb hr (fun t ht hW => ⟨0, rfl, (by rw [tw_ST_hash, if_neg c_1, if_neg c_2, if_pos c_4, if_neg c_5]; first | done | rfl), ht⟩) (fun _ h => by cases h) d_ST_hash_167
  by_cases c_6 : (tw_ST_kindOf p0) = 8
  · refine sw_T (tgt := 110) hx hb d_ST_hash_9 (Or.inr ⟨by rw [c_6]; decide, by rw [c_6]; decide, 101, by rw [c_6]; rfl, by decide⟩) ?_
    refine lv_bipush (v := 8) hx hb d_ST_hash_110 (by decide) ?_
    refine lv_aload_n hx hb d_ST_hash_112 rfl (lv_at hl 1 rfl) ?_
    refine lv_iload_n hx hb d_ST_hash_113 rfl (lv_at hl 0 rfl) ?_
    refine rd_V (val := tw_ST_at b (tw_ST_placeOf p0)) (As := [.int (tw_ST_placeOf p0)]) (rest := [.int 8]) ⟨hx, hb, hml, hown, hT⟩ (c_ST_at l D cB cI aS aB b (tw_ST_placeOf p0)) (cwV 1 hT (gV_of k_385 k_378 k_379 k_2 kc_ST_at) rfl rfl rfl hd_ST_at ⟨rl_s (Nat.le_of_ble_eq_true rfl), rl_s (Nat.le_of_ble_eq_true rfl)⟩) hk hP (q0 := 0) rfl rfl rfl rfl hl.1 rfl (Nat.le_of_ble_eq_true rfl) d_ST_hash_114 ⟨Nat.zero_le _, Nat.zero_le _⟩ ?_
    refine lv_iadd hx hb d_ST_hash_117 ?_
    exact W.iret (v := 8 + (tw_ST_at b (tw_ST_placeOf p0))) hx hb hr (fun t ht hW => ⟨8 + (tw_ST_at b (tw_ST_placeOf p0)), rfl, (by rw [tw_ST_hash, if_neg c_1, if_neg c_2, if_neg c_4, if_pos c_6]; first | done | rfl), ht⟩) (fun _ h => by cases h) d_ST_hash_118
  by_cases c_7 : (tw_ST_kindOf p0) = 16
  · refine sw_T (tgt := 92) hx hb d_ST_hash_9 (Or.inr ⟨by rw [c_7]; decide, by rw [c_7]; decide, 83, by rw [c_7]; rfl, by decide⟩) ?_
    refine lv_aload_n hx hb d_ST_hash_92 rfl (lv_at hl 1 rfl) ?_
    refine lv_iload_n hx hb d_ST_hash_93 rfl (lv_at hl 2 rfl) ?_
    refine rd_Vl (val := tw_ST_number b p0) (As := [.int p0]) (rest := []) ⟨hx, hb, hml, hown, hT⟩ (c_ST_number l D cB cI aS aB b p0) (cwV 1 hT (gV_of k_760 k_761 k_762 k_2 kc_ST_number) rfl rfl rfl hd_ST_number ⟨rl_s (Nat.le_of_ble_eq_true rfl), rl_s (Nat.le_of_ble_eq_true rfl)⟩) hk hP (q0 := 0) rfl rfl rfl rfl hl.1 rfl (Nat.le_of_ble_eq_true rfl) d_ST_hash_94 ⟨Nat.zero_le _, Nat.zero_le _⟩ ?_
    refine rd_S (val := tw_ST_hashNumber (tw_ST_number b p0)) (As := [.long (tw_ST_number b p0)]) (rest := []) ⟨hx, hb, hml, hown, hT⟩ (c_ST_hashNumber l D cB cI (tw_ST_number b p0)) (va_cwS 1 hT (gS_of k_766 k_767 k_2 kc_ST_hashNumber) rfl rfl rfl hd_ST_hashNumber ⟨rl_s (Nat.le_of_ble_eq_true rfl), rl_s (Nat.le_of_ble_eq_true rfl)⟩) hk (va_P_nil) rfl hl.1 rfl (Nat.le_of_ble_eq_true rfl) d_ST_hash_97 ⟨Nat.zero_le _, Nat.zero_le _⟩ ?_
    exact W.iret (v := tw_ST_hashNumber (tw_ST_number b p0)) hx hb hr (fun t ht hW => ⟨tw_ST_hashNumber (tw_ST_number b p0), rfl, (by rw [tw_ST_hash, if_neg c_1, if_neg c_2, if_neg c_4, if_neg c_6, if_pos c_7]; first | done | rfl), ht⟩) (fun _ h => by cases h) d_ST_hash_100
  by_cases c_8 : (tw_ST_kindOf p0) = 18
  · refine sw_T (tgt := 101) hx hb d_ST_hash_9 (Or.inr ⟨by rw [c_8]; decide, by rw [c_8]; decide, 92, by rw [c_8]; rfl, by decide⟩) ?_
    refine lv_aload_n hx hb d_ST_hash_101 rfl (lv_at hl 1 rfl) ?_
    refine lv_iload_n hx hb d_ST_hash_102 rfl (lv_at hl 2 rfl) ?_
    refine rd_Vl (val := tw_ST_number b p0) (As := [.int p0]) (rest := []) ⟨hx, hb, hml, hown, hT⟩ (c_ST_number l D cB cI aS aB b p0) (cwV 1 hT (gV_of k_760 k_761 k_762 k_2 kc_ST_number) rfl rfl rfl hd_ST_number ⟨rl_s (Nat.le_of_ble_eq_true rfl), rl_s (Nat.le_of_ble_eq_true rfl)⟩) hk hP (q0 := 0) rfl rfl rfl rfl hl.1 rfl (Nat.le_of_ble_eq_true rfl) d_ST_hash_103 ⟨Nat.zero_le _, Nat.zero_le _⟩ ?_
    refine rd_S (val := tw_ST_hashNumber (tw_ST_number b p0)) (As := [.long (tw_ST_number b p0)]) (rest := []) ⟨hx, hb, hml, hown, hT⟩ (c_ST_hashNumber l D cB cI (tw_ST_number b p0)) (va_cwS 1 hT (gS_of k_766 k_767 k_2 kc_ST_hashNumber) rfl rfl rfl hd_ST_hashNumber ⟨rl_s (Nat.le_of_ble_eq_true rfl), rl_s (Nat.le_of_ble_eq_true rfl)⟩) hk (va_P_nil) rfl hl.1 rfl (Nat.le_of_ble_eq_true rfl) d_ST_hash_106 ⟨Nat.zero_le _, Nat.zero_le _⟩ ?_
    exact W.iret (v := tw_ST_hashNumber (tw_ST_number b p0)) hx hb hr (fun t ht hW => ⟨tw_ST_hashNumber (tw_ST_number b p0), rfl, (by rw [tw_ST_hash, if_neg c_1, if_neg c_2, if_neg c_4, if_neg c_6, if_neg c_7, if_pos c_8]; first | done | rfl), ht⟩) (fun _ h => by cases h) d_ST_hash_109
  have h_c_1 := lv_neT c_1 (show (2 : Int32).toInt = 2 from rfl)
  have h_c_2 := lv_neT c_2 (show (3 : Int32).toInt = 3 from rfl)
  have h_c_4 := lv_neT c_4 (show (4 : Int32).toInt = 4 from rfl)
  have h_c_6 := lv_neT c_6 (show (8 : Int32).toInt = 8 from rfl)
  have h_c_7 := lv_neT c_7 (show (16 : Int32).toInt = 16 from rfl)
  have h_c_8 := lv_neT c_8 (show (18 : Int32).toInt = 18 from rfl)
  refine sw_T (tgt := 168) hx hb d_ST_hash_9 (by
    rcases Int.lt_or_le (tw_ST_kindOf p0).toInt 2 with q | q
    · exact Or.inl ⟨Or.inl q, by decide⟩
    · rcases Int.lt_or_le 18 (tw_ST_kindOf p0).toInt with q2 | q2
      · exact Or.inl ⟨Or.inr q2, by decide⟩
      · refine Or.inr ⟨by omega, by omega, ?_⟩
        have q3 : (tw_ST_kindOf p0).toInt = 5 ∨ (tw_ST_kindOf p0).toInt = 6 ∨ (tw_ST_kindOf p0).toInt = 7 ∨ (tw_ST_kindOf p0).toInt = 9 ∨ (tw_ST_kindOf p0).toInt = 10 ∨ (tw_ST_kindOf p0).toInt = 11 ∨ (tw_ST_kindOf p0).toInt = 12 ∨ (tw_ST_kindOf p0).toInt = 13 ∨ (tw_ST_kindOf p0).toInt = 14 ∨ (tw_ST_kindOf p0).toInt = 15 ∨ (tw_ST_kindOf p0).toInt = 17 := by omega
        rcases q3 with q3 | q3 | q3 | q3 | q3 | q3 | q3 | q3 | q3 | q3 | q3 <;> (rw [q3]; exact ⟨_, rfl, by decide⟩)) ?_
  refine lv_iload_n hx hb d_ST_hash_168 rfl (lv_at hl 2 rfl) ?_
  refine rd_S (val := tw_ST_classOf p0) (As := [.int p0]) (rest := []) ⟨hx, hb, hml, hown, hT⟩ (c_ST_classOf l D cB cI p0) (va_cwS 1 hT (gS_of k_779 k_780 k_2 kc_ST_classOf) rfl rfl rfl hd_ST_classOf ⟨rl_s (Nat.le_of_ble_eq_true rfl), rl_s (Nat.le_of_ble_eq_true rfl)⟩) hk (va_P_nil) rfl hl.1 rfl (Nat.le_of_ble_eq_true rfl) d_ST_hash_169 ⟨Nat.zero_le _, Nat.zero_le _⟩ ?_
  exact W.iret (v := tw_ST_classOf p0) hx hb hr (fun t ht hW => ⟨tw_ST_classOf p0, rfl, (by rw [tw_ST_hash, if_neg c_1, if_neg c_2, if_neg c_4, if_neg c_6, if_neg c_7, if_neg c_8]; first | done | rfl), ht⟩) (fun _ h => by cases h) d_ST_hash_172
theorem c_ST_hsh (l : Launch) (D : va_G) (cB cI : ClassId) (aS aB : Nat) (b : Nat → UInt8) : ∀ (k : Nat) (d : Int32), (40 : Int32).toInt + 1 - d.toInt ≤ (k : Nat) → ∀ x : Int32, Met l y_ST_hash mw_ST_hash { frames := 10 * k + 5, cells := 0, slots := 0, locals := 240 * k + 120 } (va_Pc [.ref aS, .int x, .int d] (fun U => va_P D vwCl [(aS, .inr (0, [.ref aB])), (aB, .inl (cB, 202000, .inl (by_ b)))] U.heap ∧ hk_ D cB cI U)) (vp_Si (fun r => r = tw_ST_hsh k b x d)) 0 0 (fun _ => False) := by
  intro k
  induction k with
  | zero =>
    intro d hd x
    exact c_ST_hash l D cB cI aS aB (10 * 0) (240 * 0) (fun _ => 0) b x d (fun q => (dp_0 hd q).elim)
  | succ k ih =>
    intro d hd x
    exact c_ST_hash l D cB cI aS aB (10 * (k + 1)) (240 * (k + 1)) (fun x => tw_ST_hashParts (fun x => tw_ST_hsh k b x (d + 1)) b x d) b x d
      (fun q x => c_ST_hashParts l D cB cI aS aB (10 * k + 5) (240 * k + 120) (fun x => tw_ST_hsh k b x (d + 1)) b x d (ih (d + 1) (dp_s (by decide) hd q)))
theorem c_ST_hsh0 (l : Launch) (D : va_G) (cB cI : ClassId) (aS aB : Nat) (b : Nat → UInt8) (x : Int32) : Met l y_ST_hash mw_ST_hash { frames := 415, cells := 0, slots := 0, locals := 9960 } (va_Pc [.ref aS, .int x, .int 0] (fun U => va_P D vwCl [(aS, .inr (0, [.ref aB])), (aB, .inl (cB, 202000, .inl (by_ b)))] U.heap ∧ hk_ D cB cI U)) (vp_Si (fun r => r = tw_ST_hsh0 b x)) 0 0 (fun _ => False) := c_ST_hsh l D cB cI aS aB b 41 0 (by decide) x

set_option maxHeartbeats 4000000 in
set_option maxRecDepth 100000 in
theorem l_ST_isTooDeep_h27 {p : Program} {e : Env} {s : State} {m : MethodId} {args : Array Value} {below : List Frame} {meth : Method} {c : Code} {V : Bool} (C0 : lc_C p s m meth c args b_ST_isTooDeep 8 (some .boolean) R_ST lw_g) (l : Launch) (D : va_G) (cB cI : ClassId) (aS aB : Nat) (rF : Nat) (rL : Nat) (fc : Int32 → Bool) (b : Nat → UInt8) (hP : va_P D vwCl [(aS, .inr (0, [.ref aB])), (aB, .inl (cB, 202000, .inl (by_ b)))] s.heap) (hk : hk_ D cB cI s) (p1 : Int32) (x3 : Int32) (hc : p1 ≤ 16 → ∀ x : Int32, Met l y_ST_isTooDeep mw_ST_isTooDeep { frames := rF, cells := 0, slots := 0, locals := rL } (va_Pc [.ref aS, .int x, .int (p1 + 1)] (fun U => va_P D vwCl [(aS, .inr (0, [.ref aB])), (aB, .inl (cB, 202000, .inl (by_ b)))] U.heap ∧ hk_ D cB cI U)) (vp_Si (fun r => r = b2i (fc x))) 0 0 (fun _ => False)) (hf1 : p1 ≤ 16) : ∀ (n : Nat) (x4 : Int32) (x5 : Int32), ((1000 : Int32).toInt - x5.toInt).toNat < n → V = tw_ST_isTooDeep_h27 fc b p1 x3 n x4 x5 → ∀ ls : Array Slot, lv_has ls 8 [(0, .ref aS), (2, .int p1), (3, .int x3), (4, .int x4), (5, .int x5)] → W p l e ({ frames := rF + 5, cells := 0, slots := 0, locals := rL + 120 }) s m args below meth c s.heap [] 0 0 (MQ below (vp_Si (fun r => r = b2i V)) args s 0 0 (fun _ => False)) (F0 m 27 ls []) := by
  obtain ⟨hx, hb, hml, hr, hown, hlocks, hT⟩ := id C0
  have hK := hk.1
  have hN := hk.2.1
  intro n
  induction n with
  | zero =>
    intro x4 x5 hm
    exact absurd hm (Nat.not_lt_zero _)
  | succ n ih =>
    intro x4 x5 hm hV ls hl
    refine lv_iload hx hb d_ST_isTooDeep_27 (lv_at hl 4 rfl) ?_
    refine lv_sipush (v := 1000) hx hb d_ST_isTooDeep_29 (by decide) ?_
    refine lv_icmp_ge (tgt := 107) hx hb d_ST_isTooDeep_32 (by decide) (fun c_2 => ?_) (fun c_2 => ?_)
    · refine lv_iconst (v := 0) hx hb d_ST_isTooDeep_107 (by decide) ?_
      exact W.zret (v := 0) (ty := .boolean) hx hb hr (rfl) (fun t ht hW => ⟨0, rfl, (by rw [hV, tw_ST_isTooDeep_h27, if_pos c_2]; first | done | rfl), ht⟩) (fun _ h => by cases h) d_ST_isTooDeep_108
    · refine lv_iload hx hb d_ST_isTooDeep_35 (lv_at hl 3 rfl) ?_
      refine lv_iload_n hx hb d_ST_isTooDeep_37 rfl (lv_at hl 2 rfl) ?_
      refine lv_icmp_ge (tgt := 107) hx hb d_ST_isTooDeep_38 (by decide) (fun c_3 => ?_) (fun c_3 => ?_)
      · refine lv_iconst (v := 0) hx hb d_ST_isTooDeep_107 (by decide) ?_
        exact W.zret (v := 0) (ty := .boolean) hx hb hr (rfl) (fun t ht hW => ⟨0, rfl, (by rw [hV, tw_ST_isTooDeep_h27, if_neg c_2, if_pos c_3]; first | done | rfl), ht⟩) (fun _ h => by cases h) d_ST_isTooDeep_108
      · refine lv_aload_n hx hb d_ST_isTooDeep_41 rfl (lv_at hl 0 rfl) ?_
        refine lv_iload hx hb d_ST_isTooDeep_42 (lv_at hl 3 rfl) ?_
        refine rd_V (val := tw_ST_valueOf b x4) (As := [.int x4]) (rest := []) ⟨hx, hb, hml, hown, hT⟩ (c_ST_valueOf l D cB cI aS aB b x4) (cwV 1 hT (gV_of k_485 k_399 k_400 k_2 kc_ST_valueOf) rfl rfl rfl hd_ST_valueOf ⟨rl_s (Nat.le_of_ble_eq_true rfl), rl_s (Nat.le_of_ble_eq_true rfl)⟩) hk hP (q0 := 0) rfl rfl rfl rfl hl.1 rfl (Nat.le_of_ble_eq_true rfl) d_ST_isTooDeep_44 ⟨Nat.zero_le _, Nat.zero_le _⟩ ?_
        refine lv_istore (lv' := [(6, .int (tw_ST_valueOf b x4)), (0, .ref aS), (2, .int p1), (3, .int x3), (4, .int x4), (5, .int x5)]) hx hb d_ST_isTooDeep_47 hl (by decide) rfl (fun ls hl => ?_)
        refine lv_iload hx hb d_ST_isTooDeep_49 (lv_at hl 0 rfl) ?_
        refine rd_S (val := tw_ST_kindOf (tw_ST_valueOf b x4)) (As := [.int (tw_ST_valueOf b x4)]) (rest := []) ⟨hx, hb, hml, hown, hT⟩ (c_ST_kindOf l D cB cI (tw_ST_valueOf b x4)) (va_cwS 1 hT (gS_of k_667 k_555 k_2 kc_ST_kindOf) rfl rfl rfl hd_ST_kindOf ⟨rl_s (Nat.le_of_ble_eq_true rfl), rl_s (Nat.le_of_ble_eq_true rfl)⟩) hk (va_P_nil) rfl hl.1 rfl (Nat.le_of_ble_eq_true rfl) d_ST_isTooDeep_51 ⟨Nat.zero_le _, Nat.zero_le _⟩ ?_
        refine lv_iconst (v := 3) hx hb d_ST_isTooDeep_54 (by decide) ?_
        refine lv_icmp_eq (tgt := 67) hx hb d_ST_isTooDeep_55 (by decide) (fun c_4 => ?_) (fun c_4 => ?_)
        · refine lv_iconst (v := 1) hx hb d_ST_isTooDeep_67 (by decide) ?_
          refine lv_goto (tgt := 72) hx hb d_ST_isTooDeep_68 (by decide) ?_
          refine lv_istore (lv' := [(7, .int 1), (6, .int (tw_ST_valueOf b x4)), (0, .ref aS), (2, .int p1), (3, .int x3), (4, .int x4), (5, .int x5)]) hx hb d_ST_isTooDeep_72 hl (by decide) rfl (fun ls hl => ?_)
          refine lv_iload hx hb d_ST_isTooDeep_74 (lv_at hl 0 rfl) ?_
          refine lv_if_eq (tgt := 93) hx hb d_ST_isTooDeep_76 (by decide) (fun c_5 => ?_) (fun c_5 => ?_)
          · exact absurd c_5 (by decide)
          · refine lv_aload_n hx hb d_ST_isTooDeep_79 rfl (lv_at hl 2 rfl) ?_
            refine lv_iload hx hb d_ST_isTooDeep_80 (lv_at hl 1 rfl) ?_
            refine lv_iload_n hx hb d_ST_isTooDeep_82 rfl (lv_at hl 3 rfl) ?_
            refine lv_iconst (v := 1) hx hb d_ST_isTooDeep_83 (by decide) ?_
            refine lv_iadd hx hb d_ST_isTooDeep_84 ?_
            refine rd_V (val := b2i (fc (tw_ST_valueOf b x4))) (As := [.int (tw_ST_valueOf b x4), .int (p1 + 1)]) (rest := []) ⟨hx, hb, hml, hown, hT⟩ (hc hf1 (tw_ST_valueOf b x4)) (cwV 2 hT (gV_of k_668 k_664 k_665 k_2 kc_ST_isTooDeep) rfl rfl rfl hd_ST_isTooDeep ⟨rl_f (Nat.le_of_ble_eq_true rfl), rl_l (Nat.le_of_ble_eq_true rfl)⟩) hk hP (q0 := 0) rfl rfl rfl rfl hl.1 rfl (Nat.le_of_ble_eq_true rfl) d_ST_isTooDeep_85 ⟨Nat.zero_le _, Nat.zero_le _⟩ ?_
            refine lv_if_eq (tgt := 93) hx hb d_ST_isTooDeep_88 (by decide) (fun c_6 => ?_) (fun c_6 => ?_)
            · refine lv_aload_n hx hb d_ST_isTooDeep_93 rfl (lv_at hl 2 rfl) ?_
              refine lv_iload hx hb d_ST_isTooDeep_94 (lv_at hl 1 rfl) ?_
              refine rd_V (val := tw_ST_endOf b (tw_ST_valueOf b x4)) (As := [.int (tw_ST_valueOf b x4)]) (rest := []) ⟨hx, hb, hml, hown, hT⟩ (c_ST_endOf l D cB cI aS aB b (tw_ST_valueOf b x4)) (cwV 1 hT (gV_of k_483 k_416 k_417 k_2 kc_ST_endOf) rfl rfl rfl hd_ST_endOf ⟨rl_s (Nat.le_of_ble_eq_true rfl), rl_s (Nat.le_of_ble_eq_true rfl)⟩) hk hP (q0 := 0) rfl rfl rfl rfl hl.1 rfl (Nat.le_of_ble_eq_true rfl) d_ST_isTooDeep_96 ⟨Nat.zero_le _, Nat.zero_le _⟩ ?_
              refine lv_istore (lv' := [(4, .int (tw_ST_endOf b (tw_ST_valueOf b x4))), (7, .int 1), (6, .int (tw_ST_valueOf b x4)), (0, .ref aS), (2, .int p1), (3, .int x3), (5, .int x5)]) hx hb d_ST_isTooDeep_99 hl (by decide) rfl (fun ls hl => ?_)
              refine lv_iinc (v := x5 + 1) (lv' := [(5, .int (x5 + 1)), (4, .int (tw_ST_endOf b (tw_ST_valueOf b x4))), (7, .int 1), (6, .int (tw_ST_valueOf b x4)), (0, .ref aS), (2, .int p1), (3, .int x3)]) hx hb d_ST_isTooDeep_101 hl (k := 6) rfl rfl (by decide) rfl (fun ls hl => ?_)
              refine lv_goto (tgt := 27) hx hb d_ST_isTooDeep_104 (by decide) ?_
              exact ih (tw_ST_endOf b (tw_ST_valueOf b x4)) (x5 + 1) (lp_up hm c_2) (by rw [hV, tw_ST_isTooDeep_h27, if_neg c_2, if_neg c_3, if_pos c_4, if_pos c_6]) ls (lv_sub hl [4, 5, 6, 1, 0] rfl)
            · refine lv_iconst (v := 1) hx hb d_ST_isTooDeep_91 (by decide) ?_
              exact W.zret (v := 1) (ty := .boolean) hx hb hr (rfl) (fun t ht hW => ⟨1, rfl, (by rw [hV, tw_ST_isTooDeep_h27, if_neg c_2, if_neg c_3, if_pos c_4, if_neg c_6]; first | done | rfl), ht⟩) (fun _ h => by cases h) d_ST_isTooDeep_92
        · refine lv_iload hx hb d_ST_isTooDeep_58 (lv_at hl 0 rfl) ?_
          refine rd_S (val := tw_ST_kindOf (tw_ST_valueOf b x4)) (As := [.int (tw_ST_valueOf b x4)]) (rest := []) ⟨hx, hb, hml, hown, hT⟩ (c_ST_kindOf l D cB cI (tw_ST_valueOf b x4)) (va_cwS 1 hT (gS_of k_667 k_555 k_2 kc_ST_kindOf) rfl rfl rfl hd_ST_kindOf ⟨rl_s (Nat.le_of_ble_eq_true rfl), rl_s (Nat.le_of_ble_eq_true rfl)⟩) hk (va_P_nil) rfl hl.1 rfl (Nat.le_of_ble_eq_true rfl) d_ST_isTooDeep_60 ⟨Nat.zero_le _, Nat.zero_le _⟩ ?_
          refine lv_iconst (v := 4) hx hb d_ST_isTooDeep_63 (by decide) ?_
          refine lv_icmp_ne (tgt := 71) hx hb d_ST_isTooDeep_64 (by decide) (fun c_7 => ?_) (fun c_7 => ?_)
          · refine lv_iconst (v := 0) hx hb d_ST_isTooDeep_71 (by decide) ?_
            refine lv_istore (lv' := [(7, .int 0), (6, .int (tw_ST_valueOf b x4)), (0, .ref aS), (2, .int p1), (3, .int x3), (4, .int x4), (5, .int x5)]) hx hb d_ST_isTooDeep_72 hl (by decide) rfl (fun ls hl => ?_)
            refine lv_iload hx hb d_ST_isTooDeep_74 (lv_at hl 0 rfl) ?_
            refine lv_if_eq (tgt := 93) hx hb d_ST_isTooDeep_76 (by decide) (fun c_8 => ?_) (fun c_8 => ?_)
            · refine lv_aload_n hx hb d_ST_isTooDeep_93 rfl (lv_at hl 2 rfl) ?_
              refine lv_iload hx hb d_ST_isTooDeep_94 (lv_at hl 1 rfl) ?_
              refine rd_V (val := tw_ST_endOf b (tw_ST_valueOf b x4)) (As := [.int (tw_ST_valueOf b x4)]) (rest := []) ⟨hx, hb, hml, hown, hT⟩ (c_ST_endOf l D cB cI aS aB b (tw_ST_valueOf b x4)) (cwV 1 hT (gV_of k_483 k_416 k_417 k_2 kc_ST_endOf) rfl rfl rfl hd_ST_endOf ⟨rl_s (Nat.le_of_ble_eq_true rfl), rl_s (Nat.le_of_ble_eq_true rfl)⟩) hk hP (q0 := 0) rfl rfl rfl rfl hl.1 rfl (Nat.le_of_ble_eq_true rfl) d_ST_isTooDeep_96 ⟨Nat.zero_le _, Nat.zero_le _⟩ ?_
              refine lv_istore (lv' := [(4, .int (tw_ST_endOf b (tw_ST_valueOf b x4))), (7, .int 0), (6, .int (tw_ST_valueOf b x4)), (0, .ref aS), (2, .int p1), (3, .int x3), (5, .int x5)]) hx hb d_ST_isTooDeep_99 hl (by decide) rfl (fun ls hl => ?_)
              refine lv_iinc (v := x5 + 1) (lv' := [(5, .int (x5 + 1)), (4, .int (tw_ST_endOf b (tw_ST_valueOf b x4))), (7, .int 0), (6, .int (tw_ST_valueOf b x4)), (0, .ref aS), (2, .int p1), (3, .int x3)]) hx hb d_ST_isTooDeep_101 hl (k := 6) rfl rfl (by decide) rfl (fun ls hl => ?_)
              refine lv_goto (tgt := 27) hx hb d_ST_isTooDeep_104 (by decide) ?_
              exact ih (tw_ST_endOf b (tw_ST_valueOf b x4)) (x5 + 1) (lp_up hm c_2) (by rw [hV, tw_ST_isTooDeep_h27, if_neg c_2, if_neg c_3, if_neg c_4, if_neg c_7]) ls (lv_sub hl [4, 5, 6, 1, 0] rfl)
            · exact absurd c_8 (by decide)
          · refine lv_iconst (v := 1) hx hb d_ST_isTooDeep_67 (by decide) ?_
            refine lv_goto (tgt := 72) hx hb d_ST_isTooDeep_68 (by decide) ?_
            refine lv_istore (lv' := [(7, .int 1), (6, .int (tw_ST_valueOf b x4)), (0, .ref aS), (2, .int p1), (3, .int x3), (4, .int x4), (5, .int x5)]) hx hb d_ST_isTooDeep_72 hl (by decide) rfl (fun ls hl => ?_)
            refine lv_iload hx hb d_ST_isTooDeep_74 (lv_at hl 0 rfl) ?_
            refine lv_if_eq (tgt := 93) hx hb d_ST_isTooDeep_76 (by decide) (fun c_9 => ?_) (fun c_9 => ?_)
            · exact absurd c_9 (by decide)
            · refine lv_aload_n hx hb d_ST_isTooDeep_79 rfl (lv_at hl 2 rfl) ?_
              refine lv_iload hx hb d_ST_isTooDeep_80 (lv_at hl 1 rfl) ?_
              refine lv_iload_n hx hb d_ST_isTooDeep_82 rfl (lv_at hl 3 rfl) ?_
              refine lv_iconst (v := 1) hx hb d_ST_isTooDeep_83 (by decide) ?_
              refine lv_iadd hx hb d_ST_isTooDeep_84 ?_
              refine rd_V (val := b2i (fc (tw_ST_valueOf b x4))) (As := [.int (tw_ST_valueOf b x4), .int (p1 + 1)]) (rest := []) ⟨hx, hb, hml, hown, hT⟩ (hc hf1 (tw_ST_valueOf b x4)) (cwV 2 hT (gV_of k_668 k_664 k_665 k_2 kc_ST_isTooDeep) rfl rfl rfl hd_ST_isTooDeep ⟨rl_f (Nat.le_of_ble_eq_true rfl), rl_l (Nat.le_of_ble_eq_true rfl)⟩) hk hP (q0 := 0) rfl rfl rfl rfl hl.1 rfl (Nat.le_of_ble_eq_true rfl) d_ST_isTooDeep_85 ⟨Nat.zero_le _, Nat.zero_le _⟩ ?_
              refine lv_if_eq (tgt := 93) hx hb d_ST_isTooDeep_88 (by decide) (fun c_10 => ?_) (fun c_10 => ?_)
              · refine lv_aload_n hx hb d_ST_isTooDeep_93 rfl (lv_at hl 2 rfl) ?_
                refine lv_iload hx hb d_ST_isTooDeep_94 (lv_at hl 1 rfl) ?_
                refine rd_V (val := tw_ST_endOf b (tw_ST_valueOf b x4)) (As := [.int (tw_ST_valueOf b x4)]) (rest := []) ⟨hx, hb, hml, hown, hT⟩ (c_ST_endOf l D cB cI aS aB b (tw_ST_valueOf b x4)) (cwV 1 hT (gV_of k_483 k_416 k_417 k_2 kc_ST_endOf) rfl rfl rfl hd_ST_endOf ⟨rl_s (Nat.le_of_ble_eq_true rfl), rl_s (Nat.le_of_ble_eq_true rfl)⟩) hk hP (q0 := 0) rfl rfl rfl rfl hl.1 rfl (Nat.le_of_ble_eq_true rfl) d_ST_isTooDeep_96 ⟨Nat.zero_le _, Nat.zero_le _⟩ ?_
                refine lv_istore (lv' := [(4, .int (tw_ST_endOf b (tw_ST_valueOf b x4))), (7, .int 1), (6, .int (tw_ST_valueOf b x4)), (0, .ref aS), (2, .int p1), (3, .int x3), (5, .int x5)]) hx hb d_ST_isTooDeep_99 hl (by decide) rfl (fun ls hl => ?_)
                refine lv_iinc (v := x5 + 1) (lv' := [(5, .int (x5 + 1)), (4, .int (tw_ST_endOf b (tw_ST_valueOf b x4))), (7, .int 1), (6, .int (tw_ST_valueOf b x4)), (0, .ref aS), (2, .int p1), (3, .int x3)]) hx hb d_ST_isTooDeep_101 hl (k := 6) rfl rfl (by decide) rfl (fun ls hl => ?_)
                refine lv_goto (tgt := 27) hx hb d_ST_isTooDeep_104 (by decide) ?_
                exact ih (tw_ST_endOf b (tw_ST_valueOf b x4)) (x5 + 1) (lp_up hm c_2) (by rw [hV, tw_ST_isTooDeep_h27, if_neg c_2, if_neg c_3, if_neg c_4, if_pos c_7, if_pos c_10]) ls (lv_sub hl [4, 5, 6, 1, 0] rfl)
              · refine lv_iconst (v := 1) hx hb d_ST_isTooDeep_91 (by decide) ?_
                exact W.zret (v := 1) (ty := .boolean) hx hb hr (rfl) (fun t ht hW => ⟨1, rfl, (by rw [hV, tw_ST_isTooDeep_h27, if_neg c_2, if_neg c_3, if_neg c_4, if_pos c_7, if_neg c_10]; first | done | rfl), ht⟩) (fun _ h => by cases h) d_ST_isTooDeep_92
set_option maxHeartbeats 4000000 in
set_option maxRecDepth 100000 in
theorem c_ST_isTooDeep (l : Launch) (D : va_G) (cB cI : ClassId) (aS aB : Nat) (rF : Nat) (rL : Nat) (fc : Int32 → Bool) (b : Nat → UInt8) (p0 : Int32) (p1 : Int32) (hc : p1 ≤ 16 → ∀ x : Int32, Met l y_ST_isTooDeep mw_ST_isTooDeep { frames := rF, cells := 0, slots := 0, locals := rL } (va_Pc [.ref aS, .int x, .int (p1 + 1)] (fun U => va_P D vwCl [(aS, .inr (0, [.ref aB])), (aB, .inl (cB, 202000, .inl (by_ b)))] U.heap ∧ hk_ D cB cI U)) (vp_Si (fun r => r = b2i (fc x))) 0 0 (fun _ => False)) : Met l y_ST_isTooDeep mw_ST_isTooDeep { frames := rF + 5, cells := 0, slots := 0, locals := rL + 120 } (va_Pc [.ref aS, .int p0, .int p1] (fun U => va_P D vwCl [(aS, .inr (0, [.ref aB])), (aB, .inl (cB, 202000, .inl (by_ b)))] U.heap ∧ hk_ D cB cI U)) (vp_Si (fun r => r = b2i (tw_ST_isTooDeep fc b p0 p1))) 0 0 (fun _ => False) := by
  refine Met.ofW (cc := b_ST_isTooDeep) (maxL := 8) (ret := (some .boolean)) (by decide) rfl ?_
  intro p e s m args below meth c s₁ B0 hml hv
  obtain ⟨rfl, hP, hk⟩ := hv
  have hK := hk.1
  have hN := hk.2.1
  have hx := B0.exec
  have hb := B0.bytes
  have hr := B0.returns
  have hT : ∀ w ∈ lw_g, w.before _ s = true := fun w h => atoms_spec (ws := mw_ST_isTooDeep) B0.pre w (List.mem_cons_of_mem _ h)
  have hown : s.vm.findClass R_ST = some m.cls := findClass_of_methodNamed B0.named
  have hlocks := B0.notSynchronized
  have hl := lv_entry ([.ref aS, .int p0, .int p1]) (n := 8) (Nat.le_of_ble_eq_true rfl)
  rw [lg_entry_eq]
  generalize (lg_sl ([.ref aS, .int p0, .int p1]) ++ List.replicate (8 - (lg_sl ([.ref aS, .int p0, .int p1])).length) Slot.unset).toArray = ls at hl ⊢
  have hl : lv_has ls 8 [(0, .ref aS), (1, .int p0), (2, .int p1)] := hl
  have C0 : lc_C p s m meth c _ b_ST_isTooDeep 8 (some .boolean) R_ST lw_g := ⟨hx, hb, hml, hr, hown, hlocks, hT⟩
  refine lv_iload_n hx hb d_ST_isTooDeep_0 rfl (lv_at hl 2 rfl) ?_
  refine lv_bipush (v := 16) hx hb d_ST_isTooDeep_1 (by decide) ?_
  refine lv_icmp_le (tgt := 8) hx hb d_ST_isTooDeep_3 (by decide) (fun c_1 => ?_) (fun c_1 => ?_)
  · refine lv_aload_n hx hb d_ST_isTooDeep_8 rfl (lv_at hl 0 rfl) ?_
    refine lv_iload_n hx hb d_ST_isTooDeep_9 rfl (lv_at hl 1 rfl) ?_
    refine rd_V (val := tw_ST_endOf b p0) (As := [.int p0]) (rest := []) ⟨hx, hb, hml, hown, hT⟩ (c_ST_endOf l D cB cI aS aB b p0) (cwV 1 hT (gV_of k_483 k_416 k_417 k_2 kc_ST_endOf) rfl rfl rfl hd_ST_endOf ⟨rl_s (Nat.le_of_ble_eq_true rfl), rl_s (Nat.le_of_ble_eq_true rfl)⟩) hk hP (q0 := 0) rfl rfl rfl rfl hl.1 rfl (Nat.le_of_ble_eq_true rfl) d_ST_isTooDeep_10 ⟨Nat.zero_le _, Nat.zero_le _⟩ ?_
    refine lv_iconst (v := 1) hx hb d_ST_isTooDeep_13 (by decide) ?_
    refine lv_isub hx hb d_ST_isTooDeep_14 ?_
    refine lv_istore_n (lv' := [(3, .int ((tw_ST_endOf b p0) - 1)), (0, .ref aS), (1, .int p0), (2, .int p1)]) hx hb d_ST_isTooDeep_15 rfl hl (by decide) rfl (fun ls hl => ?_)
    refine lv_iload_n hx hb d_ST_isTooDeep_16 rfl (lv_at hl 2 rfl) ?_
    refine rd_S (val := tw_ST_placeOf p0) (As := [.int p0]) (rest := []) ⟨hx, hb, hml, hown, hT⟩ (c_ST_placeOf l D cB cI p0) (va_cwS 1 hT (gS_of k_484 k_403 k_2 kc_ST_placeOf) rfl rfl rfl hd_ST_placeOf ⟨rl_s (Nat.le_of_ble_eq_true rfl), rl_s (Nat.le_of_ble_eq_true rfl)⟩) hk (va_P_nil) rfl hl.1 rfl (Nat.le_of_ble_eq_true rfl) d_ST_isTooDeep_17 ⟨Nat.zero_le _, Nat.zero_le _⟩ ?_
    refine lv_iconst (v := 4) hx hb d_ST_isTooDeep_20 (by decide) ?_
    refine lv_iadd hx hb d_ST_isTooDeep_21 ?_
    refine lv_istore (lv' := [(4, .int ((tw_ST_placeOf p0) + 4)), (3, .int ((tw_ST_endOf b p0) - 1)), (0, .ref aS), (1, .int p0), (2, .int p1)]) hx hb d_ST_isTooDeep_22 hl (by decide) rfl (fun ls hl => ?_)
    refine lv_iconst (v := 0) hx hb d_ST_isTooDeep_24 (by decide) ?_
    refine lv_istore (lv' := [(5, .int 0), (4, .int ((tw_ST_placeOf p0) + 4)), (3, .int ((tw_ST_endOf b p0) - 1)), (0, .ref aS), (1, .int p0), (2, .int p1)]) hx hb d_ST_isTooDeep_25 hl (by decide) rfl (fun ls hl => ?_)
    exact l_ST_isTooDeep_h27 C0 l D cB cI aS aB rF rL fc b hP hk p1 ((tw_ST_endOf b p0) - 1) hc c_1 ((((1000 : Int32).toInt - (0 : Int32).toInt).toNat) + 1) ((tw_ST_placeOf p0) + 4) 0 (Nat.lt_succ_self _) (by rw [tw_ST_isTooDeep, if_pos c_1]) ls (lv_sub hl [3, 5, 2, 1, 0] rfl)
  · refine lv_iconst (v := 1) hx hb d_ST_isTooDeep_6 (by decide) ?_
    exact W.zret (v := 1) (ty := .boolean) hx hb hr (rfl) (fun t ht hW => ⟨1, rfl, (by rw [tw_ST_isTooDeep, if_neg c_1]; first | done | rfl), ht⟩) (fun _ h => by cases h) d_ST_isTooDeep_7
theorem c_ST_dp (l : Launch) (D : va_G) (cB cI : ClassId) (aS aB : Nat) (b : Nat → UInt8) : ∀ (k : Nat) (d : Int32), (16 : Int32).toInt + 1 - d.toInt ≤ (k : Nat) → ∀ x : Int32, Met l y_ST_isTooDeep mw_ST_isTooDeep { frames := 5 * k + 5, cells := 0, slots := 0, locals := 120 * k + 120 } (va_Pc [.ref aS, .int x, .int d] (fun U => va_P D vwCl [(aS, .inr (0, [.ref aB])), (aB, .inl (cB, 202000, .inl (by_ b)))] U.heap ∧ hk_ D cB cI U)) (vp_Si (fun r => r = b2i (tw_ST_dp k b x d))) 0 0 (fun _ => False) := by
  intro k
  induction k with
  | zero =>
    intro d hd x
    exact c_ST_isTooDeep l D cB cI aS aB (5 * 0) (120 * 0) (fun _ => false) b x d (fun q => (dp_0 hd q).elim)
  | succ k ih =>
    intro d hd x
    exact c_ST_isTooDeep l D cB cI aS aB (5 * (k + 1)) (120 * (k + 1)) (fun x => tw_ST_dp k b x (d + 1)) b x d (fun q x => ih (d + 1) (dp_s (by decide) hd q) x)
theorem c_ST_deep1 (l : Launch) (D : va_G) (cB cI : ClassId) (aS aB : Nat) (b : Nat → UInt8) (x : Int32) : Met l y_ST_isTooDeep mw_ST_isTooDeep { frames := 85, cells := 0, slots := 0, locals := 2040 } (va_Pc [.ref aS, .int x, .int 1] (fun U => va_P D vwCl [(aS, .inr (0, [.ref aB])), (aB, .inl (cB, 202000, .inl (by_ b)))] U.heap ∧ hk_ D cB cI U)) (vp_Si (fun r => r = b2i (tw_ST_deep1 b x))) 0 0 (fun _ => False) := c_ST_dp l D cB cI aS aB b 16 1 (by decide) x

abbrev wd_ST_write (aS aB : Nat) (cB cI : ClassId) (b : Nat → UInt8) : va_W := [(aS, .inr (0, [.ref aB])), (aB, .inl (cB, 202000, .inl (by_ b)))]
set_option maxHeartbeats 4000000 in
set_option maxRecDepth 100000 in
theorem c_ST_write (l : Launch) (D : va_G) (cB cI : ClassId) (aS aB : Nat) (sz : Nat) (b : Nat → UInt8) (p0 : Int32) (p1 : Int32) : Met l y_ST_write mw_ST_write { frames := 0, cells := 0, slots := 0, locals := 0 } (va_Pc [.ref aS, .int p0, .int p1] (mt_P D cB cI (wd_ST_write aS aB cB cI b) sz)) (va_Qv (fun (u : (Nat → UInt8)) => u = tw_ST_write b p0 p1) (mt_B D (va_A (wd_ST_write aS aB cB cI b) sz) (fun u => wd_ST_write aS aB cB cI u)) (va_A (wd_ST_write aS aB cB cI b) sz)) 0 0 (va_A (wd_ST_write aS aB cB cI b) sz) := by
  refine Met.ofW (cc := b_ST_write) (maxL := 3) (ret := none) (by decide) rfl ?_
  intro p e s m args below meth c s₁ B0 hml hv
  obtain ⟨rfl, hsz, hP, hk, hD0⟩ := hv
  have hK := hk.1
  have hN := hk.2.1
  have hx := B0.exec
  have hb := B0.bytes
  have hr := B0.returns
  have hT : ∀ w ∈ lw_g, w.before _ s = true := fun w h => atoms_spec (ws := mw_ST_write) B0.pre w (List.mem_cons_of_mem _ h)
  have hown : s.vm.findClass R_ST = some m.cls := findClass_of_methodNamed B0.named
  have hlocks := B0.notSynchronized
  subst hsz
  have hD := hD0.self (sz := s.heap.size)
  generalize hAe : va_A [(aS, .inr (0, [.ref aB])), (aB, .inl (cB, 202000, .inl (by_ b)))] s.heap.size = A at hD ⊢
  have hA : ∀ q : Nat, s.heap.size ≤ q → A q := fun q h => by rw [← hAe]; exact Or.inr h
  have hS : va_S A s.heap s.heap [] := va_S.rf
  have hl := lv_entry ([.ref aS, .int p0, .int p1]) (n := 3) (Nat.le_of_ble_eq_true rfl)
  rw [lg_entry_eq]
  generalize (lg_sl ([.ref aS, .int p0, .int p1]) ++ List.replicate (3 - (lg_sl ([.ref aS, .int p0, .int p1])).length) Slot.unset).toArray = ls at hl ⊢
  have hl : lv_has ls 3 [(0, .ref aS), (1, .int p0), (2, .int p1)] := hl
  refine lv_iload_n hx hb d_ST_write_0 rfl (lv_at hl 1 rfl) ?_
  refine lv_if_lt (tgt := 21) hx hb d_ST_write_1 (by decide) (fun c_1 => ?_) (fun c_1 => ?_)
  · exact W.vret hx hb hr (fun t ht hW => ⟨⟨b, rfl, (by rw [tw_ST_write, if_pos c_1]; first | done | rfl), by rw [ht]; exact hP, hD⟩, hS.F ht⟩) hS.2.2 d_ST_write_21
  · refine lv_iload_n hx hb d_ST_write_4 rfl (lv_at hl 1 rfl) ?_
    refine lv_aload_n hx hb d_ST_write_5 rfl (lv_at hl 0 rfl) ?_
    refine va_get (D := D) (ci := 0) (v := .ref aB) (C := R_ST) (T := T_ST) (N := 1) hx hb hT u_ST hown hK hP 0 rfl rfl 0 (by decide) (hT _ k_37) (fun _ h9 => h9) rfl d_ST_write_6 ?_
    refine va_alen (v := 202000) hx hb hK hP 1 0 rfl rfl rfl d_ST_write_9 ?_
    refine lv_icmp_ge (tgt := 21) hx hb d_ST_write_10 (by decide) (fun c_2 => ?_) (fun c_2 => ?_)
    · exact W.vret hx hb hr (fun t ht hW => ⟨⟨b, rfl, (by rw [tw_ST_write, if_neg c_1, if_pos c_2]; first | done | rfl), by rw [ht]; exact hP, hD⟩, hS.F ht⟩) hS.2.2 d_ST_write_21
    · refine lv_aload_n hx hb d_ST_write_13 rfl (lv_at hl 0 rfl) ?_
      refine va_get (D := D) (ci := 0) (v := .ref aB) (C := R_ST) (T := T_ST) (N := 1) hx hb hT u_ST hown hK hP 0 rfl rfl 0 (by decide) (hT _ k_37) (fun _ h9 => h9) rfl d_ST_write_14 ?_
      refine lv_iload_n hx hb d_ST_write_17 rfl (lv_at hl 1 rfl) ?_
      refine lv_iload_n hx hb d_ST_write_18 rfl (lv_at hl 2 rfl) ?_
      refine lv_i2b (v := p1.toInt8.toInt32) hx hb d_ST_write_19 rfl ?_
      refine va_bast hx hb hK hP hD hS 1 0 rfl rfl (in_nn c_1 c_2 rfl) d_ST_write_20 (fun H locs hP hD hS => ?_)
      have hP : va_P D vwCl [(aS, .inr (0, [.ref aB])), (aB, .inl (cB, 202000, .inl (by_ (ub b p0.toNatClampNeg p1.toInt8.toInt32))))] H := by rw [← by_upd]; exact hP
      have hD : va_D A [(aS, .inr (0, [.ref aB])), (aB, .inl (cB, 202000, .inl (by_ (ub b p0.toNatClampNeg p1.toInt8.toInt32))))] := by rw [← by_upd]; exact hD
      exact W.vret hx hb hr (fun t ht hW => ⟨⟨ub b p0.toNatClampNeg p1.toInt8.toInt32, rfl, (by rw [tw_ST_write, if_neg c_1, if_neg c_2]; first | done | rfl), by rw [ht]; exact hP, hD⟩, hS.F ht⟩) hS.2.2 d_ST_write_21
