/-! printed by wip/gen -/
theorem k_489 : (Jvm.Cond.instanceMethod ({ cls := "PipelineBelt$Store", name := "named", desc := "(IILjava/lang/String;)Z" } : Jvm.MethodName)) ∈ lw_g := lw_gm (List.mem_append_right _ (List.mem_of_getElem? (i := 489) (by decide +kernel))) rfl
theorem k_490 : (Jvm.Cond.selects "PipelineBelt$Store" ({ cls := "PipelineBelt$Store", name := "named", desc := "(IILjava/lang/String;)Z" } : Jvm.MethodName) ({ cls := "PipelineBelt$Store", name := "named", desc := "(IILjava/lang/String;)Z" } : Jvm.MethodName)) ∈ lw_g := lw_gm (List.mem_append_right _ (List.mem_of_getElem? (i := 490) (by decide +kernel))) rfl
theorem k_492 : (Jvm.Cond.methodLink "PipelineBelt$Store" (38 : Nat) ({ cls := "java/lang/String", name := "length", desc := "()I" } : Jvm.MethodName)) ∈ lw_g := lw_gm (List.mem_append_right _ (List.mem_of_getElem? (i := 492) (by decide +kernel))) rfl
theorem k_493 : (Jvm.Cond.instanceMethod ({ cls := "java/lang/String", name := "length", desc := "()I" } : Jvm.MethodName)) ∈ lw_g := lw_gm (List.mem_append_right _ (List.mem_of_getElem? (i := 493) (by decide +kernel))) rfl
theorem k_494 : (Jvm.Cond.selects "java/lang/String" ({ cls := "java/lang/String", name := "length", desc := "()I" } : Jvm.MethodName) ({ cls := "java/lang/String", name := "length", desc := "()I" } : Jvm.MethodName)) ∈ lw_g := lw_gm (List.mem_append_right _ (List.mem_of_getElem? (i := 494) (by decide +kernel))) rfl
theorem k_502 : (Jvm.Cond.methodLink "PipelineBelt$Store" (47 : Nat) ({ cls := "java/lang/String", name := "charAt", desc := "(I)C" } : Jvm.MethodName)) ∈ lw_g := lw_gm (List.mem_append_right _ (List.mem_of_getElem? (i := 502) (by decide +kernel))) rfl
theorem k_503 : (Jvm.Cond.instanceMethod ({ cls := "java/lang/String", name := "charAt", desc := "(I)C" } : Jvm.MethodName)) ∈ lw_g := lw_gm (List.mem_append_right _ (List.mem_of_getElem? (i := 503) (by decide +kernel))) rfl
theorem k_504 : (Jvm.Cond.selects "java/lang/String" ({ cls := "java/lang/String", name := "charAt", desc := "(I)C" } : Jvm.MethodName) ({ cls := "java/lang/String", name := "charAt", desc := "(I)C" } : Jvm.MethodName)) ∈ lw_g := lw_gm (List.mem_append_right _ (List.mem_of_getElem? (i := 504) (by decide +kernel))) rfl
theorem k_712 : (Jvm.Cond.methodLink "PipelineBelt$Grouper" (79 : Nat) ({ cls := "PipelineBelt$Store", name := "countParts", desc := "(I)I" } : Jvm.MethodName)) ∈ lw_g := lw_gm (List.mem_append_right _ (List.mem_of_getElem? (i := 712) (by decide +kernel))) rfl
theorem k_716 : (Jvm.Cond.methodLink "PipelineBelt$Grouper" (85 : Nat) ({ cls := "PipelineBelt$Grouper", name := "faultOfKey", desc := "(III)I" } : Jvm.MethodName)) ∈ lw_g := lw_gm (List.mem_append_right _ (List.mem_of_getElem? (i := 716) (by decide +kernel))) rfl
theorem k_718 : (Jvm.Cond.instanceMethod ({ cls := "PipelineBelt$Grouper", name := "faultOfKey", desc := "(III)I" } : Jvm.MethodName)) ∈ lw_g := lw_gm (List.mem_append_right _ (List.mem_of_getElem? (i := 718) (by decide +kernel))) rfl
theorem k_721 : (Jvm.Cond.methodLink "PipelineBelt$Grouper" (94 : Nat) ({ cls := "PipelineBelt$Store", name := "named", desc := "(IILjava/lang/String;)Z" } : Jvm.MethodName)) ∈ lw_g := lw_gm (List.mem_append_right _ (List.mem_of_getElem? (i := 721) (by decide +kernel))) rfl
theorem k_723 : (Jvm.Cond.methodLink "PipelineBelt$Grouper" (89 : Nat) ({ cls := "PipelineBelt$Grouper", name := "faultOfPart", desc := "(III)I" } : Jvm.MethodName)) ∈ lw_g := lw_gm (List.mem_append_right _ (List.mem_of_getElem? (i := 723) (by decide +kernel))) rfl
theorem k_725 : (Jvm.Cond.instanceMethod ({ cls := "PipelineBelt$Grouper", name := "faultOfPart", desc := "(III)I" } : Jvm.MethodName)) ∈ lw_g := lw_gm (List.mem_append_right _ (List.mem_of_getElem? (i := 725) (by decide +kernel))) rfl
theorem k_727 : (Jvm.Cond.methodLink "PipelineBelt$Grouper" (103 : Nat) ({ cls := "PipelineBelt$Store", name := "isPlain", desc := "(II)Z" } : Jvm.MethodName)) ∈ lw_g := lw_gm (List.mem_append_right _ (List.mem_of_getElem? (i := 727) (by decide +kernel))) rfl
theorem k_732 : (Jvm.Cond.methodLink "PipelineBelt$Grouper" (110 : Nat) ({ cls := "PipelineBelt$Grouper", name := "workOf", desc := "(I)I" } : Jvm.MethodName)) ∈ lw_g := lw_gm (List.mem_append_right _ (List.mem_of_getElem? (i := 732) (by decide +kernel))) rfl
theorem k_734 : (Jvm.Cond.instanceMethod ({ cls := "PipelineBelt$Grouper", name := "workOf", desc := "(I)I" } : Jvm.MethodName)) ∈ lw_g := lw_gm (List.mem_append_right _ (List.mem_of_getElem? (i := 734) (by decide +kernel))) rfl
theorem k_933 : (Jvm.Cond.methodLink "PipelineBelt$Finder" (42 : Nat) ({ cls := "PipelineBelt$Store", name := "kindOf", desc := "(I)I" } : Jvm.MethodName)) ∈ lw_g := lw_gm (List.mem_append_right _ (List.mem_of_getElem? (i := 933) (by decide +kernel))) rfl
theorem k_935 : (Jvm.Cond.methodLink "PipelineBelt$Finder" (51 : Nat) ({ cls := "PipelineBelt$Store", name := "placeOf", desc := "(I)I" } : Jvm.MethodName)) ∈ lw_g := lw_gm (List.mem_append_right _ (List.mem_of_getElem? (i := 935) (by decide +kernel))) rfl
theorem k_943 : (Jvm.Cond.methodLink "PipelineBelt$Finder" (86 : Nat) ({ cls := "PipelineBelt$Store", name := "named", desc := "(IILjava/lang/String;)Z" } : Jvm.MethodName)) ∈ lw_g := lw_gm (List.mem_append_right _ (List.mem_of_getElem? (i := 943) (by decide +kernel))) rfl
abbrev b_ST_named : ByteArray := prog_10_method_15_code
def y_ST_named : MethodName := ⟨R_ST, "named", "(IILjava/lang/String;)Z"⟩
theorem kc_ST_named : Cond.code y_ST_named b_ST_named 5 (some .boolean) ∈ lw_g := lw_gm (List.mem_append_right _ (List.mem_of_getElem? (i := 491) (by decide +kernel))) rfl
abbrev mw_ST_named : List Cond := Cond.code y_ST_named b_ST_named 5 (some .boolean) :: lw_g
theorem hd_ST_named : y_ST_named.cls = R_ST ∧ y_ST_named.cls ≠ "java/lang/invoke/MethodHandle" ∧ y_ST_named.cls ≠ "java/lang/invoke/VarHandle" ∧ (parseMethodDescriptor y_ST_named.desc).map (fun d => d.parameters.length) = some 3 := by decide +kernel
theorem d_ST_named_0 : decode b_ST_named 0 = .ok (.iload_n 2, 1) := by decide +kernel
theorem d_ST_named_1 : decode b_ST_named 1 = .ok (.iload_n 1, 1) := by decide +kernel
theorem d_ST_named_2 : decode b_ST_named 2 = .ok (.isub, 1) := by decide +kernel
theorem d_ST_named_3 : decode b_ST_named 3 = .ok (.aload_n 3, 1) := by decide +kernel
theorem d_ST_named_4 : decode b_ST_named 4 = .ok (.invokevirtual 38, 3) := by decide +kernel
theorem d_ST_named_7 : decode b_ST_named 7 = .ok (.if_icmp .eq 5, 3) := by decide +kernel
theorem d_ST_named_10 : decode b_ST_named 10 = .ok (.iconst 0, 1) := by decide +kernel
theorem d_ST_named_11 : decode b_ST_named 11 = .ok (.ireturn, 1) := by decide +kernel
theorem d_ST_named_12 : decode b_ST_named 12 = .ok (.iconst 0, 1) := by decide +kernel
theorem d_ST_named_13 : decode b_ST_named 13 = .ok (.istore 4, 2) := by decide +kernel
theorem d_ST_named_15 : decode b_ST_named 15 = .ok (.iload 4, 2) := by decide +kernel
theorem d_ST_named_17 : decode b_ST_named 17 = .ok (.aload_n 3, 1) := by decide +kernel
theorem d_ST_named_18 : decode b_ST_named 18 = .ok (.invokevirtual 38, 3) := by decide +kernel
theorem d_ST_named_21 : decode b_ST_named 21 = .ok (.if_icmp .ge 28, 3) := by decide +kernel
theorem d_ST_named_24 : decode b_ST_named 24 = .ok (.aload_n 0, 1) := by decide +kernel
theorem d_ST_named_25 : decode b_ST_named 25 = .ok (.iload_n 1, 1) := by decide +kernel
theorem d_ST_named_26 : decode b_ST_named 26 = .ok (.iload 4, 2) := by decide +kernel
theorem d_ST_named_28 : decode b_ST_named 28 = .ok (.iadd, 1) := by decide +kernel
theorem d_ST_named_29 : decode b_ST_named 29 = .ok (.invokevirtual 44, 3) := by decide +kernel
theorem d_ST_named_32 : decode b_ST_named 32 = .ok (.aload_n 3, 1) := by decide +kernel
theorem d_ST_named_33 : decode b_ST_named 33 = .ok (.iload 4, 2) := by decide +kernel
theorem d_ST_named_35 : decode b_ST_named 35 = .ok (.invokevirtual 47, 3) := by decide +kernel
theorem d_ST_named_38 : decode b_ST_named 38 = .ok (.if_icmp .eq 5, 3) := by decide +kernel
theorem d_ST_named_41 : decode b_ST_named 41 = .ok (.iconst 0, 1) := by decide +kernel
theorem d_ST_named_42 : decode b_ST_named 42 = .ok (.ireturn, 1) := by decide +kernel
theorem d_ST_named_43 : decode b_ST_named 43 = .ok (.iinc 4 1, 3) := by decide +kernel
theorem d_ST_named_46 : decode b_ST_named 46 = .ok (.goto (-31), 3) := by decide +kernel
theorem d_ST_named_49 : decode b_ST_named 49 = .ok (.iconst 1, 1) := by decide +kernel
theorem d_ST_named_50 : decode b_ST_named 50 = .ok (.ireturn, 1) := by decide +kernel
abbrev b_GR_workOf : ByteArray := prog_6_method_6_code
def y_GR_workOf : MethodName := ⟨R_GR, "workOf", "(I)I"⟩
theorem kc_GR_workOf : Cond.code y_GR_workOf b_GR_workOf 4 (some .int) ∈ lw_g := lw_gm (List.mem_append_right _ (List.mem_of_getElem? (i := 735) (by decide +kernel))) rfl
abbrev mw_GR_workOf : List Cond := Cond.code y_GR_workOf b_GR_workOf 4 (some .int) :: lw_g
theorem hd_GR_workOf : y_GR_workOf.cls = R_GR ∧ y_GR_workOf.cls ≠ "java/lang/invoke/MethodHandle" ∧ y_GR_workOf.cls ≠ "java/lang/invoke/VarHandle" ∧ (parseMethodDescriptor y_GR_workOf.desc).map (fun d => d.parameters.length) = some 1 := by decide +kernel
theorem kp_GR_workOf : Cond.selects R_GR y_GR_workOf y_GR_workOf ∈ lw_g := lw_gm (List.mem_append_left _ (by decide +kernel)) rfl
theorem d_GR_workOf_0 : decode b_GR_workOf 0 = .ok (.iload_n 1, 1) := by decide +kernel
theorem d_GR_workOf_1 : decode b_GR_workOf 1 = .ok (.invokestatic 46, 3) := by decide +kernel
theorem d_GR_workOf_4 : decode b_GR_workOf 4 = .ok (.iconst 5, 1) := by decide +kernel
theorem d_GR_workOf_5 : decode b_GR_workOf 5 = .ok (.iadd, 1) := by decide +kernel
theorem d_GR_workOf_6 : decode b_GR_workOf 6 = .ok (.istore_n 2, 1) := by decide +kernel
theorem d_GR_workOf_7 : decode b_GR_workOf 7 = .ok (.aload_n 0, 1) := by decide +kernel
theorem d_GR_workOf_8 : decode b_GR_workOf 8 = .ok (.getfield 30, 3) := by decide +kernel
theorem d_GR_workOf_11 : decode b_GR_workOf 11 = .ok (.iload_n 2, 1) := by decide +kernel
theorem d_GR_workOf_12 : decode b_GR_workOf 12 = .ok (.iconst 1, 1) := by decide +kernel
theorem d_GR_workOf_13 : decode b_GR_workOf 13 = .ok (.isub, 1) := by decide +kernel
theorem d_GR_workOf_14 : decode b_GR_workOf 14 = .ok (.invokevirtual 51, 3) := by decide +kernel
theorem d_GR_workOf_17 : decode b_GR_workOf 17 = .ok (.invokestatic 46, 3) := by decide +kernel
theorem d_GR_workOf_20 : decode b_GR_workOf 20 = .ok (.iconst 1, 1) := by decide +kernel
theorem d_GR_workOf_21 : decode b_GR_workOf 21 = .ok (.isub, 1) := by decide +kernel
theorem d_GR_workOf_22 : decode b_GR_workOf 22 = .ok (.istore_n 3, 1) := by decide +kernel
theorem d_GR_workOf_23 : decode b_GR_workOf 23 = .ok (.aload_n 0, 1) := by decide +kernel
theorem d_GR_workOf_24 : decode b_GR_workOf 24 = .ok (.getfield 30, 3) := by decide +kernel
theorem d_GR_workOf_27 : decode b_GR_workOf 27 = .ok (.iload_n 2, 1) := by decide +kernel
theorem d_GR_workOf_28 : decode b_GR_workOf 28 = .ok (.iload_n 3, 1) := by decide +kernel
theorem d_GR_workOf_29 : decode b_GR_workOf 29 = .ok (.ldc 113, 2) := by decide +kernel
theorem d_GR_workOf_31 : decode b_GR_workOf 31 = .ok (.invokevirtual 94, 3) := by decide +kernel
theorem d_GR_workOf_34 : decode b_GR_workOf 34 = .ok (.ifCond .eq 5, 3) := by decide +kernel
theorem d_GR_workOf_37 : decode b_GR_workOf 37 = .ok (.iconst 1, 1) := by decide +kernel
theorem d_GR_workOf_38 : decode b_GR_workOf 38 = .ok (.ireturn, 1) := by decide +kernel
theorem d_GR_workOf_39 : decode b_GR_workOf 39 = .ok (.aload_n 0, 1) := by decide +kernel
theorem d_GR_workOf_40 : decode b_GR_workOf 40 = .ok (.getfield 30, 3) := by decide +kernel
theorem d_GR_workOf_43 : decode b_GR_workOf 43 = .ok (.iload_n 2, 1) := by decide +kernel
theorem d_GR_workOf_44 : decode b_GR_workOf 44 = .ok (.iload_n 3, 1) := by decide +kernel
theorem d_GR_workOf_45 : decode b_GR_workOf 45 = .ok (.ldc 115, 2) := by decide +kernel
theorem d_GR_workOf_47 : decode b_GR_workOf 47 = .ok (.invokevirtual 94, 3) := by decide +kernel
theorem d_GR_workOf_50 : decode b_GR_workOf 50 = .ok (.ifCond .eq 5, 3) := by decide +kernel
theorem d_GR_workOf_53 : decode b_GR_workOf 53 = .ok (.iconst 2, 1) := by decide +kernel
theorem d_GR_workOf_54 : decode b_GR_workOf 54 = .ok (.ireturn, 1) := by decide +kernel
theorem d_GR_workOf_55 : decode b_GR_workOf 55 = .ok (.aload_n 0, 1) := by decide +kernel
theorem d_GR_workOf_56 : decode b_GR_workOf 56 = .ok (.getfield 30, 3) := by decide +kernel
theorem d_GR_workOf_59 : decode b_GR_workOf 59 = .ok (.iload_n 2, 1) := by decide +kernel
theorem d_GR_workOf_60 : decode b_GR_workOf 60 = .ok (.iload_n 3, 1) := by decide +kernel
theorem d_GR_workOf_61 : decode b_GR_workOf 61 = .ok (.ldc 117, 2) := by decide +kernel
theorem d_GR_workOf_63 : decode b_GR_workOf 63 = .ok (.invokevirtual 94, 3) := by decide +kernel
theorem d_GR_workOf_66 : decode b_GR_workOf 66 = .ok (.ifCond .eq 5, 3) := by decide +kernel
theorem d_GR_workOf_69 : decode b_GR_workOf 69 = .ok (.iconst 3, 1) := by decide +kernel
theorem d_GR_workOf_70 : decode b_GR_workOf 70 = .ok (.ireturn, 1) := by decide +kernel
theorem d_GR_workOf_71 : decode b_GR_workOf 71 = .ok (.aload_n 0, 1) := by decide +kernel
theorem d_GR_workOf_72 : decode b_GR_workOf 72 = .ok (.getfield 30, 3) := by decide +kernel
theorem d_GR_workOf_75 : decode b_GR_workOf 75 = .ok (.iload_n 2, 1) := by decide +kernel
theorem d_GR_workOf_76 : decode b_GR_workOf 76 = .ok (.iload_n 3, 1) := by decide +kernel
theorem d_GR_workOf_77 : decode b_GR_workOf 77 = .ok (.ldc 119, 2) := by decide +kernel
theorem d_GR_workOf_79 : decode b_GR_workOf 79 = .ok (.invokevirtual 94, 3) := by decide +kernel
theorem d_GR_workOf_82 : decode b_GR_workOf 82 = .ok (.ifCond .eq 5, 3) := by decide +kernel
theorem d_GR_workOf_85 : decode b_GR_workOf 85 = .ok (.iconst 4, 1) := by decide +kernel
theorem d_GR_workOf_86 : decode b_GR_workOf 86 = .ok (.ireturn, 1) := by decide +kernel
theorem d_GR_workOf_87 : decode b_GR_workOf 87 = .ok (.aload_n 0, 1) := by decide +kernel
theorem d_GR_workOf_88 : decode b_GR_workOf 88 = .ok (.getfield 30, 3) := by decide +kernel
theorem d_GR_workOf_91 : decode b_GR_workOf 91 = .ok (.iload_n 2, 1) := by decide +kernel
theorem d_GR_workOf_92 : decode b_GR_workOf 92 = .ok (.iload_n 3, 1) := by decide +kernel
theorem d_GR_workOf_93 : decode b_GR_workOf 93 = .ok (.ldc 121, 2) := by decide +kernel
theorem d_GR_workOf_95 : decode b_GR_workOf 95 = .ok (.invokevirtual 94, 3) := by decide +kernel
theorem d_GR_workOf_98 : decode b_GR_workOf 98 = .ok (.ifCond .eq 5, 3) := by decide +kernel
theorem d_GR_workOf_101 : decode b_GR_workOf 101 = .ok (.iconst 5, 1) := by decide +kernel
theorem d_GR_workOf_102 : decode b_GR_workOf 102 = .ok (.ireturn, 1) := by decide +kernel
theorem d_GR_workOf_103 : decode b_GR_workOf 103 = .ok (.aload_n 0, 1) := by decide +kernel
theorem d_GR_workOf_104 : decode b_GR_workOf 104 = .ok (.getfield 30, 3) := by decide +kernel
theorem d_GR_workOf_107 : decode b_GR_workOf 107 = .ok (.iload_n 2, 1) := by decide +kernel
theorem d_GR_workOf_108 : decode b_GR_workOf 108 = .ok (.iload_n 3, 1) := by decide +kernel
theorem d_GR_workOf_109 : decode b_GR_workOf 109 = .ok (.ldc 123, 2) := by decide +kernel
theorem d_GR_workOf_111 : decode b_GR_workOf 111 = .ok (.invokevirtual 94, 3) := by decide +kernel
theorem d_GR_workOf_114 : decode b_GR_workOf 114 = .ok (.ifCond .eq 6, 3) := by decide +kernel
theorem d_GR_workOf_117 : decode b_GR_workOf 117 = .ok (.bipush 6, 2) := by decide +kernel
theorem d_GR_workOf_119 : decode b_GR_workOf 119 = .ok (.ireturn, 1) := by decide +kernel
theorem d_GR_workOf_120 : decode b_GR_workOf 120 = .ok (.aload_n 0, 1) := by decide +kernel
theorem d_GR_workOf_121 : decode b_GR_workOf 121 = .ok (.getfield 30, 3) := by decide +kernel
theorem d_GR_workOf_124 : decode b_GR_workOf 124 = .ok (.iload_n 2, 1) := by decide +kernel
theorem d_GR_workOf_125 : decode b_GR_workOf 125 = .ok (.iload_n 3, 1) := by decide +kernel
theorem d_GR_workOf_126 : decode b_GR_workOf 126 = .ok (.ldc 125, 2) := by decide +kernel
theorem d_GR_workOf_128 : decode b_GR_workOf 128 = .ok (.invokevirtual 94, 3) := by decide +kernel
theorem d_GR_workOf_131 : decode b_GR_workOf 131 = .ok (.ifCond .eq 6, 3) := by decide +kernel
theorem d_GR_workOf_134 : decode b_GR_workOf 134 = .ok (.bipush 7, 2) := by decide +kernel
theorem d_GR_workOf_136 : decode b_GR_workOf 136 = .ok (.ireturn, 1) := by decide +kernel
theorem d_GR_workOf_137 : decode b_GR_workOf 137 = .ok (.aload_n 0, 1) := by decide +kernel
theorem d_GR_workOf_138 : decode b_GR_workOf 138 = .ok (.getfield 30, 3) := by decide +kernel
theorem d_GR_workOf_141 : decode b_GR_workOf 141 = .ok (.iload_n 2, 1) := by decide +kernel
theorem d_GR_workOf_142 : decode b_GR_workOf 142 = .ok (.iload_n 3, 1) := by decide +kernel
theorem d_GR_workOf_143 : decode b_GR_workOf 143 = .ok (.ldc 127, 2) := by decide +kernel
theorem d_GR_workOf_145 : decode b_GR_workOf 145 = .ok (.invokevirtual 94, 3) := by decide +kernel
theorem d_GR_workOf_148 : decode b_GR_workOf 148 = .ok (.ifCond .eq 8, 3) := by decide +kernel
theorem d_GR_workOf_151 : decode b_GR_workOf 151 = .ok (.bipush 8, 2) := by decide +kernel
theorem d_GR_workOf_153 : decode b_GR_workOf 153 = .ok (.goto 4, 3) := by decide +kernel
theorem d_GR_workOf_156 : decode b_GR_workOf 156 = .ok (.iconst 0, 1) := by decide +kernel
theorem d_GR_workOf_157 : decode b_GR_workOf 157 = .ok (.ireturn, 1) := by decide +kernel
abbrev b_FI_isText : ByteArray := prog_5_method_3_code
def y_FI_isText : MethodName := ⟨R_FI, "isText", "(IILjava/lang/String;)Z"⟩
theorem kc_FI_isText : Cond.code y_FI_isText b_FI_isText 4 (some .boolean) ∈ lw_g := lw_gm (List.mem_append_right _ (List.mem_of_getElem? (i := 942) (by decide +kernel))) rfl
abbrev mw_FI_isText : List Cond := Cond.code y_FI_isText b_FI_isText 4 (some .boolean) :: lw_g
theorem hd_FI_isText : y_FI_isText.cls = R_FI ∧ y_FI_isText.cls ≠ "java/lang/invoke/MethodHandle" ∧ y_FI_isText.cls ≠ "java/lang/invoke/VarHandle" ∧ (parseMethodDescriptor y_FI_isText.desc).map (fun d => d.parameters.length) = some 3 := by decide +kernel
theorem kp_FI_isText : Cond.selects R_FI y_FI_isText y_FI_isText ∈ lw_g := lw_gm (List.mem_append_left _ (by decide +kernel)) rfl
theorem d_FI_isText_0 : decode b_FI_isText 0 = .ok (.iload_n 2, 1) := by decide +kernel
theorem d_FI_isText_1 : decode b_FI_isText 1 = .ok (.invokestatic 42, 3) := by decide +kernel
theorem d_FI_isText_4 : decode b_FI_isText 4 = .ok (.iconst 2, 1) := by decide +kernel
theorem d_FI_isText_5 : decode b_FI_isText 5 = .ok (.if_icmp .ne 27, 3) := by decide +kernel
theorem d_FI_isText_8 : decode b_FI_isText 8 = .ok (.aload_n 0, 1) := by decide +kernel
theorem d_FI_isText_9 : decode b_FI_isText 9 = .ok (.getfield 30, 3) := by decide +kernel
theorem d_FI_isText_12 : decode b_FI_isText 12 = .ok (.iload_n 1, 1) := by decide +kernel
theorem d_FI_isText_13 : decode b_FI_isText 13 = .ok (.iconst 1, 1) := by decide +kernel
theorem d_FI_isText_14 : decode b_FI_isText 14 = .ok (.iadd, 1) := by decide +kernel
theorem d_FI_isText_15 : decode b_FI_isText 15 = .ok (.iload_n 2, 1) := by decide +kernel
theorem d_FI_isText_16 : decode b_FI_isText 16 = .ok (.invokestatic 51, 3) := by decide +kernel
theorem d_FI_isText_19 : decode b_FI_isText 19 = .ok (.iconst 1, 1) := by decide +kernel
theorem d_FI_isText_20 : decode b_FI_isText 20 = .ok (.isub, 1) := by decide +kernel
theorem d_FI_isText_21 : decode b_FI_isText 21 = .ok (.aload_n 3, 1) := by decide +kernel
theorem d_FI_isText_22 : decode b_FI_isText 22 = .ok (.invokevirtual 86, 3) := by decide +kernel
theorem d_FI_isText_25 : decode b_FI_isText 25 = .ok (.ifCond .eq 7, 3) := by decide +kernel
theorem d_FI_isText_28 : decode b_FI_isText 28 = .ok (.iconst 1, 1) := by decide +kernel
theorem d_FI_isText_29 : decode b_FI_isText 29 = .ok (.goto 4, 3) := by decide +kernel
theorem d_FI_isText_32 : decode b_FI_isText 32 = .ok (.iconst 0, 1) := by decide +kernel
theorem d_FI_isText_33 : decode b_FI_isText 33 = .ok (.ireturn, 1) := by decide +kernel
abbrev b_GR_faultOfKey : ByteArray := prog_6_method_4_code
def y_GR_faultOfKey : MethodName := ⟨R_GR, "faultOfKey", "(III)I"⟩
theorem kc_GR_faultOfKey : Cond.code y_GR_faultOfKey b_GR_faultOfKey 4 (some .int) ∈ lw_g := lw_gm (List.mem_append_right _ (List.mem_of_getElem? (i := 719) (by decide +kernel))) rfl
abbrev mw_GR_faultOfKey : List Cond := Cond.code y_GR_faultOfKey b_GR_faultOfKey 4 (some .int) :: lw_g
theorem hd_GR_faultOfKey : y_GR_faultOfKey.cls = R_GR ∧ y_GR_faultOfKey.cls ≠ "java/lang/invoke/MethodHandle" ∧ y_GR_faultOfKey.cls ≠ "java/lang/invoke/VarHandle" ∧ (parseMethodDescriptor y_GR_faultOfKey.desc).map (fun d => d.parameters.length) = some 3 := by decide +kernel
theorem kp_GR_faultOfKey : Cond.selects R_GR y_GR_faultOfKey y_GR_faultOfKey ∈ lw_g := lw_gm (List.mem_append_left _ (by decide +kernel)) rfl
theorem d_GR_faultOfKey_0 : decode b_GR_faultOfKey 0 = .ok (.aload_n 0, 1) := by decide +kernel
theorem d_GR_faultOfKey_1 : decode b_GR_faultOfKey 1 = .ok (.getfield 30, 3) := by decide +kernel
theorem d_GR_faultOfKey_4 : decode b_GR_faultOfKey 4 = .ok (.iload_n 1, 1) := by decide +kernel
theorem d_GR_faultOfKey_5 : decode b_GR_faultOfKey 5 = .ok (.iload_n 2, 1) := by decide +kernel
theorem d_GR_faultOfKey_6 : decode b_GR_faultOfKey 6 = .ok (.ldc 92, 2) := by decide +kernel
theorem d_GR_faultOfKey_8 : decode b_GR_faultOfKey 8 = .ok (.invokevirtual 94, 3) := by decide +kernel
theorem d_GR_faultOfKey_11 : decode b_GR_faultOfKey 11 = .ok (.ifCond .ne 5, 3) := by decide +kernel
theorem d_GR_faultOfKey_14 : decode b_GR_faultOfKey 14 = .ok (.iconst 2, 1) := by decide +kernel
theorem d_GR_faultOfKey_15 : decode b_GR_faultOfKey 15 = .ok (.ireturn, 1) := by decide +kernel
theorem d_GR_faultOfKey_16 : decode b_GR_faultOfKey 16 = .ok (.aload_n 0, 1) := by decide +kernel
theorem d_GR_faultOfKey_17 : decode b_GR_faultOfKey 17 = .ok (.getfield 38, 3) := by decide +kernel
theorem d_GR_faultOfKey_20 : decode b_GR_faultOfKey 20 = .ok (.iload_n 3, 1) := by decide +kernel
theorem d_GR_faultOfKey_21 : decode b_GR_faultOfKey 21 = .ok (.invokevirtual 98, 3) := by decide +kernel
theorem d_GR_faultOfKey_24 : decode b_GR_faultOfKey 24 = .ok (.ifCond .eq 7, 3) := by decide +kernel
theorem d_GR_faultOfKey_27 : decode b_GR_faultOfKey 27 = .ok (.iconst 0, 1) := by decide +kernel
theorem d_GR_faultOfKey_28 : decode b_GR_faultOfKey 28 = .ok (.goto 4, 3) := by decide +kernel
theorem d_GR_faultOfKey_31 : decode b_GR_faultOfKey 31 = .ok (.iconst 3, 1) := by decide +kernel
theorem d_GR_faultOfKey_32 : decode b_GR_faultOfKey 32 = .ok (.ireturn, 1) := by decide +kernel
abbrev b_GR_faultOfPart : ByteArray := prog_6_method_5_code
def y_GR_faultOfPart : MethodName := ⟨R_GR, "faultOfPart", "(III)I"⟩
theorem kc_GR_faultOfPart : Cond.code y_GR_faultOfPart b_GR_faultOfPart 6 (some .int) ∈ lw_g := lw_gm (List.mem_append_right _ (List.mem_of_getElem? (i := 726) (by decide +kernel))) rfl
abbrev mw_GR_faultOfPart : List Cond := Cond.code y_GR_faultOfPart b_GR_faultOfPart 6 (some .int) :: lw_g
theorem hd_GR_faultOfPart : y_GR_faultOfPart.cls = R_GR ∧ y_GR_faultOfPart.cls ≠ "java/lang/invoke/MethodHandle" ∧ y_GR_faultOfPart.cls ≠ "java/lang/invoke/VarHandle" ∧ (parseMethodDescriptor y_GR_faultOfPart.desc).map (fun d => d.parameters.length) = some 3 := by decide +kernel
theorem kp_GR_faultOfPart : Cond.selects R_GR y_GR_faultOfPart y_GR_faultOfPart ∈ lw_g := lw_gm (List.mem_append_left _ (by decide +kernel)) rfl
theorem d_GR_faultOfPart_0 : decode b_GR_faultOfPart 0 = .ok (.aload_n 0, 1) := by decide +kernel
theorem d_GR_faultOfPart_1 : decode b_GR_faultOfPart 1 = .ok (.getfield 30, 3) := by decide +kernel
theorem d_GR_faultOfPart_4 : decode b_GR_faultOfPart 4 = .ok (.iload_n 1, 1) := by decide +kernel
theorem d_GR_faultOfPart_5 : decode b_GR_faultOfPart 5 = .ok (.iload_n 2, 1) := by decide +kernel
theorem d_GR_faultOfPart_6 : decode b_GR_faultOfPart 6 = .ok (.invokevirtual 103, 3) := by decide +kernel
theorem d_GR_faultOfPart_9 : decode b_GR_faultOfPart 9 = .ok (.ifCond .eq 23, 3) := by decide +kernel
theorem d_GR_faultOfPart_12 : decode b_GR_faultOfPart 12 = .ok (.iload_n 3, 1) := by decide +kernel
theorem d_GR_faultOfPart_13 : decode b_GR_faultOfPart 13 = .ok (.invokestatic 76, 3) := by decide +kernel
theorem d_GR_faultOfPart_16 : decode b_GR_faultOfPart 16 = .ok (.iconst 3, 1) := by decide +kernel
theorem d_GR_faultOfPart_17 : decode b_GR_faultOfPart 17 = .ok (.if_icmp .ne 15, 3) := by decide +kernel
theorem d_GR_faultOfPart_20 : decode b_GR_faultOfPart 20 = .ok (.aload_n 0, 1) := by decide +kernel
theorem d_GR_faultOfPart_21 : decode b_GR_faultOfPart 21 = .ok (.getfield 30, 3) := by decide +kernel
theorem d_GR_faultOfPart_24 : decode b_GR_faultOfPart 24 = .ok (.iload_n 3, 1) := by decide +kernel
theorem d_GR_faultOfPart_25 : decode b_GR_faultOfPart 25 = .ok (.invokevirtual 79, 3) := by decide +kernel
theorem d_GR_faultOfPart_28 : decode b_GR_faultOfPart 28 = .ok (.iconst 1, 1) := by decide +kernel
theorem d_GR_faultOfPart_29 : decode b_GR_faultOfPart 29 = .ok (.if_icmp .eq 5, 3) := by decide +kernel
theorem d_GR_faultOfPart_32 : decode b_GR_faultOfPart 32 = .ok (.iconst 2, 1) := by decide +kernel
theorem d_GR_faultOfPart_33 : decode b_GR_faultOfPart 33 = .ok (.ireturn, 1) := by decide +kernel
theorem d_GR_faultOfPart_34 : decode b_GR_faultOfPart 34 = .ok (.aload_n 0, 1) := by decide +kernel
theorem d_GR_faultOfPart_35 : decode b_GR_faultOfPart 35 = .ok (.iload_n 3, 1) := by decide +kernel
theorem d_GR_faultOfPart_36 : decode b_GR_faultOfPart 36 = .ok (.invokevirtual 107, 3) := by decide +kernel
theorem d_GR_faultOfPart_39 : decode b_GR_faultOfPart 39 = .ok (.istore 4, 2) := by decide +kernel
theorem d_GR_faultOfPart_41 : decode b_GR_faultOfPart 41 = .ok (.aload_n 0, 1) := by decide +kernel
theorem d_GR_faultOfPart_42 : decode b_GR_faultOfPart 42 = .ok (.iload_n 3, 1) := by decide +kernel
theorem d_GR_faultOfPart_43 : decode b_GR_faultOfPart 43 = .ok (.invokevirtual 110, 3) := by decide +kernel
theorem d_GR_faultOfPart_46 : decode b_GR_faultOfPart 46 = .ok (.istore 5, 2) := by decide +kernel
theorem d_GR_faultOfPart_48 : decode b_GR_faultOfPart 48 = .ok (.iload 5, 2) := by decide +kernel
theorem d_GR_faultOfPart_50 : decode b_GR_faultOfPart 50 = .ok (.ifCond .eq 19, 3) := by decide +kernel
theorem d_GR_faultOfPart_53 : decode b_GR_faultOfPart 53 = .ok (.iload 5, 2) := by decide +kernel
theorem d_GR_faultOfPart_55 : decode b_GR_faultOfPart 55 = .ok (.iconst 1, 1) := by decide +kernel
theorem d_GR_faultOfPart_56 : decode b_GR_faultOfPart 56 = .ok (.if_icmp .ne 15, 3) := by decide +kernel
theorem d_GR_faultOfPart_59 : decode b_GR_faultOfPart 59 = .ok (.iload 4, 2) := by decide +kernel
theorem d_GR_faultOfPart_61 : decode b_GR_faultOfPart 61 = .ok (.invokestatic 76, 3) := by decide +kernel
theorem d_GR_faultOfPart_64 : decode b_GR_faultOfPart 64 = .ok (.bipush 10, 2) := by decide +kernel
theorem d_GR_faultOfPart_66 : decode b_GR_faultOfPart 66 = .ok (.if_icmp .eq 5, 3) := by decide +kernel
theorem d_GR_faultOfPart_69 : decode b_GR_faultOfPart 69 = .ok (.iconst 2, 1) := by decide +kernel
theorem d_GR_faultOfPart_70 : decode b_GR_faultOfPart 70 = .ok (.ireturn, 1) := by decide +kernel
theorem d_GR_faultOfPart_71 : decode b_GR_faultOfPart 71 = .ok (.iload 5, 2) := by decide +kernel
theorem d_GR_faultOfPart_73 : decode b_GR_faultOfPart 73 = .ok (.iconst 1, 1) := by decide +kernel
theorem d_GR_faultOfPart_74 : decode b_GR_faultOfPart 74 = .ok (.if_icmp .eq 15, 3) := by decide +kernel
theorem d_GR_faultOfPart_77 : decode b_GR_faultOfPart 77 = .ok (.aload_n 0, 1) := by decide +kernel
theorem d_GR_faultOfPart_78 : decode b_GR_faultOfPart 78 = .ok (.getfield 38, 3) := by decide +kernel
theorem d_GR_faultOfPart_81 : decode b_GR_faultOfPart 81 = .ok (.iload 4, 2) := by decide +kernel
theorem d_GR_faultOfPart_83 : decode b_GR_faultOfPart 83 = .ok (.invokevirtual 98, 3) := by decide +kernel
theorem d_GR_faultOfPart_86 : decode b_GR_faultOfPart 86 = .ok (.ifCond .eq 7, 3) := by decide +kernel
theorem d_GR_faultOfPart_89 : decode b_GR_faultOfPart 89 = .ok (.iconst 0, 1) := by decide +kernel
theorem d_GR_faultOfPart_90 : decode b_GR_faultOfPart 90 = .ok (.goto 4, 3) := by decide +kernel
theorem d_GR_faultOfPart_93 : decode b_GR_faultOfPart 93 = .ok (.iconst 3, 1) := by decide +kernel
theorem d_GR_faultOfPart_94 : decode b_GR_faultOfPart 94 = .ok (.ireturn, 1) := by decide +kernel
abbrev b_GR_faultOf : ByteArray := prog_6_method_3_code
def y_GR_faultOf : MethodName := ⟨R_GR, "faultOf", "(I)I"⟩
theorem kc_GR_faultOf : Cond.code y_GR_faultOf b_GR_faultOf 8 (some .int) ∈ lw_g := lw_gm (List.mem_append_right _ (List.mem_of_getElem? (i := 710) (by decide +kernel))) rfl
abbrev mw_GR_faultOf : List Cond := Cond.code y_GR_faultOf b_GR_faultOf 8 (some .int) :: lw_g
theorem hd_GR_faultOf : y_GR_faultOf.cls = R_GR ∧ y_GR_faultOf.cls ≠ "java/lang/invoke/MethodHandle" ∧ y_GR_faultOf.cls ≠ "java/lang/invoke/VarHandle" ∧ (parseMethodDescriptor y_GR_faultOf.desc).map (fun d => d.parameters.length) = some 1 := by decide +kernel
theorem kp_GR_faultOf : Cond.selects R_GR y_GR_faultOf y_GR_faultOf ∈ lw_g := lw_gm (List.mem_append_left _ (by decide +kernel)) rfl
theorem d_GR_faultOf_0 : decode b_GR_faultOf 0 = .ok (.iload_n 1, 1) := by decide +kernel
theorem d_GR_faultOf_1 : decode b_GR_faultOf 1 = .ok (.invokestatic 76, 3) := by decide +kernel
theorem d_GR_faultOf_4 : decode b_GR_faultOf 4 = .ok (.iconst 3, 1) := by decide +kernel
theorem d_GR_faultOf_5 : decode b_GR_faultOf 5 = .ok (.if_icmp .ne 15, 3) := by decide +kernel
theorem d_GR_faultOf_8 : decode b_GR_faultOf 8 = .ok (.aload_n 0, 1) := by decide +kernel
theorem d_GR_faultOf_9 : decode b_GR_faultOf 9 = .ok (.getfield 30, 3) := by decide +kernel
theorem d_GR_faultOf_12 : decode b_GR_faultOf 12 = .ok (.iload_n 1, 1) := by decide +kernel
theorem d_GR_faultOf_13 : decode b_GR_faultOf 13 = .ok (.invokevirtual 79, 3) := by decide +kernel
theorem d_GR_faultOf_16 : decode b_GR_faultOf 16 = .ok (.iconst 1, 1) := by decide +kernel
theorem d_GR_faultOf_17 : decode b_GR_faultOf 17 = .ok (.if_icmp .ge 5, 3) := by decide +kernel
theorem d_GR_faultOf_20 : decode b_GR_faultOf 20 = .ok (.iconst 2, 1) := by decide +kernel
theorem d_GR_faultOf_21 : decode b_GR_faultOf 21 = .ok (.ireturn, 1) := by decide +kernel
theorem d_GR_faultOf_22 : decode b_GR_faultOf 22 = .ok (.aload_n 0, 1) := by decide +kernel
theorem d_GR_faultOf_23 : decode b_GR_faultOf 23 = .ok (.getfield 30, 3) := by decide +kernel
theorem d_GR_faultOf_26 : decode b_GR_faultOf 26 = .ok (.iload_n 1, 1) := by decide +kernel
theorem d_GR_faultOf_27 : decode b_GR_faultOf 27 = .ok (.invokevirtual 82, 3) := by decide +kernel
theorem d_GR_faultOf_30 : decode b_GR_faultOf 30 = .ok (.iconst 1, 1) := by decide +kernel
theorem d_GR_faultOf_31 : decode b_GR_faultOf 31 = .ok (.isub, 1) := by decide +kernel
theorem d_GR_faultOf_32 : decode b_GR_faultOf 32 = .ok (.istore_n 2, 1) := by decide +kernel
theorem d_GR_faultOf_33 : decode b_GR_faultOf 33 = .ok (.iload_n 1, 1) := by decide +kernel
theorem d_GR_faultOf_34 : decode b_GR_faultOf 34 = .ok (.invokestatic 46, 3) := by decide +kernel
theorem d_GR_faultOf_37 : decode b_GR_faultOf 37 = .ok (.iconst 4, 1) := by decide +kernel
theorem d_GR_faultOf_38 : decode b_GR_faultOf 38 = .ok (.iadd, 1) := by decide +kernel
theorem d_GR_faultOf_39 : decode b_GR_faultOf 39 = .ok (.istore_n 3, 1) := by decide +kernel
theorem d_GR_faultOf_40 : decode b_GR_faultOf 40 = .ok (.iconst 0, 1) := by decide +kernel
theorem d_GR_faultOf_41 : decode b_GR_faultOf 41 = .ok (.istore 4, 2) := by decide +kernel
theorem d_GR_faultOf_43 : decode b_GR_faultOf 43 = .ok (.iload 4, 2) := by decide +kernel
theorem d_GR_faultOf_45 : decode b_GR_faultOf 45 = .ok (.sipush 1000, 3) := by decide +kernel
theorem d_GR_faultOf_48 : decode b_GR_faultOf 48 = .ok (.if_icmp .ge 83, 3) := by decide +kernel
theorem d_GR_faultOf_51 : decode b_GR_faultOf 51 = .ok (.iload_n 3, 1) := by decide +kernel
theorem d_GR_faultOf_52 : decode b_GR_faultOf 52 = .ok (.iload_n 2, 1) := by decide +kernel
theorem d_GR_faultOf_53 : decode b_GR_faultOf 53 = .ok (.if_icmp .ge 78, 3) := by decide +kernel
theorem d_GR_faultOf_56 : decode b_GR_faultOf 56 = .ok (.aload_n 0, 1) := by decide +kernel
theorem d_GR_faultOf_57 : decode b_GR_faultOf 57 = .ok (.getfield 30, 3) := by decide +kernel
theorem d_GR_faultOf_60 : decode b_GR_faultOf 60 = .ok (.iload_n 3, 1) := by decide +kernel
theorem d_GR_faultOf_61 : decode b_GR_faultOf 61 = .ok (.invokevirtual 51, 3) := by decide +kernel
theorem d_GR_faultOf_64 : decode b_GR_faultOf 64 = .ok (.istore 5, 2) := by decide +kernel
theorem d_GR_faultOf_66 : decode b_GR_faultOf 66 = .ok (.iload 5, 2) := by decide +kernel
theorem d_GR_faultOf_68 : decode b_GR_faultOf 68 = .ok (.invokestatic 46, 3) := by decide +kernel
theorem d_GR_faultOf_71 : decode b_GR_faultOf 71 = .ok (.iconst 1, 1) := by decide +kernel
theorem d_GR_faultOf_72 : decode b_GR_faultOf 72 = .ok (.isub, 1) := by decide +kernel
theorem d_GR_faultOf_73 : decode b_GR_faultOf 73 = .ok (.istore 6, 2) := by decide +kernel
theorem d_GR_faultOf_75 : decode b_GR_faultOf 75 = .ok (.iload 4, 2) := by decide +kernel
theorem d_GR_faultOf_77 : decode b_GR_faultOf 77 = .ok (.ifCond .ne 17, 3) := by decide +kernel
theorem d_GR_faultOf_80 : decode b_GR_faultOf 80 = .ok (.aload_n 0, 1) := by decide +kernel
theorem d_GR_faultOf_81 : decode b_GR_faultOf 81 = .ok (.iload_n 3, 1) := by decide +kernel
theorem d_GR_faultOf_82 : decode b_GR_faultOf 82 = .ok (.iconst 1, 1) := by decide +kernel
theorem d_GR_faultOf_83 : decode b_GR_faultOf 83 = .ok (.iadd, 1) := by decide +kernel
theorem d_GR_faultOf_84 : decode b_GR_faultOf 84 = .ok (.iload 6, 2) := by decide +kernel
theorem d_GR_faultOf_86 : decode b_GR_faultOf 86 = .ok (.iload 5, 2) := by decide +kernel
theorem d_GR_faultOf_88 : decode b_GR_faultOf 88 = .ok (.invokevirtual 85, 3) := by decide +kernel
theorem d_GR_faultOf_91 : decode b_GR_faultOf 91 = .ok (.goto 14, 3) := by decide +kernel
theorem d_GR_faultOf_94 : decode b_GR_faultOf 94 = .ok (.aload_n 0, 1) := by decide +kernel
theorem d_GR_faultOf_95 : decode b_GR_faultOf 95 = .ok (.iload_n 3, 1) := by decide +kernel
theorem d_GR_faultOf_96 : decode b_GR_faultOf 96 = .ok (.iconst 1, 1) := by decide +kernel
theorem d_GR_faultOf_97 : decode b_GR_faultOf 97 = .ok (.iadd, 1) := by decide +kernel
theorem d_GR_faultOf_98 : decode b_GR_faultOf 98 = .ok (.iload 6, 2) := by decide +kernel
theorem d_GR_faultOf_100 : decode b_GR_faultOf 100 = .ok (.iload 5, 2) := by decide +kernel
theorem d_GR_faultOf_102 : decode b_GR_faultOf 102 = .ok (.invokevirtual 89, 3) := by decide +kernel
theorem d_GR_faultOf_105 : decode b_GR_faultOf 105 = .ok (.istore 7, 2) := by decide +kernel
theorem d_GR_faultOf_107 : decode b_GR_faultOf 107 = .ok (.iload 7, 2) := by decide +kernel
theorem d_GR_faultOf_109 : decode b_GR_faultOf 109 = .ok (.ifCond .eq 6, 3) := by decide +kernel
theorem d_GR_faultOf_112 : decode b_GR_faultOf 112 = .ok (.iload 7, 2) := by decide +kernel
theorem d_GR_faultOf_114 : decode b_GR_faultOf 114 = .ok (.ireturn, 1) := by decide +kernel
theorem d_GR_faultOf_115 : decode b_GR_faultOf 115 = .ok (.aload_n 0, 1) := by decide +kernel
theorem d_GR_faultOf_116 : decode b_GR_faultOf 116 = .ok (.getfield 30, 3) := by decide +kernel
theorem d_GR_faultOf_119 : decode b_GR_faultOf 119 = .ok (.iload 5, 2) := by decide +kernel
theorem d_GR_faultOf_121 : decode b_GR_faultOf 121 = .ok (.invokevirtual 82, 3) := by decide +kernel
theorem d_GR_faultOf_124 : decode b_GR_faultOf 124 = .ok (.istore_n 3, 1) := by decide +kernel
theorem d_GR_faultOf_125 : decode b_GR_faultOf 125 = .ok (.iinc 4 1, 3) := by decide +kernel
theorem d_GR_faultOf_128 : decode b_GR_faultOf 128 = .ok (.goto (-85), 3) := by decide +kernel
theorem d_GR_faultOf_131 : decode b_GR_faultOf 131 = .ok (.iconst 0, 1) := by decide +kernel
theorem d_GR_faultOf_132 : decode b_GR_faultOf 132 = .ok (.ireturn, 1) := by decide +kernel
/-- the start of a writing method that asks texts, too -/
abbrev mt_Ps (D : va_G) (cB cI : ClassId) (wc : va_W) (sz : Nat) (U : State) : Prop := U.heap.size = sz ∧ va_P D vwCl wc U.heap ∧ hk_ D cB cI U ∧ va_D (fun q => D.2 100 0 ≤ q) wc ∧ D.2 100 0 ≤ sz ∧ sk_ D U U.heap
section RT
variable {p : Program} {l : Launch} {e : Env} {R : Room} {s : State} {m : MethodId} {args : Array Value} {below : List Frame} {meth : Method} {c : Code} {H : Heap} {locs : List Loc} {cells slots : Nat} {Q : State → Prop}
variable {y : MethodName} {bytes cc : ByteArray} {maxL nL n index : Nat} {ret : Option FieldType} {ws : List Cond} {rm : Room} {Ts : List Cond} {own C : String} {b : Addr} {As rest st0 : List Value} {pc : Nat} {ls : Array Slot}
variable {D : va_G} {cB cI : ClassId} {wc wr wW : va_W} {A : Nat → Prop} {S : Type} {w1 : S → va_W}
theorem rd_Vs {val : Int32} (S : CallFix p m c cc nL s args Ts own) (hM : Met l y ws rm (va_Pc (.ref b :: As) (fun U => va_P D vwCl wc U.heap ∧ hk_ D cB cI U ∧ sk_ D U U.heap)) (vp_Si (fun r => r = val)) 0 0 (fun _ => False))
    (cw : CallW R s args own C index y bytes maxL ret ws rm 0 0 n) (hk : hk_ D cB cI s) (hP : va_P D vwCl wc H) (hz : sk_ D s H) {q0 ci : Nat} {fs : List Value} {q : vw_C} (he : wc[q0]? = some (b, .inr (ci, fs))) (hc : vwCl[ci]? = some q) (hC : q.1 = C)
    (hn : As.length = n) (hsz : ls.size = nL) (hst : st0 = As.reverse ++ .ref b :: rest) (hcat : (rest.map fun v => v.category).sum ≤ 8) (hdg : decode cc pc = .ok (.invokevirtual index, 3)) (hf : cells ≤ R.cells ∧ slots ≤ R.slots)
    (kk : W p l e R s m args below meth c H locs cells slots Q (F0 m (pc + 3) ls (.int val :: rest))) : W p l e R s m args below meth c H locs cells slots Q (F0 m pc ls st0) := by
  subst hC
  refine vp_callSi (va_runV S hM cw ⟨fun a U g mk q => ⟨q.1, q.2.1, q.2.2.1.calling, q.2.2.2.calling⟩, va_recv hk.1 hP hc he, fun U hU hW => ⟨rfl, by rw [hU]; exact hP, hk.warm hW, by rw [hU]; exact hz.warm hW⟩⟩ rfl hn hsz hst (lv_room hcat) hdg hf).run (fun r hr => ?_)
  subst hr
  exact kk
theorem mts_blind {av : List Value} {sz : Nat} : FrameBlind (va_Pc av (mt_Ps D cB cI wc sz)) := fun a U g mk q => ⟨q.1, q.2.1, q.2.2.1, q.2.2.2.1.calling, q.2.2.2.2.1, q.2.2.2.2.2.1, q.2.2.2.2.2.2.calling⟩
theorem mts_pre {av : List Value} (hk : hk_ D cB cI s) (hPc : va_P D vwCl wc H) (hDc : va_D A wc) (hz : sk_ D s H) (hzs : D.2 100 0 ≤ H.size) (hAz : ∀ q, A q → D.2 100 0 ≤ q) : ∀ U : State, U.heap = H → s.WarmedH U.vm → va_Pc av (mt_Ps D cB cI wc H.size) av.toArray U :=
  fun U hU hW => ⟨rfl, by rw [hU], by rw [hU]; exact hPc, hk.warm hW, hDc.weaken (fun _ _ _ h => hAz _ h), hzs, by rw [hU]; exact hz.warm hW⟩
theorem mt_Vis {post : Int32 → S → Prop} (Sx : CallFix p m c cc nL s args Ts own)
    (hM : Met l y ws rm (va_Pc (.ref b :: As) (mt_Ps D cB cI wc H.size)) (va_Qi post (mt_B D (va_A wc H.size) w1) (va_A wc H.size)) 0 0 (va_A wc H.size))
    (cw : CallW R s args own C index y bytes maxL ret ws rm 0 0 n) (hk : hk_ D cB cI s) (hP : va_P D vwCl wW H) (hD : va_D A wW) (hS : va_S A s.heap H locs) (hA : ∀ q, s.heap.size ≤ q → A q) (hz : sk_ D s s.heap) (hzs : D.2 100 0 ≤ s.heap.size) (hAz : ∀ q, A q → D.2 100 0 ≤ q)
    (isC isR : List Nat) (hC : isC.map (fun i => wW[i]?) = wc.map some) (hCf : isC.filterMap (fun i => wW[i]?) = wc) (hR : isR.map (fun i => wW[i]?) = wr.map some) (hnC : va_nd isC = true) (hnR : va_nd isR = true) (hdis : ∀ i ∈ isR, i ∉ isC)
    {q0 ci : Nat} {fs : List Value} {q : vw_C} (he : wc[q0]? = some (b, .inr (ci, fs))) (hc : vwCl[ci]? = some q) (hqC : q.1 = C)
    (hn : As.length = n) (hsz : ls.size = nL) (hst : st0 = As.reverse ++ .ref b :: rest) (hcat : (rest.map fun v => v.category).sum ≤ 8) (hdg : decode cc pc = .ok (.invokevirtual index, 3)) (hf : cells ≤ R.cells ∧ slots ≤ R.slots)
    (kk : ∀ (r : Int32) (u : S) (H1 : Heap) (locs1 : List Loc), post r u → va_P D vwCl (wr ++ w1 u) H1 → va_D A (wr ++ w1 u) → va_S A s.heap H1 locs1 → W p l e R s m args below meth c H1 locs1 cells slots Q (F0 m (pc + 3) ls (.int r :: rest))) : W p l e R s m args below meth c H locs cells slots Q (F0 m pc ls st0) := by
  subst hqC
  have hPc := hP.sub isC hCf
  have hDc := hD.sub isC hnC hC
  have hFc := va_free (wc := wc) hD hS hA isC hC
  refine va_calli (va_runV Sx hM cw ⟨mts_blind, va_recv hk.1 hPc hc he, mts_pre hk hPc hDc (hz.at hS hAz) (Nat.le_trans hzs hS.1) hAz⟩ rfl hn hsz hst (lv_room hcat) hdg hf) hS (fun q _ h => hFc q h) hFc (fun r u t H1 locs ht hvm hw hB hz1 hk1 hS => ?_)
  obtain ⟨hP1, hD1⟩ := hB
  rw [ht] at hP1
  obtain ⟨hP2, hD2⟩ := va_join hP hD isC isR hC hR hnR hdis hk1 hFc hP1 hD1
  exact kk r u H1 locs hw hP2 hD2 hS
theorem mt_Vvs {post : S → Prop} (Sx : CallFix p m c cc nL s args Ts own)
    (hM : Met l y ws rm (va_Pc (.ref b :: As) (mt_Ps D cB cI wc H.size)) (va_Qv post (mt_B D (va_A wc H.size) w1) (va_A wc H.size)) 0 0 (va_A wc H.size))
    (cw : CallW R s args own C index y bytes maxL ret ws rm 0 0 n) (hk : hk_ D cB cI s) (hP : va_P D vwCl wW H) (hD : va_D A wW) (hS : va_S A s.heap H locs) (hA : ∀ q, s.heap.size ≤ q → A q) (hz : sk_ D s s.heap) (hzs : D.2 100 0 ≤ s.heap.size) (hAz : ∀ q, A q → D.2 100 0 ≤ q)
    (isC isR : List Nat) (hC : isC.map (fun i => wW[i]?) = wc.map some) (hCf : isC.filterMap (fun i => wW[i]?) = wc) (hR : isR.map (fun i => wW[i]?) = wr.map some) (hnC : va_nd isC = true) (hnR : va_nd isR = true) (hdis : ∀ i ∈ isR, i ∉ isC)
    {q0 ci : Nat} {fs : List Value} {q : vw_C} (he : wc[q0]? = some (b, .inr (ci, fs))) (hc : vwCl[ci]? = some q) (hqC : q.1 = C)
    (hn : As.length = n) (hsz : ls.size = nL) (hst : st0 = As.reverse ++ .ref b :: rest) (hcat : (rest.map fun v => v.category).sum ≤ 8) (hdg : decode cc pc = .ok (.invokevirtual index, 3)) (hf : cells ≤ R.cells ∧ slots ≤ R.slots)
    (kk : ∀ (u : S) (H1 : Heap) (locs1 : List Loc), post u → va_P D vwCl (wr ++ w1 u) H1 → va_D A (wr ++ w1 u) → va_S A s.heap H1 locs1 → W p l e R s m args below meth c H1 locs1 cells slots Q (F0 m (pc + 3) ls rest)) : W p l e R s m args below meth c H locs cells slots Q (F0 m pc ls st0) := by
  subst hqC
  have hPc := hP.sub isC hCf
  have hDc := hD.sub isC hnC hC
  have hFc := va_free (wc := wc) hD hS hA isC hC
  refine va_callv (va_runV Sx hM cw ⟨mts_blind, va_recv hk.1 hPc hc he, mts_pre hk hPc hDc (hz.at hS hAz) (Nat.le_trans hzs hS.1) hAz⟩ rfl hn hsz hst (lv_room hcat) hdg hf) hS (fun q _ h => hFc q h) hFc (fun u t H1 locs ht hvm hw hB hz1 hk1 hS => ?_)
  obtain ⟨hP1, hD1⟩ := hB
  rw [ht] at hP1
  obtain ⟨hP2, hD2⟩ := va_join hP hD isC isR hC hR hnR hdis hk1 hFc hP1 hD1
  exact kk u H1 locs hw hP2 hD2 hS
end RT
theorem vp_of {x : Int32} {i : Nat} (h0 : ¬ x < 0) (c : ¬ nI (sLen.getD i 0) ≤ x) (hi : i < 19) : vp_in x (sLen.getD i 0) := by
  have a := i_nn h0
  have b := i_nle c
  have := sLen_lt i hi
  rw [nI_toInt (by omega)] at b
  rw [vp_in_iff]
  omega

set_option maxHeartbeats 4000000 in
set_option maxRecDepth 100000 in
theorem l_ST_named_h15 {p : Program} {e : Env} {s : State} {m : MethodId} {args : Array Value} {below : List Frame} {meth : Method} {c : Code} {V : Bool} (C0 : lc_C p s m meth c args b_ST_named 5 (some .boolean) R_ST lw_g) (l : Launch) (D : va_G) (cB cI : ClassId) (aS aB : Nat) (i9 : Nat) (b : Nat → UInt8) (hP : va_P D vwCl [(aS, .inr (0, [.ref aB])), (aB, .inl (cB, 202000, .inl (by_ b)))] s.heap) (hk : hk_ D cB cI s) (hz : sk_ D s s.heap) (p0 : Int32) (hi9 : i9 < 19) : ∀ (n : Nat) (x4 : Int32), ((nI (sLen.getD i9 0)).toInt - x4.toInt).toNat < n → ¬ x4 < 0 → V = tw_ST_named_h15 i9 b p0 n x4 → ∀ ls : Array Slot, lv_has ls 5 [(0, .ref aS), (1, .int p0), (3, .ref (D.2 101 i9)), (4, .int x4)] → W p l e ({ frames := 4, cells := 0, slots := 0, locals := 87 }) s m args below meth c s.heap [] 0 0 (MQ below (vp_Si (fun r => r = b2i V)) args s 0 0 (fun _ => False)) (F0 m 15 ls []) := by
  obtain ⟨hx, hb, hml, hr, hown, hlocks, hT⟩ := id C0
  have hK := hk.1
  have hN := hk.2.1
  intro n
  induction n with
  | zero =>
    intro x4 hm
    exact absurd hm (Nat.not_lt_zero _)
  | succ n ih =>
    intro x4 hm hv1 hV ls hl
    refine lv_iload hx hb d_ST_named_15 (lv_at hl 3 rfl) ?_
    refine lv_aload_n hx hb d_ST_named_17 rfl (lv_at hl 2 rfl) ?_
    refine rs_V (val := nI (sLen.getD i9 0)) (As := []) (rest := [.int x4]) ⟨hx, hb, hml, hown, hT⟩ (c_JS_length l D i9 hi9) (cwV 0 hT (gV_of k_492 k_493 k_494 k_16 kc_JS_length) rfl rfl rfl hd_JS_length ⟨Nat.le_of_ble_eq_true rfl, Nat.le_of_ble_eq_true rfl⟩) hz (vk_recv hz.1 hi9 va_S.rf) rfl hl.1 rfl (Nat.le_of_ble_eq_true rfl) d_ST_named_18 ⟨Nat.zero_le _, Nat.zero_le _⟩ ?_
    refine lv_icmp_ge (tgt := 49) hx hb d_ST_named_21 (by decide) (fun c_2 => ?_) (fun c_2 => ?_)
    · refine lv_iconst (v := 1) hx hb d_ST_named_49 (by decide) ?_
      exact W.zret (v := 1) (ty := .boolean) hx hb hr (rfl) (fun t ht hW => ⟨1, rfl, (by rw [hV, tw_ST_named_h15, if_pos c_2]; first | done | rfl), ht⟩) (fun _ h => by cases h) d_ST_named_50
    · refine lv_aload_n hx hb d_ST_named_24 rfl (lv_at hl 0 rfl) ?_
      refine lv_iload_n hx hb d_ST_named_25 rfl (lv_at hl 1 rfl) ?_
      refine lv_iload hx hb d_ST_named_26 (lv_at hl 3 rfl) ?_
      refine lv_iadd hx hb d_ST_named_28 ?_
      refine rd_V (val := tw_ST_at b (p0 + x4)) (As := [.int (p0 + x4)]) (rest := []) ⟨hx, hb, hml, hown, hT⟩ (c_ST_at l D cB cI aS aB b (p0 + x4)) (cwV 1 hT (gV_of k_385 k_378 k_379 k_2 kc_ST_at) rfl rfl rfl hd_ST_at ⟨Nat.le_of_ble_eq_true rfl, Nat.le_of_ble_eq_true rfl⟩) hk hP (q0 := 0) rfl rfl rfl rfl hl.1 rfl (Nat.le_of_ble_eq_true rfl) d_ST_named_29 ⟨Nat.zero_le _, Nat.zero_le _⟩ ?_
      refine lv_aload_n hx hb d_ST_named_32 rfl (lv_at hl 2 rfl) ?_
      refine lv_iload hx hb d_ST_named_33 (lv_at hl 3 rfl) ?_
      refine rs_V (val := sch i9 x4) (As := [.int x4]) (rest := [.int (tw_ST_at b (p0 + x4))]) ⟨hx, hb, hml, hown, hT⟩ (c_JS_charAt l D i9 hi9 x4 (vp_of hv1 c_2 hi9)) (cwV 1 hT (gV_of k_502 k_503 k_504 k_16 kc_JS_charAt) rfl rfl rfl hd_JS_charAt ⟨Nat.le_of_ble_eq_true rfl, Nat.le_of_ble_eq_true rfl⟩) hz (vk_recv hz.1 hi9 va_S.rf) rfl hl.1 rfl (Nat.le_of_ble_eq_true rfl) d_ST_named_35 ⟨Nat.zero_le _, Nat.zero_le _⟩ ?_
      refine lv_icmp_eq (tgt := 43) hx hb d_ST_named_38 (by decide) (fun c_3 => ?_) (fun c_3 => ?_)
      · refine lv_iinc (v := x4 + 1) (lv' := [(4, .int (x4 + 1)), (0, .ref aS), (1, .int p0), (3, .ref (D.2 101 i9))]) hx hb d_ST_named_43 hl (k := 3) rfl rfl (by decide) rfl (fun ls hl => ?_)
        refine lv_goto (tgt := 15) hx hb d_ST_named_46 (by decide) ?_
        exact ih (x4 + 1) (lp_up hm c_2) (i_upn hv1 c_2) (by rw [hV, tw_ST_named_h15, if_neg c_2, if_pos c_3]) ls (lv_sub hl [1, 2, 3, 0] rfl)
      · refine lv_iconst (v := 0) hx hb d_ST_named_41 (by decide) ?_
        exact W.zret (v := 0) (ty := .boolean) hx hb hr (rfl) (fun t ht hW => ⟨0, rfl, (by rw [hV, tw_ST_named_h15, if_neg c_2, if_neg c_3]; first | done | rfl), ht⟩) (fun _ h => by cases h) d_ST_named_42
set_option maxHeartbeats 4000000 in
set_option maxRecDepth 100000 in
theorem c_ST_named (l : Launch) (D : va_G) (cB cI : ClassId) (aS aB : Nat) (i9 : Nat) (b : Nat → UInt8) (p0 : Int32) (p1 : Int32) (hi9 : i9 < 19) : Met l y_ST_named mw_ST_named { frames := 4, cells := 0, slots := 0, locals := 87 } (va_Pc [.ref aS, .int p0, .int p1, .ref (D.2 101 i9)] (fun U => va_P D vwCl [(aS, .inr (0, [.ref aB])), (aB, .inl (cB, 202000, .inl (by_ b)))] U.heap ∧ hk_ D cB cI U ∧ sk_ D U U.heap)) (vp_Si (fun r => r = b2i (tw_ST_named i9 b p0 p1))) 0 0 (fun _ => False) := by
  refine Met.ofW (cc := b_ST_named) (maxL := 5) (ret := (some .boolean)) (by decide) rfl ?_
  intro p e s m args below meth c s₁ B0 hml hv
  obtain ⟨rfl, hP, hk, hz⟩ := hv
  have hK := hk.1
  have hN := hk.2.1
  have hx := B0.exec
  have hb := B0.bytes
  have hr := B0.returns
  have hT : ∀ w ∈ lw_g, w.before _ s = true := fun w h => atoms_spec (ws := mw_ST_named) B0.pre w (List.mem_cons_of_mem _ h)
  have hown : s.vm.findClass R_ST = some m.cls := findClass_of_methodNamed B0.named
  have hlocks := B0.notSynchronized
  have hl := lv_entry ([.ref aS, .int p0, .int p1, .ref (D.2 101 i9)]) (n := 5) (Nat.le_of_ble_eq_true rfl)
  rw [lg_entry_eq]
  generalize (lg_sl ([.ref aS, .int p0, .int p1, .ref (D.2 101 i9)]) ++ List.replicate (5 - (lg_sl ([.ref aS, .int p0, .int p1, .ref (D.2 101 i9)])).length) Slot.unset).toArray = ls at hl ⊢
  have hl : lv_has ls 5 [(0, .ref aS), (1, .int p0), (2, .int p1), (3, .ref (D.2 101 i9))] := hl
  have C0 : lc_C p s m meth c _ b_ST_named 5 (some .boolean) R_ST lw_g := ⟨hx, hb, hml, hr, hown, hlocks, hT⟩
  refine lv_iload_n hx hb d_ST_named_0 rfl (lv_at hl 2 rfl) ?_
  refine lv_iload_n hx hb d_ST_named_1 rfl (lv_at hl 1 rfl) ?_
  refine lv_isub hx hb d_ST_named_2 ?_
  refine lv_aload_n hx hb d_ST_named_3 rfl (lv_at hl 3 rfl) ?_
  refine rs_V (val := nI (sLen.getD i9 0)) (As := []) (rest := [.int (p1 - p0)]) ⟨hx, hb, hml, hown, hT⟩ (c_JS_length l D i9 hi9) (cwV 0 hT (gV_of k_492 k_493 k_494 k_16 kc_JS_length) rfl rfl rfl hd_JS_length ⟨Nat.le_of_ble_eq_true rfl, Nat.le_of_ble_eq_true rfl⟩) hz (vk_recv hz.1 hi9 va_S.rf) rfl hl.1 rfl (Nat.le_of_ble_eq_true rfl) d_ST_named_4 ⟨Nat.zero_le _, Nat.zero_le _⟩ ?_
  refine lv_icmp_eq (tgt := 12) hx hb d_ST_named_7 (by decide) (fun c_1 => ?_) (fun c_1 => ?_)
  · refine lv_iconst (v := 0) hx hb d_ST_named_12 (by decide) ?_
    refine lv_istore (lv' := [(4, .int 0), (0, .ref aS), (1, .int p0), (2, .int p1), (3, .ref (D.2 101 i9))]) hx hb d_ST_named_13 hl (by decide) rfl (fun ls hl => ?_)
    exact l_ST_named_h15 C0 l D cB cI aS aB i9 b hP hk hz p0 (hi9) ((((nI (sLen.getD i9 0)).toInt - (0 : Int32).toInt).toNat) + 1) 0 (Nat.lt_succ_self _) (by decide) (by rw [tw_ST_named, if_pos c_1]) ls (lv_sub hl [1, 2, 4, 0] rfl)
  · refine lv_iconst (v := 0) hx hb d_ST_named_10 (by decide) ?_
    exact W.zret (v := 0) (ty := .boolean) hx hb hr (rfl) (fun t ht hW => ⟨0, rfl, (by rw [tw_ST_named, if_neg c_1]; first | done | rfl), ht⟩) (fun _ h => by cases h) d_ST_named_11
set_option maxHeartbeats 4000000 in
set_option maxRecDepth 100000 in
theorem c_GR_workOf (l : Launch) (D : va_G) (cB cI : ClassId) (aU aS aY aP aGk aGh aGf aGl aGn aGv aB : Nat) (ngr : Int32) (held : Int32) (gsum : Int64) (b : Nat → UInt8) (p0 : Int32) : Met l y_GR_workOf mw_GR_workOf { frames := 5, cells := 0, slots := 0, locals := 111 } (va_Pc [.ref aU, .int p0] (fun U => va_P D vwCl [(aU, .inr (7, [.ref aS, .ref aY, .ref aP, .ref aGk, .ref aGh, .ref aGf, .ref aGl, .ref aGn, .int ngr, .ref aGv, .int held, .long gsum])), (aS, .inr (0, [.ref aB])), (aB, .inl (cB, 202000, .inl (by_ b)))] U.heap ∧ hk_ D cB cI U ∧ sk_ D U U.heap)) (vp_Si (fun r => r = tw_GR_workOf b p0)) 0 0 (fun _ => False) := by
  refine Met.ofW (cc := b_GR_workOf) (maxL := 4) (ret := (some .int)) (by decide) rfl ?_
  intro p e s m args below meth c s₁ B0 hml hv
  obtain ⟨rfl, hP, hk, hz⟩ := hv
  have hK := hk.1
  have hN := hk.2.1
  have hx := B0.exec
  have hb := B0.bytes
  have hr := B0.returns
  have hT : ∀ w ∈ lw_g, w.before _ s = true := fun w h => atoms_spec (ws := mw_GR_workOf) B0.pre w (List.mem_cons_of_mem _ h)
  have hown : s.vm.findClass R_GR = some m.cls := findClass_of_methodNamed B0.named
  have hlocks := B0.notSynchronized
  have hl := lv_entry ([.ref aU, .int p0]) (n := 4) (Nat.le_of_ble_eq_true rfl)
  rw [lg_entry_eq]
  generalize (lg_sl ([.ref aU, .int p0]) ++ List.replicate (4 - (lg_sl ([.ref aU, .int p0])).length) Slot.unset).toArray = ls at hl ⊢
  have hl : lv_has ls 4 [(0, .ref aU), (1, .int p0)] := hl
  refine lv_iload_n hx hb d_GR_workOf_0 rfl (lv_at hl 1 rfl) ?_
  refine rd_S (val := tw_ST_placeOf p0) (As := [.int p0]) (rest := []) ⟨hx, hb, hml, hown, hT⟩ (c_ST_placeOf l D cB cI p0) (va_cwS 1 hT (gS_of k_714 k_403 k_2 kc_ST_placeOf) rfl rfl rfl hd_ST_placeOf ⟨Nat.le_of_ble_eq_true rfl, Nat.le_of_ble_eq_true rfl⟩) hk (va_P_nil) rfl hl.1 rfl (Nat.le_of_ble_eq_true rfl) d_GR_workOf_1 ⟨Nat.zero_le _, Nat.zero_le _⟩ ?_
  refine lv_iconst (v := 5) hx hb d_GR_workOf_4 (by decide) ?_
  refine lv_iadd hx hb d_GR_workOf_5 ?_
  refine lv_istore_n (lv' := [(2, .int ((tw_ST_placeOf p0) + 5)), (0, .ref aU), (1, .int p0)]) hx hb d_GR_workOf_6 rfl hl (by decide) rfl (fun ls hl => ?_)
  refine lv_aload_n hx hb d_GR_workOf_7 rfl (lv_at hl 1 rfl) ?_
  refine va_get (D := D) (ci := 7) (v := .ref aS) (C := R_GR) (T := T_GR) (N := 12) hx hb hT u_GR hown hK hP 0 rfl rfl 0 (by decide) (hT _ k_212) (fun _ h9 => h9) rfl d_GR_workOf_8 ?_
  refine lv_iload_n hx hb d_GR_workOf_11 rfl (lv_at hl 0 rfl) ?_
  refine lv_iconst (v := 1) hx hb d_GR_workOf_12 (by decide) ?_
  refine lv_isub hx hb d_GR_workOf_13 ?_
  refine rd_V (val := tw_ST_valueOf b (((tw_ST_placeOf p0) + 5) - 1)) (As := [.int (((tw_ST_placeOf p0) + 5) - 1)]) (rest := []) ⟨hx, hb, hml, hown, hT⟩ (c_ST_valueOf l D cB cI aS aB b (((tw_ST_placeOf p0) + 5) - 1)) (cwV 1 hT (gV_of k_715 k_399 k_400 k_2 kc_ST_valueOf) rfl rfl rfl hd_ST_valueOf ⟨Nat.le_of_ble_eq_true rfl, Nat.le_of_ble_eq_true rfl⟩) hk (hP.sub (ws' := [(aS, .inr (0, [.ref aB])), (aB, .inl (cB, 202000, .inl (by_ b)))]) [1, 2] rfl) (q0 := 0) rfl rfl rfl rfl hl.1 rfl (Nat.le_of_ble_eq_true rfl) d_GR_workOf_14 ⟨Nat.zero_le _, Nat.zero_le _⟩ ?_
  refine rd_S (val := tw_ST_placeOf (tw_ST_valueOf b (((tw_ST_placeOf p0) + 5) - 1))) (As := [.int (tw_ST_valueOf b (((tw_ST_placeOf p0) + 5) - 1))]) (rest := []) ⟨hx, hb, hml, hown, hT⟩ (c_ST_placeOf l D cB cI (tw_ST_valueOf b (((tw_ST_placeOf p0) + 5) - 1))) (va_cwS 1 hT (gS_of k_714 k_403 k_2 kc_ST_placeOf) rfl rfl rfl hd_ST_placeOf ⟨Nat.le_of_ble_eq_true rfl, Nat.le_of_ble_eq_true rfl⟩) hk (va_P_nil) rfl hl.1 rfl (Nat.le_of_ble_eq_true rfl) d_GR_workOf_17 ⟨Nat.zero_le _, Nat.zero_le _⟩ ?_
  refine lv_iconst (v := 1) hx hb d_GR_workOf_20 (by decide) ?_
  refine lv_isub hx hb d_GR_workOf_21 ?_
  refine lv_istore_n (lv' := [(3, .int ((tw_ST_placeOf (tw_ST_valueOf b (((tw_ST_placeOf p0) + 5) - 1))) - 1)), (2, .int ((tw_ST_placeOf p0) + 5)), (0, .ref aU), (1, .int p0)]) hx hb d_GR_workOf_22 rfl hl (by decide) rfl (fun ls hl => ?_)
  refine lv_aload_n hx hb d_GR_workOf_23 rfl (lv_at hl 2 rfl) ?_
  refine va_get (D := D) (ci := 7) (v := .ref aS) (C := R_GR) (T := T_GR) (N := 12) hx hb hT u_GR hown hK hP 0 rfl rfl 0 (by decide) (hT _ k_212) (fun _ h9 => h9) rfl d_GR_workOf_24 ?_
  refine lv_iload_n hx hb d_GR_workOf_27 rfl (lv_at hl 1 rfl) ?_
  refine lv_iload_n hx hb d_GR_workOf_28 rfl (lv_at hl 0 rfl) ?_
  refine va_ldcS hx hb hown (hz.2.1 8 ("PipelineBelt$Grouper", 113, "$count") rfl) d_GR_workOf_29 ?_
  refine rd_Vs (val := b2i (tw_ST_named 8 b ((tw_ST_placeOf p0) + 5) ((tw_ST_placeOf (tw_ST_valueOf b (((tw_ST_placeOf p0) + 5) - 1))) - 1))) (As := [.int ((tw_ST_placeOf p0) + 5), .int ((tw_ST_placeOf (tw_ST_valueOf b (((tw_ST_placeOf p0) + 5) - 1))) - 1), .ref (D.2 101 8)]) (rest := []) ⟨hx, hb, hml, hown, hT⟩ (c_ST_named l D cB cI aS aB 8 b ((tw_ST_placeOf p0) + 5) ((tw_ST_placeOf (tw_ST_valueOf b (((tw_ST_placeOf p0) + 5) - 1))) - 1) (by decide)) (cwV 3 hT (gV_of k_721 k_489 k_490 k_2 kc_ST_named) rfl rfl rfl hd_ST_named ⟨Nat.le_of_ble_eq_true rfl, Nat.le_of_ble_eq_true rfl⟩) hk (hP.sub (ws' := [(aS, .inr (0, [.ref aB])), (aB, .inl (cB, 202000, .inl (by_ b)))]) [1, 2] rfl) hz (q0 := 0) rfl rfl rfl rfl hl.1 rfl (Nat.le_of_ble_eq_true rfl) d_GR_workOf_31 ⟨Nat.zero_le _, Nat.zero_le _⟩ ?_
  refine lv_if_eq (tgt := 39) hx hb d_GR_workOf_34 (by decide) (fun c_1 => ?_) (fun c_1 => ?_)
  · refine lv_aload_n hx hb d_GR_workOf_39 rfl (lv_at hl 2 rfl) ?_
    refine va_get (D := D) (ci := 7) (v := .ref aS) (C := R_GR) (T := T_GR) (N := 12) hx hb hT u_GR hown hK hP 0 rfl rfl 0 (by decide) (hT _ k_212) (fun _ h9 => h9) rfl d_GR_workOf_40 ?_
    refine lv_iload_n hx hb d_GR_workOf_43 rfl (lv_at hl 1 rfl) ?_
    refine lv_iload_n hx hb d_GR_workOf_44 rfl (lv_at hl 0 rfl) ?_
    refine va_ldcS hx hb hown (hz.2.1 9 ("PipelineBelt$Grouper", 115, "$sum") rfl) d_GR_workOf_45 ?_
    refine rd_Vs (val := b2i (tw_ST_named 9 b ((tw_ST_placeOf p0) + 5) ((tw_ST_placeOf (tw_ST_valueOf b (((tw_ST_placeOf p0) + 5) - 1))) - 1))) (As := [.int ((tw_ST_placeOf p0) + 5), .int ((tw_ST_placeOf (tw_ST_valueOf b (((tw_ST_placeOf p0) + 5) - 1))) - 1), .ref (D.2 101 9)]) (rest := []) ⟨hx, hb, hml, hown, hT⟩ (c_ST_named l D cB cI aS aB 9 b ((tw_ST_placeOf p0) + 5) ((tw_ST_placeOf (tw_ST_valueOf b (((tw_ST_placeOf p0) + 5) - 1))) - 1) (by decide)) (cwV 3 hT (gV_of k_721 k_489 k_490 k_2 kc_ST_named) rfl rfl rfl hd_ST_named ⟨Nat.le_of_ble_eq_true rfl, Nat.le_of_ble_eq_true rfl⟩) hk (hP.sub (ws' := [(aS, .inr (0, [.ref aB])), (aB, .inl (cB, 202000, .inl (by_ b)))]) [1, 2] rfl) hz (q0 := 0) rfl rfl rfl rfl hl.1 rfl (Nat.le_of_ble_eq_true rfl) d_GR_workOf_47 ⟨Nat.zero_le _, Nat.zero_le _⟩ ?_
    refine lv_if_eq (tgt := 55) hx hb d_GR_workOf_50 (by decide) (fun c_2 => ?_) (fun c_2 => ?_)
    · refine lv_aload_n hx hb d_GR_workOf_55 rfl (lv_at hl 2 rfl) ?_
      refine va_get (D := D) (ci := 7) (v := .ref aS) (C := R_GR) (T := T_GR) (N := 12) hx hb hT u_GR hown hK hP 0 rfl rfl 0 (by decide) (hT _ k_212) (fun _ h9 => h9) rfl d_GR_workOf_56 ?_
      refine lv_iload_n hx hb d_GR_workOf_59 rfl (lv_at hl 1 rfl) ?_
      refine lv_iload_n hx hb d_GR_workOf_60 rfl (lv_at hl 0 rfl) ?_
      refine va_ldcS hx hb hown (hz.2.1 10 ("PipelineBelt$Grouper", 117, "$min") rfl) d_GR_workOf_61 ?_
      refine rd_Vs (val := b2i (tw_ST_named 10 b ((tw_ST_placeOf p0) + 5) ((tw_ST_placeOf (tw_ST_valueOf b (((tw_ST_placeOf p0) + 5) - 1))) - 1))) (As := [.int ((tw_ST_placeOf p0) + 5), .int ((tw_ST_placeOf (tw_ST_valueOf b (((tw_ST_placeOf p0) + 5) - 1))) - 1), .ref (D.2 101 10)]) (rest := []) ⟨hx, hb, hml, hown, hT⟩ (c_ST_named l D cB cI aS aB 10 b ((tw_ST_placeOf p0) + 5) ((tw_ST_placeOf (tw_ST_valueOf b (((tw_ST_placeOf p0) + 5) - 1))) - 1) (by decide)) (cwV 3 hT (gV_of k_721 k_489 k_490 k_2 kc_ST_named) rfl rfl rfl hd_ST_named ⟨Nat.le_of_ble_eq_true rfl, Nat.le_of_ble_eq_true rfl⟩) hk (hP.sub (ws' := [(aS, .inr (0, [.ref aB])), (aB, .inl (cB, 202000, .inl (by_ b)))]) [1, 2] rfl) hz (q0 := 0) rfl rfl rfl rfl hl.1 rfl (Nat.le_of_ble_eq_true rfl) d_GR_workOf_63 ⟨Nat.zero_le _, Nat.zero_le _⟩ ?_
      refine lv_if_eq (tgt := 71) hx hb d_GR_workOf_66 (by decide) (fun c_3 => ?_) (fun c_3 => ?_)
      · refine lv_aload_n hx hb d_GR_workOf_71 rfl (lv_at hl 2 rfl) ?_
        refine va_get (D := D) (ci := 7) (v := .ref aS) (C := R_GR) (T := T_GR) (N := 12) hx hb hT u_GR hown hK hP 0 rfl rfl 0 (by decide) (hT _ k_212) (fun _ h9 => h9) rfl d_GR_workOf_72 ?_
        refine lv_iload_n hx hb d_GR_workOf_75 rfl (lv_at hl 1 rfl) ?_
        refine lv_iload_n hx hb d_GR_workOf_76 rfl (lv_at hl 0 rfl) ?_
        refine va_ldcS hx hb hown (hz.2.1 11 ("PipelineBelt$Grouper", 119, "$max") rfl) d_GR_workOf_77 ?_
        refine rd_Vs (val := b2i (tw_ST_named 11 b ((tw_ST_placeOf p0) + 5) ((tw_ST_placeOf (tw_ST_valueOf b (((tw_ST_placeOf p0) + 5) - 1))) - 1))) (As := [.int ((tw_ST_placeOf p0) + 5), .int ((tw_ST_placeOf (tw_ST_valueOf b (((tw_ST_placeOf p0) + 5) - 1))) - 1), .ref (D.2 101 11)]) (rest := []) ⟨hx, hb, hml, hown, hT⟩ (c_ST_named l D cB cI aS aB 11 b ((tw_ST_placeOf p0) + 5) ((tw_ST_placeOf (tw_ST_valueOf b (((tw_ST_placeOf p0) + 5) - 1))) - 1) (by decide)) (cwV 3 hT (gV_of k_721 k_489 k_490 k_2 kc_ST_named) rfl rfl rfl hd_ST_named ⟨Nat.le_of_ble_eq_true rfl, Nat.le_of_ble_eq_true rfl⟩) hk (hP.sub (ws' := [(aS, .inr (0, [.ref aB])), (aB, .inl (cB, 202000, .inl (by_ b)))]) [1, 2] rfl) hz (q0 := 0) rfl rfl rfl rfl hl.1 rfl (Nat.le_of_ble_eq_true rfl) d_GR_workOf_79 ⟨Nat.zero_le _, Nat.zero_le _⟩ ?_
        refine lv_if_eq (tgt := 87) hx hb d_GR_workOf_82 (by decide) (fun c_4 => ?_) (fun c_4 => ?_)
        · refine lv_aload_n hx hb d_GR_workOf_87 rfl (lv_at hl 2 rfl) ?_
          refine va_get (D := D) (ci := 7) (v := .ref aS) (C := R_GR) (T := T_GR) (N := 12) hx hb hT u_GR hown hK hP 0 rfl rfl 0 (by decide) (hT _ k_212) (fun _ h9 => h9) rfl d_GR_workOf_88 ?_
          refine lv_iload_n hx hb d_GR_workOf_91 rfl (lv_at hl 1 rfl) ?_
          refine lv_iload_n hx hb d_GR_workOf_92 rfl (lv_at hl 0 rfl) ?_
          refine va_ldcS hx hb hown (hz.2.1 12 ("PipelineBelt$Grouper", 121, "$first") rfl) d_GR_workOf_93 ?_
          refine rd_Vs (val := b2i (tw_ST_named 12 b ((tw_ST_placeOf p0) + 5) ((tw_ST_placeOf (tw_ST_valueOf b (((tw_ST_placeOf p0) + 5) - 1))) - 1))) (As := [.int ((tw_ST_placeOf p0) + 5), .int ((tw_ST_placeOf (tw_ST_valueOf b (((tw_ST_placeOf p0) + 5) - 1))) - 1), .ref (D.2 101 12)]) (rest := []) ⟨hx, hb, hml, hown, hT⟩ (c_ST_named l D cB cI aS aB 12 b ((tw_ST_placeOf p0) + 5) ((tw_ST_placeOf (tw_ST_valueOf b (((tw_ST_placeOf p0) + 5) - 1))) - 1) (by decide)) (cwV 3 hT (gV_of k_721 k_489 k_490 k_2 kc_ST_named) rfl rfl rfl hd_ST_named ⟨Nat.le_of_ble_eq_true rfl, Nat.le_of_ble_eq_true rfl⟩) hk (hP.sub (ws' := [(aS, .inr (0, [.ref aB])), (aB, .inl (cB, 202000, .inl (by_ b)))]) [1, 2] rfl) hz (q0 := 0) rfl rfl rfl rfl hl.1 rfl (Nat.le_of_ble_eq_true rfl) d_GR_workOf_95 ⟨Nat.zero_le _, Nat.zero_le _⟩ ?_
          refine lv_if_eq (tgt := 103) hx hb d_GR_workOf_98 (by decide) (fun c_5 => ?_) (fun c_5 => ?_)
          · refine lv_aload_n hx hb d_GR_workOf_103 rfl (lv_at hl 2 rfl) ?_
            refine va_get (D := D) (ci := 7) (v := .ref aS) (C := R_GR) (T := T_GR) (N := 12) hx hb hT u_GR hown hK hP 0 rfl rfl 0 (by decide) (hT _ k_212) (fun _ h9 => h9) rfl d_GR_workOf_104 ?_
            refine lv_iload_n hx hb d_GR_workOf_107 rfl (lv_at hl 1 rfl) ?_
            refine lv_iload_n hx hb d_GR_workOf_108 rfl (lv_at hl 0 rfl) ?_
            refine va_ldcS hx hb hown (hz.2.1 13 ("PipelineBelt$Grouper", 123, "$last") rfl) d_GR_workOf_109 ?_
            refine rd_Vs (val := b2i (tw_ST_named 13 b ((tw_ST_placeOf p0) + 5) ((tw_ST_placeOf (tw_ST_valueOf b (((tw_ST_placeOf p0) + 5) - 1))) - 1))) (As := [.int ((tw_ST_placeOf p0) + 5), .int ((tw_ST_placeOf (tw_ST_valueOf b (((tw_ST_placeOf p0) + 5) - 1))) - 1), .ref (D.2 101 13)]) (rest := []) ⟨hx, hb, hml, hown, hT⟩ (c_ST_named l D cB cI aS aB 13 b ((tw_ST_placeOf p0) + 5) ((tw_ST_placeOf (tw_ST_valueOf b (((tw_ST_placeOf p0) + 5) - 1))) - 1) (by decide)) (cwV 3 hT (gV_of k_721 k_489 k_490 k_2 kc_ST_named) rfl rfl rfl hd_ST_named ⟨Nat.le_of_ble_eq_true rfl, Nat.le_of_ble_eq_true rfl⟩) hk (hP.sub (ws' := [(aS, .inr (0, [.ref aB])), (aB, .inl (cB, 202000, .inl (by_ b)))]) [1, 2] rfl) hz (q0 := 0) rfl rfl rfl rfl hl.1 rfl (Nat.le_of_ble_eq_true rfl) d_GR_workOf_111 ⟨Nat.zero_le _, Nat.zero_le _⟩ ?_
            refine lv_if_eq (tgt := 120) hx hb d_GR_workOf_114 (by decide) (fun c_6 => ?_) (fun c_6 => ?_)
            · refine lv_aload_n hx hb d_GR_workOf_120 rfl (lv_at hl 2 rfl) ?_
              refine va_get (D := D) (ci := 7) (v := .ref aS) (C := R_GR) (T := T_GR) (N := 12) hx hb hT u_GR hown hK hP 0 rfl rfl 0 (by decide) (hT _ k_212) (fun _ h9 => h9) rfl d_GR_workOf_121 ?_
              refine lv_iload_n hx hb d_GR_workOf_124 rfl (lv_at hl 1 rfl) ?_
              refine lv_iload_n hx hb d_GR_workOf_125 rfl (lv_at hl 0 rfl) ?_
              refine va_ldcS hx hb hown (hz.2.1 14 ("PipelineBelt$Grouper", 125, "$push") rfl) d_GR_workOf_126 ?_
              refine rd_Vs (val := b2i (tw_ST_named 14 b ((tw_ST_placeOf p0) + 5) ((tw_ST_placeOf (tw_ST_valueOf b (((tw_ST_placeOf p0) + 5) - 1))) - 1))) (As := [.int ((tw_ST_placeOf p0) + 5), .int ((tw_ST_placeOf (tw_ST_valueOf b (((tw_ST_placeOf p0) + 5) - 1))) - 1), .ref (D.2 101 14)]) (rest := []) ⟨hx, hb, hml, hown, hT⟩ (c_ST_named l D cB cI aS aB 14 b ((tw_ST_placeOf p0) + 5) ((tw_ST_placeOf (tw_ST_valueOf b (((tw_ST_placeOf p0) + 5) - 1))) - 1) (by decide)) (cwV 3 hT (gV_of k_721 k_489 k_490 k_2 kc_ST_named) rfl rfl rfl hd_ST_named ⟨Nat.le_of_ble_eq_true rfl, Nat.le_of_ble_eq_true rfl⟩) hk (hP.sub (ws' := [(aS, .inr (0, [.ref aB])), (aB, .inl (cB, 202000, .inl (by_ b)))]) [1, 2] rfl) hz (q0 := 0) rfl rfl rfl rfl hl.1 rfl (Nat.le_of_ble_eq_true rfl) d_GR_workOf_128 ⟨Nat.zero_le _, Nat.zero_le _⟩ ?_
              refine lv_if_eq (tgt := 137) hx hb d_GR_workOf_131 (by decide) (fun c_7 => ?_) (fun c_7 => ?_)
              · refine lv_aload_n hx hb d_GR_workOf_137 rfl (lv_at hl 2 rfl) ?_
                refine va_get (D := D) (ci := 7) (v := .ref aS) (C := R_GR) (T := T_GR) (N := 12) hx hb hT u_GR hown hK hP 0 rfl rfl 0 (by decide) (hT _ k_212) (fun _ h9 => h9) rfl d_GR_workOf_138 ?_
                refine lv_iload_n hx hb d_GR_workOf_141 rfl (lv_at hl 1 rfl) ?_
                refine lv_iload_n hx hb d_GR_workOf_142 rfl (lv_at hl 0 rfl) ?_
                refine va_ldcS hx hb hown (hz.2.1 15 ("PipelineBelt$Grouper", 127, "$addToSet") rfl) d_GR_workOf_143 ?_
                refine rd_Vs (val := b2i (tw_ST_named 15 b ((tw_ST_placeOf p0) + 5) ((tw_ST_placeOf (tw_ST_valueOf b (((tw_ST_placeOf p0) + 5) - 1))) - 1))) (As := [.int ((tw_ST_placeOf p0) + 5), .int ((tw_ST_placeOf (tw_ST_valueOf b (((tw_ST_placeOf p0) + 5) - 1))) - 1), .ref (D.2 101 15)]) (rest := []) ⟨hx, hb, hml, hown, hT⟩ (c_ST_named l D cB cI aS aB 15 b ((tw_ST_placeOf p0) + 5) ((tw_ST_placeOf (tw_ST_valueOf b (((tw_ST_placeOf p0) + 5) - 1))) - 1) (by decide)) (cwV 3 hT (gV_of k_721 k_489 k_490 k_2 kc_ST_named) rfl rfl rfl hd_ST_named ⟨Nat.le_of_ble_eq_true rfl, Nat.le_of_ble_eq_true rfl⟩) hk (hP.sub (ws' := [(aS, .inr (0, [.ref aB])), (aB, .inl (cB, 202000, .inl (by_ b)))]) [1, 2] rfl) hz (q0 := 0) rfl rfl rfl rfl hl.1 rfl (Nat.le_of_ble_eq_true rfl) d_GR_workOf_145 ⟨Nat.zero_le _, Nat.zero_le _⟩ ?_
                refine lv_if_eq (tgt := 156) hx hb d_GR_workOf_148 (by decide) (fun c_8 => ?_) (fun c_8 => ?_)
                · refine lv_iconst (v := 0) hx hb d_GR_workOf_156 (by decide) ?_
                  exact W.iret (v := 0) hx hb hr (fun t ht hW => ⟨0, rfl, (by rw [tw_GR_workOf, if_pos c_1, if_pos c_2, if_pos c_3, if_pos c_4, if_pos c_5, if_pos c_6, if_pos c_7, if_pos c_8]; first | done | rfl), ht⟩) (fun _ h => by cases h) d_GR_workOf_157
                · refine lv_bipush (v := 8) hx hb d_GR_workOf_151 (by decide) ?_
                  refine lv_goto (tgt := 157) hx hb d_GR_workOf_153 (by decide) ?_
                  exact W.iret (v := 8) hx hb hr (fun t ht hW => ⟨8, rfl, (by rw [tw_GR_workOf, if_pos c_1, if_pos c_2, if_pos c_3, if_pos c_4, if_pos c_5, if_pos c_6, if_pos c_7, if_neg c_8]; first | done | rfl), ht⟩) (fun _ h => by cases h) d_GR_workOf_157
              · refine lv_bipush (v := 7) hx hb d_GR_workOf_134 (by decide) ?_
                exact W.iret (v := 7) hx hb hr (fun t ht hW => ⟨7, rfl, (by rw [tw_GR_workOf, if_pos c_1, if_pos c_2, if_pos c_3, if_pos c_4, if_pos c_5, if_pos c_6, if_neg c_7]; first | done | rfl), ht⟩) (fun _ h => by cases h) d_GR_workOf_136
            · refine lv_bipush (v := 6) hx hb d_GR_workOf_117 (by decide) ?_
              exact W.iret (v := 6) hx hb hr (fun t ht hW => ⟨6, rfl, (by rw [tw_GR_workOf, if_pos c_1, if_pos c_2, if_pos c_3, if_pos c_4, if_pos c_5, if_neg c_6]; first | done | rfl), ht⟩) (fun _ h => by cases h) d_GR_workOf_119
          · refine lv_iconst (v := 5) hx hb d_GR_workOf_101 (by decide) ?_
            exact W.iret (v := 5) hx hb hr (fun t ht hW => ⟨5, rfl, (by rw [tw_GR_workOf, if_pos c_1, if_pos c_2, if_pos c_3, if_pos c_4, if_neg c_5]; first | done | rfl), ht⟩) (fun _ h => by cases h) d_GR_workOf_102
        · refine lv_iconst (v := 4) hx hb d_GR_workOf_85 (by decide) ?_
          exact W.iret (v := 4) hx hb hr (fun t ht hW => ⟨4, rfl, (by rw [tw_GR_workOf, if_pos c_1, if_pos c_2, if_pos c_3, if_neg c_4]; first | done | rfl), ht⟩) (fun _ h => by cases h) d_GR_workOf_86
      · refine lv_iconst (v := 3) hx hb d_GR_workOf_69 (by decide) ?_
        exact W.iret (v := 3) hx hb hr (fun t ht hW => ⟨3, rfl, (by rw [tw_GR_workOf, if_pos c_1, if_pos c_2, if_neg c_3]; first | done | rfl), ht⟩) (fun _ h => by cases h) d_GR_workOf_70
    · refine lv_iconst (v := 2) hx hb d_GR_workOf_53 (by decide) ?_
      exact W.iret (v := 2) hx hb hr (fun t ht hW => ⟨2, rfl, (by rw [tw_GR_workOf, if_pos c_1, if_neg c_2]; first | done | rfl), ht⟩) (fun _ h => by cases h) d_GR_workOf_54
  · refine lv_iconst (v := 1) hx hb d_GR_workOf_37 (by decide) ?_
    exact W.iret (v := 1) hx hb hr (fun t ht hW => ⟨1, rfl, (by rw [tw_GR_workOf, if_neg c_1]; first | done | rfl), ht⟩) (fun _ h => by cases h) d_GR_workOf_38
set_option maxHeartbeats 4000000 in
set_option maxRecDepth 100000 in
theorem c_FI_isText (l : Launch) (D : va_G) (cB cI : ClassId) (aX aS aY aP aFc aFn aFl aFh aFd aFo aB : Nat) (i9 : Nat) (fict : Int32) (b : Nat → UInt8) (p0 : Int32) (p1 : Int32) (hi9 : i9 < 19) : Met l y_FI_isText mw_FI_isText { frames := 5, cells := 0, slots := 0, locals := 111 } (va_Pc [.ref aX, .int p0, .int p1, .ref (D.2 101 i9)] (fun U => va_P D vwCl [(aX, .inr (9, [.ref aS, .ref aY, .ref aP, .ref aFc, .ref aFn, .ref aFl, .ref aFh, .ref aFd, .int fict, .ref aFo])), (aS, .inr (0, [.ref aB])), (aB, .inl (cB, 202000, .inl (by_ b)))] U.heap ∧ hk_ D cB cI U ∧ sk_ D U U.heap)) (vp_Si (fun r => r = b2i (tw_FI_isText i9 b p0 p1))) 0 0 (fun _ => False) := by
  refine Met.ofW (cc := b_FI_isText) (maxL := 4) (ret := (some .boolean)) (by decide) rfl ?_
  intro p e s m args below meth c s₁ B0 hml hv
  obtain ⟨rfl, hP, hk, hz⟩ := hv
  have hK := hk.1
  have hN := hk.2.1
  have hx := B0.exec
  have hb := B0.bytes
  have hr := B0.returns
  have hT : ∀ w ∈ lw_g, w.before _ s = true := fun w h => atoms_spec (ws := mw_FI_isText) B0.pre w (List.mem_cons_of_mem _ h)
  have hown : s.vm.findClass R_FI = some m.cls := findClass_of_methodNamed B0.named
  have hlocks := B0.notSynchronized
  have hl := lv_entry ([.ref aX, .int p0, .int p1, .ref (D.2 101 i9)]) (n := 4) (Nat.le_of_ble_eq_true rfl)
  rw [lg_entry_eq]
  generalize (lg_sl ([.ref aX, .int p0, .int p1, .ref (D.2 101 i9)]) ++ List.replicate (4 - (lg_sl ([.ref aX, .int p0, .int p1, .ref (D.2 101 i9)])).length) Slot.unset).toArray = ls at hl ⊢
  have hl : lv_has ls 4 [(0, .ref aX), (1, .int p0), (2, .int p1), (3, .ref (D.2 101 i9))] := hl
  refine lv_iload_n hx hb d_FI_isText_0 rfl (lv_at hl 2 rfl) ?_
  refine rd_S (val := tw_ST_kindOf p1) (As := [.int p1]) (rest := []) ⟨hx, hb, hml, hown, hT⟩ (c_ST_kindOf l D cB cI p1) (va_cwS 1 hT (gS_of k_933 k_555 k_2 kc_ST_kindOf) rfl rfl rfl hd_ST_kindOf ⟨Nat.le_of_ble_eq_true rfl, Nat.le_of_ble_eq_true rfl⟩) hk (va_P_nil) rfl hl.1 rfl (Nat.le_of_ble_eq_true rfl) d_FI_isText_1 ⟨Nat.zero_le _, Nat.zero_le _⟩ ?_
  refine lv_iconst (v := 2) hx hb d_FI_isText_4 (by decide) ?_
  refine lv_icmp_ne (tgt := 32) hx hb d_FI_isText_5 (by decide) (fun c_1 => ?_) (fun c_1 => ?_)
  · refine lv_iconst (v := 0) hx hb d_FI_isText_32 (by decide) ?_
    exact W.zret (v := 0) (ty := .boolean) hx hb hr (rfl) (fun t ht hW => ⟨0, rfl, (by rw [tw_FI_isText, if_neg c_1]; first | done | rfl), ht⟩) (fun _ h => by cases h) d_FI_isText_33
  · refine lv_aload_n hx hb d_FI_isText_8 rfl (lv_at hl 0 rfl) ?_
    refine va_get (D := D) (ci := 9) (v := .ref aS) (C := R_FI) (T := T_FI) (N := 10) hx hb hT u_FI hown hK hP 0 rfl rfl 0 (by decide) (hT _ k_285) (fun _ h9 => h9) rfl d_FI_isText_9 ?_
    refine lv_iload_n hx hb d_FI_isText_12 rfl (lv_at hl 1 rfl) ?_
    refine lv_iconst (v := 1) hx hb d_FI_isText_13 (by decide) ?_
    refine lv_iadd hx hb d_FI_isText_14 ?_
    refine lv_iload_n hx hb d_FI_isText_15 rfl (lv_at hl 2 rfl) ?_
    refine rd_S (val := tw_ST_placeOf p1) (As := [.int p1]) (rest := [.int (p0 + 1), .ref aS]) ⟨hx, hb, hml, hown, hT⟩ (c_ST_placeOf l D cB cI p1) (va_cwS 1 hT (gS_of k_935 k_403 k_2 kc_ST_placeOf) rfl rfl rfl hd_ST_placeOf ⟨Nat.le_of_ble_eq_true rfl, Nat.le_of_ble_eq_true rfl⟩) hk (va_P_nil) rfl hl.1 rfl (Nat.le_of_ble_eq_true rfl) d_FI_isText_16 ⟨Nat.zero_le _, Nat.zero_le _⟩ ?_
    refine lv_iconst (v := 1) hx hb d_FI_isText_19 (by decide) ?_
    refine lv_isub hx hb d_FI_isText_20 ?_
    refine lv_aload_n hx hb d_FI_isText_21 rfl (lv_at hl 3 rfl) ?_
    refine rd_Vs (val := b2i (tw_ST_named i9 b (p0 + 1) ((tw_ST_placeOf p1) - 1))) (As := [.int (p0 + 1), .int ((tw_ST_placeOf p1) - 1), .ref (D.2 101 i9)]) (rest := []) ⟨hx, hb, hml, hown, hT⟩ (c_ST_named l D cB cI aS aB i9 b (p0 + 1) ((tw_ST_placeOf p1) - 1) hi9) (cwV 3 hT (gV_of k_943 k_489 k_490 k_2 kc_ST_named) rfl rfl rfl hd_ST_named ⟨Nat.le_of_ble_eq_true rfl, Nat.le_of_ble_eq_true rfl⟩) hk (hP.sub (ws' := [(aS, .inr (0, [.ref aB])), (aB, .inl (cB, 202000, .inl (by_ b)))]) [1, 2] rfl) hz (q0 := 0) rfl rfl rfl rfl hl.1 rfl (Nat.le_of_ble_eq_true rfl) d_FI_isText_22 ⟨Nat.zero_le _, Nat.zero_le _⟩ ?_
    refine lv_if_eq (tgt := 32) hx hb d_FI_isText_25 (by decide) (fun c_2 => ?_) (fun c_2 => ?_)
    · refine lv_iconst (v := 0) hx hb d_FI_isText_32 (by decide) ?_
      exact W.zret (v := 0) (ty := .boolean) hx hb hr (rfl) (fun t ht hW => ⟨0, rfl, (by rw [tw_FI_isText, if_pos c_1, if_pos c_2]; first | done | rfl), ht⟩) (fun _ h => by cases h) d_FI_isText_33
    · refine lv_iconst (v := 1) hx hb d_FI_isText_28 (by decide) ?_
      refine lv_goto (tgt := 33) hx hb d_FI_isText_29 (by decide) ?_
      exact W.zret (v := 1) (ty := .boolean) hx hb hr (rfl) (fun t ht hW => ⟨1, rfl, (by rw [tw_FI_isText, if_pos c_1, if_neg c_2]; first | done | rfl), ht⟩) (fun _ h => by cases h) d_FI_isText_33
abbrev wd_GR_faultOfKey (aU aS aY aP aGk aGh aGf aGl aGn aGv aB aV aPs aPe aPi aPh aPl aPn : Nat) (cB cI : ClassId) (ngr : Int32) (held : Int32) (gsum : Int64) (b : Nat → UInt8) (plc : Int32) (psr : Int32) (pbs : Int32) (pms : Bool) (pcnt : Int32) (pfix : Bool) (pown : Int32) (pst : Nat → Int32) (pen : Nat → Int32) (pix : Nat → Int32) : va_W := [(aU, .inr (7, [.ref aS, .ref aY, .ref aP, .ref aGk, .ref aGh, .ref aGf, .ref aGl, .ref aGn, .int ngr, .ref aGv, .int held, .long gsum])), (aS, .inr (0, [.ref aB])), (aB, .inl (cB, 202000, .inl (by_ b))), (aP, .inr (5, [.ref aS, .ref aV, .ref aPs, .ref aPe, .ref aPi, .ref aPh, .int pcnt, .int (b2i pfix), .int pown, .ref aPl, .ref aPn, .int plc, .int psr, .int pbs, .int (b2i pms)])), (aPs, .inl (cI, 8, .inl pst)), (aPe, .inl (cI, 8, .inl pen)), (aPi, .inl (cI, 8, .inl pix))]
set_option maxHeartbeats 4000000 in
set_option maxRecDepth 100000 in
theorem c_GR_faultOfKey (l : Launch) (D : va_G) (cB cI : ClassId) (aU aS aY aP aGk aGh aGf aGl aGn aGv aB aV aPs aPe aPi aPh aPl aPn : Nat) (ngr : Int32) (held : Int32) (gsum : Int64) (b : Nat → UInt8) (plc : Int32) (psr : Int32) (pbs : Int32) (pms : Bool) (sz : Nat) (pcnt : Int32) (pfix : Bool) (pown : Int32) (pst : Nat → Int32) (pen : Nat → Int32) (pix : Nat → Int32) (p0 : Int32) (p1 : Int32) (p2 : Int32) : Met l y_GR_faultOfKey mw_GR_faultOfKey { frames := 5, cells := 0, slots := 0, locals := 111 } (va_Pc [.ref aU, .int p0, .int p1, .int p2] (mt_Ps D cB cI (wd_GR_faultOfKey aU aS aY aP aGk aGh aGf aGl aGn aGv aB aV aPs aPe aPi aPh aPl aPn cB cI ngr held gsum b plc psr pbs pms pcnt pfix pown pst pen pix) sz)) (va_Qi (fun (r : Int32) (u : Int32 × Bool × Int32 × (Nat → Int32) × (Nat → Int32) × (Nat → Int32)) => (r, u) = tw_GR_faultOfKey b pcnt pfix pown pst pen pix p0 p1 p2) (mt_B D (va_A (wd_GR_faultOfKey aU aS aY aP aGk aGh aGf aGl aGn aGv aB aV aPs aPe aPi aPh aPl aPn cB cI ngr held gsum b plc psr pbs pms pcnt pfix pown pst pen pix) sz) (fun u => wd_GR_faultOfKey aU aS aY aP aGk aGh aGf aGl aGn aGv aB aV aPs aPe aPi aPh aPl aPn cB cI ngr held gsum b plc psr pbs pms u.1 u.2.1 u.2.2.1 u.2.2.2.1 u.2.2.2.2.1 u.2.2.2.2.2)) (va_A (wd_GR_faultOfKey aU aS aY aP aGk aGh aGf aGl aGn aGv aB aV aPs aPe aPi aPh aPl aPn cB cI ngr held gsum b plc psr pbs pms pcnt pfix pown pst pen pix) sz)) 0 0 (va_A (wd_GR_faultOfKey aU aS aY aP aGk aGh aGf aGl aGn aGv aB aV aPs aPe aPi aPh aPl aPn cB cI ngr held gsum b plc psr pbs pms pcnt pfix pown pst pen pix) sz) := by
  refine Met.ofW (cc := b_GR_faultOfKey) (maxL := 4) (ret := (some .int)) (by decide) rfl ?_
  intro p e s m args below meth c s₁ B0 hml hv
  obtain ⟨rfl, hsz, hP, hk, hD0, hzs, hz⟩ := hv
  have hK := hk.1
  have hN := hk.2.1
  have hx := B0.exec
  have hb := B0.bytes
  have hr := B0.returns
  have hT : ∀ w ∈ lw_g, w.before _ s = true := fun w h => atoms_spec (ws := mw_GR_faultOfKey) B0.pre w (List.mem_cons_of_mem _ h)
  have hown : s.vm.findClass R_GR = some m.cls := findClass_of_methodNamed B0.named
  have hlocks := B0.notSynchronized
  subst hsz
  have hD := hD0.self (sz := s.heap.size)
  have hAz : ∀ q, va_A [(aU, .inr (7, [.ref aS, .ref aY, .ref aP, .ref aGk, .ref aGh, .ref aGf, .ref aGl, .ref aGn, .int ngr, .ref aGv, .int held, .long gsum])), (aS, .inr (0, [.ref aB])), (aB, .inl (cB, 202000, .inl (by_ b))), (aP, .inr (5, [.ref aS, .ref aV, .ref aPs, .ref aPe, .ref aPi, .ref aPh, .int pcnt, .int (b2i pfix), .int pown, .ref aPl, .ref aPn, .int plc, .int psr, .int pbs, .int (b2i pms)])), (aPs, .inl (cI, 8, .inl pst)), (aPe, .inl (cI, 8, .inl pen)), (aPi, .inl (cI, 8, .inl pix))] s.heap.size q → D.2 100 0 ≤ q := fun q h => h.elim (fun ⟨k, e, h⟩ => hD0.2 k _ h) (fun h => Nat.le_trans hzs h)
  generalize hAe : va_A [(aU, .inr (7, [.ref aS, .ref aY, .ref aP, .ref aGk, .ref aGh, .ref aGf, .ref aGl, .ref aGn, .int ngr, .ref aGv, .int held, .long gsum])), (aS, .inr (0, [.ref aB])), (aB, .inl (cB, 202000, .inl (by_ b))), (aP, .inr (5, [.ref aS, .ref aV, .ref aPs, .ref aPe, .ref aPi, .ref aPh, .int pcnt, .int (b2i pfix), .int pown, .ref aPl, .ref aPn, .int plc, .int psr, .int pbs, .int (b2i pms)])), (aPs, .inl (cI, 8, .inl pst)), (aPe, .inl (cI, 8, .inl pen)), (aPi, .inl (cI, 8, .inl pix))] s.heap.size = A at hD hAz ⊢
  have hA : ∀ q : Nat, s.heap.size ≤ q → A q := fun q h => by rw [← hAe]; exact Or.inr h
  have hS : va_S A s.heap s.heap [] := va_S.rf
  have hl := lv_entry ([.ref aU, .int p0, .int p1, .int p2]) (n := 4) (Nat.le_of_ble_eq_true rfl)
  rw [lg_entry_eq]
  generalize (lg_sl ([.ref aU, .int p0, .int p1, .int p2]) ++ List.replicate (4 - (lg_sl ([.ref aU, .int p0, .int p1, .int p2])).length) Slot.unset).toArray = ls at hl ⊢
  have hl : lv_has ls 4 [(0, .ref aU), (1, .int p0), (2, .int p1), (3, .int p2)] := hl
  refine lv_aload_n hx hb d_GR_faultOfKey_0 rfl (lv_at hl 0 rfl) ?_
  refine va_get (D := D) (ci := 7) (v := .ref aS) (C := R_GR) (T := T_GR) (N := 12) hx hb hT u_GR hown hK hP 0 rfl rfl 0 (by decide) (hT _ k_212) (fun _ h9 => h9) rfl d_GR_faultOfKey_1 ?_
  refine lv_iload_n hx hb d_GR_faultOfKey_4 rfl (lv_at hl 1 rfl) ?_
  refine lv_iload_n hx hb d_GR_faultOfKey_5 rfl (lv_at hl 2 rfl) ?_
  refine va_ldcS hx hb hown (hz.2.1 7 ("PipelineBelt$Grouper", 92, "by") rfl) d_GR_faultOfKey_6 ?_
  refine rd_Vs (val := b2i (tw_ST_named 7 b p0 p1)) (As := [.int p0, .int p1, .ref (D.2 101 7)]) (rest := []) ⟨hx, hb, hml, hown, hT⟩ (c_ST_named l D cB cI aS aB 7 b p0 p1 (by decide)) (cwV 3 hT (gV_of k_721 k_489 k_490 k_2 kc_ST_named) rfl rfl rfl hd_ST_named ⟨Nat.le_of_ble_eq_true rfl, Nat.le_of_ble_eq_true rfl⟩) hk (hP.sub (ws' := [(aS, .inr (0, [.ref aB])), (aB, .inl (cB, 202000, .inl (by_ b)))]) [1, 2] rfl) (hz.at hS hAz) (q0 := 0) rfl rfl rfl rfl hl.1 rfl (Nat.le_of_ble_eq_true rfl) d_GR_faultOfKey_8 ⟨Nat.zero_le _, Nat.zero_le _⟩ ?_
  refine lv_if_ne (tgt := 16) hx hb d_GR_faultOfKey_11 (by decide) (fun c_1 => ?_) (fun c_1 => ?_)
  · refine lv_aload_n hx hb d_GR_faultOfKey_16 rfl (lv_at hl 0 rfl) ?_
    refine va_get (D := D) (ci := 7) (v := .ref aP) (C := R_GR) (T := T_GR) (N := 12) hx hb hT u_GR hown hK hP 0 rfl rfl 2 (by decide) (hT _ k_214) (fun _ h9 => h9) rfl d_GR_faultOfKey_17 ?_
    refine lv_iload_n hx hb d_GR_faultOfKey_20 rfl (lv_at hl 3 rfl) ?_
    refine mt_Vi (As := [.int p2]) (rest := []) (wr := [(aU, .inr (7, [.ref aS, .ref aY, .ref aP, .ref aGk, .ref aGh, .ref aGf, .ref aGl, .ref aGn, .int ngr, .ref aGv, .int held, .long gsum]))]) ⟨hx, hb, hml, hown, hT⟩ (c_PA_readExpression l D cB cI aP aS aV aPs aPe aPi aPh aPl aPn aB plc psr pbs pms b _ pcnt pfix pown pst pen pix p2) (cwV 1 hT (gV_of k_722 k_566 k_567 k_7 kc_PA_readExpression) rfl rfl rfl hd_PA_readExpression ⟨Nat.le_of_ble_eq_true rfl, Nat.le_of_ble_eq_true rfl⟩) hk hP hD hS hA [3, 1, 2, 4, 5, 6] [0] rfl rfl rfl (by decide) (by decide) (by decide) (q0 := 0) rfl rfl rfl rfl hl.1 rfl (Nat.le_of_ble_eq_true rfl) d_GR_faultOfKey_21 ⟨Nat.zero_le _, Nat.zero_le _⟩ (fun r_2 u_2 H locs hw_2 hP hD hS => ?_)
    obtain ⟨pcnt_2, pfix_2, pown_2, pst_2, pen_2, pix_2⟩ := u_2
    obtain ⟨r_2, rfl, hw_2⟩ := hw_2
    have hP : va_P D vwCl [(aU, .inr (7, [.ref aS, .ref aY, .ref aP, .ref aGk, .ref aGh, .ref aGf, .ref aGl, .ref aGn, .int ngr, .ref aGv, .int held, .long gsum])), (aS, .inr (0, [.ref aB])), (aB, .inl (cB, 202000, .inl (by_ b))), (aP, .inr (5, [.ref aS, .ref aV, .ref aPs, .ref aPe, .ref aPi, .ref aPh, .int pcnt_2, .int (b2i pfix_2), .int pown_2, .ref aPl, .ref aPn, .int plc, .int psr, .int pbs, .int (b2i pms)])), (aPs, .inl (cI, 8, .inl pst_2)), (aPe, .inl (cI, 8, .inl pen_2)), (aPi, .inl (cI, 8, .inl pix_2))] H := hP.sub [0, 2, 3, 1, 4, 5, 6] rfl
    have hD : va_D A [(aU, .inr (7, [.ref aS, .ref aY, .ref aP, .ref aGk, .ref aGh, .ref aGf, .ref aGl, .ref aGn, .int ngr, .ref aGv, .int held, .long gsum])), (aS, .inr (0, [.ref aB])), (aB, .inl (cB, 202000, .inl (by_ b))), (aP, .inr (5, [.ref aS, .ref aV, .ref aPs, .ref aPe, .ref aPi, .ref aPh, .int pcnt_2, .int (b2i pfix_2), .int pown_2, .ref aPl, .ref aPn, .int plc, .int psr, .int pbs, .int (b2i pms)])), (aPs, .inl (cI, 8, .inl pst_2)), (aPe, .inl (cI, 8, .inl pen_2)), (aPi, .inl (cI, 8, .inl pix_2))] := hD.sub [0, 2, 3, 1, 4, 5, 6] (by decide) rfl
    refine lv_if_eq (tgt := 31) hx hb d_GR_faultOfKey_24 (by decide) (fun c_3 => ?_) (fun c_3 => ?_)
    · refine lv_iconst (v := 3) hx hb d_GR_faultOfKey_31 (by decide) ?_
      exact W.iret (v := 3) hx hb hr (fun t ht hW => ⟨⟨3, (pcnt_2, pfix_2, pown_2, pst_2, pen_2, pix_2), rfl, (by rw [tw_GR_faultOfKey, if_neg c_1, ← hw_2, tp7_mk, if_pos c_3]; first | done | rfl), by rw [ht]; exact hP, hD⟩, hS.F ht⟩) hS.2.2 d_GR_faultOfKey_32
    · refine lv_iconst (v := 0) hx hb d_GR_faultOfKey_27 (by decide) ?_
      refine lv_goto (tgt := 32) hx hb d_GR_faultOfKey_28 (by decide) ?_
      exact W.iret (v := 0) hx hb hr (fun t ht hW => ⟨⟨0, (pcnt_2, pfix_2, pown_2, pst_2, pen_2, pix_2), rfl, (by rw [tw_GR_faultOfKey, if_neg c_1, ← hw_2, tp7_mk, if_neg c_3]; first | done | rfl), by rw [ht]; exact hP, hD⟩, hS.F ht⟩) hS.2.2 d_GR_faultOfKey_32
  · refine lv_iconst (v := 2) hx hb d_GR_faultOfKey_14 (by decide) ?_
    exact W.iret (v := 2) hx hb hr (fun t ht hW => ⟨⟨2, (pcnt, pfix, pown, pst, pen, pix), rfl, (by rw [tw_GR_faultOfKey, if_pos c_1]; first | done | rfl), by rw [ht]; exact hP, hD⟩, hS.F ht⟩) hS.2.2 d_GR_faultOfKey_15
abbrev wd_GR_faultOfPart (aU aS aY aP aGk aGh aGf aGl aGn aGv aB aV aPs aPe aPi aPh aPl aPn : Nat) (cB cI : ClassId) (ngr : Int32) (held : Int32) (gsum : Int64) (b : Nat → UInt8) (plc : Int32) (psr : Int32) (pbs : Int32) (pms : Bool) (pcnt : Int32) (pfix : Bool) (pown : Int32) (pst : Nat → Int32) (pen : Nat → Int32) (pix : Nat → Int32) : va_W := [(aU, .inr (7, [.ref aS, .ref aY, .ref aP, .ref aGk, .ref aGh, .ref aGf, .ref aGl, .ref aGn, .int ngr, .ref aGv, .int held, .long gsum])), (aS, .inr (0, [.ref aB])), (aB, .inl (cB, 202000, .inl (by_ b))), (aP, .inr (5, [.ref aS, .ref aV, .ref aPs, .ref aPe, .ref aPi, .ref aPh, .int pcnt, .int (b2i pfix), .int pown, .ref aPl, .ref aPn, .int plc, .int psr, .int pbs, .int (b2i pms)])), (aPs, .inl (cI, 8, .inl pst)), (aPe, .inl (cI, 8, .inl pen)), (aPi, .inl (cI, 8, .inl pix))]
set_option maxHeartbeats 4000000 in
set_option maxRecDepth 100000 in
theorem c_GR_faultOfPart (l : Launch) (D : va_G) (cB cI : ClassId) (aU aS aY aP aGk aGh aGf aGl aGn aGv aB aV aPs aPe aPi aPh aPl aPn : Nat) (ngr : Int32) (held : Int32) (gsum : Int64) (b : Nat → UInt8) (plc : Int32) (psr : Int32) (pbs : Int32) (pms : Bool) (sz : Nat) (pcnt : Int32) (pfix : Bool) (pown : Int32) (pst : Nat → Int32) (pen : Nat → Int32) (pix : Nat → Int32) (p0 : Int32) (p1 : Int32) (p2 : Int32) : Met l y_GR_faultOfPart mw_GR_faultOfPart { frames := 6, cells := 0, slots := 0, locals := 134 } (va_Pc [.ref aU, .int p0, .int p1, .int p2] (mt_Ps D cB cI (wd_GR_faultOfPart aU aS aY aP aGk aGh aGf aGl aGn aGv aB aV aPs aPe aPi aPh aPl aPn cB cI ngr held gsum b plc psr pbs pms pcnt pfix pown pst pen pix) sz)) (va_Qi (fun (r : Int32) (u : Int32 × Bool × Int32 × (Nat → Int32) × (Nat → Int32) × (Nat → Int32)) => (r, u) = tw_GR_faultOfPart b pcnt pfix pown pst pen pix p0 p1 p2) (mt_B D (va_A (wd_GR_faultOfPart aU aS aY aP aGk aGh aGf aGl aGn aGv aB aV aPs aPe aPi aPh aPl aPn cB cI ngr held gsum b plc psr pbs pms pcnt pfix pown pst pen pix) sz) (fun u => wd_GR_faultOfPart aU aS aY aP aGk aGh aGf aGl aGn aGv aB aV aPs aPe aPi aPh aPl aPn cB cI ngr held gsum b plc psr pbs pms u.1 u.2.1 u.2.2.1 u.2.2.2.1 u.2.2.2.2.1 u.2.2.2.2.2)) (va_A (wd_GR_faultOfPart aU aS aY aP aGk aGh aGf aGl aGn aGv aB aV aPs aPe aPi aPh aPl aPn cB cI ngr held gsum b plc psr pbs pms pcnt pfix pown pst pen pix) sz)) 0 0 (va_A (wd_GR_faultOfPart aU aS aY aP aGk aGh aGf aGl aGn aGv aB aV aPs aPe aPi aPh aPl aPn cB cI ngr held gsum b plc psr pbs pms pcnt pfix pown pst pen pix) sz) := by
  refine Met.ofW (cc := b_GR_faultOfPart) (maxL := 6) (ret := (some .int)) (by decide) rfl ?_
  intro p e s m args below meth c s₁ B0 hml hv
  obtain ⟨rfl, hsz, hP, hk, hD0, hzs, hz⟩ := hv
  have hK := hk.1
  have hN := hk.2.1
  have hx := B0.exec
  have hb := B0.bytes
  have hr := B0.returns
  have hT : ∀ w ∈ lw_g, w.before _ s = true := fun w h => atoms_spec (ws := mw_GR_faultOfPart) B0.pre w (List.mem_cons_of_mem _ h)
  have hown : s.vm.findClass R_GR = some m.cls := findClass_of_methodNamed B0.named
  have hlocks := B0.notSynchronized
  subst hsz
  have hD := hD0.self (sz := s.heap.size)
  have hAz : ∀ q, va_A [(aU, .inr (7, [.ref aS, .ref aY, .ref aP, .ref aGk, .ref aGh, .ref aGf, .ref aGl, .ref aGn, .int ngr, .ref aGv, .int held, .long gsum])), (aS, .inr (0, [.ref aB])), (aB, .inl (cB, 202000, .inl (by_ b))), (aP, .inr (5, [.ref aS, .ref aV, .ref aPs, .ref aPe, .ref aPi, .ref aPh, .int pcnt, .int (b2i pfix), .int pown, .ref aPl, .ref aPn, .int plc, .int psr, .int pbs, .int (b2i pms)])), (aPs, .inl (cI, 8, .inl pst)), (aPe, .inl (cI, 8, .inl pen)), (aPi, .inl (cI, 8, .inl pix))] s.heap.size q → D.2 100 0 ≤ q := fun q h => h.elim (fun ⟨k, e, h⟩ => hD0.2 k _ h) (fun h => Nat.le_trans hzs h)
  generalize hAe : va_A [(aU, .inr (7, [.ref aS, .ref aY, .ref aP, .ref aGk, .ref aGh, .ref aGf, .ref aGl, .ref aGn, .int ngr, .ref aGv, .int held, .long gsum])), (aS, .inr (0, [.ref aB])), (aB, .inl (cB, 202000, .inl (by_ b))), (aP, .inr (5, [.ref aS, .ref aV, .ref aPs, .ref aPe, .ref aPi, .ref aPh, .int pcnt, .int (b2i pfix), .int pown, .ref aPl, .ref aPn, .int plc, .int psr, .int pbs, .int (b2i pms)])), (aPs, .inl (cI, 8, .inl pst)), (aPe, .inl (cI, 8, .inl pen)), (aPi, .inl (cI, 8, .inl pix))] s.heap.size = A at hD hAz ⊢
  have hA : ∀ q : Nat, s.heap.size ≤ q → A q := fun q h => by rw [← hAe]; exact Or.inr h
  have hS : va_S A s.heap s.heap [] := va_S.rf
  have hl := lv_entry ([.ref aU, .int p0, .int p1, .int p2]) (n := 6) (Nat.le_of_ble_eq_true rfl)
  rw [lg_entry_eq]
  generalize (lg_sl ([.ref aU, .int p0, .int p1, .int p2]) ++ List.replicate (6 - (lg_sl ([.ref aU, .int p0, .int p1, .int p2])).length) Slot.unset).toArray = ls at hl ⊢
  have hl : lv_has ls 6 [(0, .ref aU), (1, .int p0), (2, .int p1), (3, .int p2)] := hl
  refine lv_aload_n hx hb d_GR_faultOfPart_0 rfl (lv_at hl 0 rfl) ?_
  refine va_get (D := D) (ci := 7) (v := .ref aS) (C := R_GR) (T := T_GR) (N := 12) hx hb hT u_GR hown hK hP 0 rfl rfl 0 (by decide) (hT _ k_212) (fun _ h9 => h9) rfl d_GR_faultOfPart_1 ?_
  refine lv_iload_n hx hb d_GR_faultOfPart_4 rfl (lv_at hl 1 rfl) ?_
  refine lv_iload_n hx hb d_GR_faultOfPart_5 rfl (lv_at hl 2 rfl) ?_
  refine rd_V (val := b2i (tw_ST_isPlain b p0 p1)) (As := [.int p0, .int p1]) (rest := []) ⟨hx, hb, hml, hown, hT⟩ (c_ST_isPlain l D cB cI aS aB b p0 p1) (cwV 2 hT (gV_of k_727 k_562 k_563 k_2 kc_ST_isPlain) rfl rfl rfl hd_ST_isPlain ⟨Nat.le_of_ble_eq_true rfl, Nat.le_of_ble_eq_true rfl⟩) hk (hP.sub (ws' := [(aS, .inr (0, [.ref aB])), (aB, .inl (cB, 202000, .inl (by_ b)))]) [1, 2] rfl) (q0 := 0) rfl rfl rfl rfl hl.1 rfl (Nat.le_of_ble_eq_true rfl) d_GR_faultOfPart_6 ⟨Nat.zero_le _, Nat.zero_le _⟩ ?_
  refine lv_if_eq (tgt := 32) hx hb d_GR_faultOfPart_9 (by decide) (fun c_1 => ?_) (fun c_1 => ?_)
  · refine lv_iconst (v := 2) hx hb d_GR_faultOfPart_32 (by decide) ?_
    exact W.iret (v := 2) hx hb hr (fun t ht hW => ⟨⟨2, (pcnt, pfix, pown, pst, pen, pix), rfl, (by rw [tw_GR_faultOfPart, if_pos c_1]; first | done | rfl), by rw [ht]; exact hP, hD⟩, hS.F ht⟩) hS.2.2 d_GR_faultOfPart_33
  · refine lv_iload_n hx hb d_GR_faultOfPart_12 rfl (lv_at hl 3 rfl) ?_
    refine rd_S (val := tw_ST_kindOf p2) (As := [.int p2]) (rest := []) ⟨hx, hb, hml, hown, hT⟩ (c_ST_kindOf l D cB cI p2) (va_cwS 1 hT (gS_of k_711 k_555 k_2 kc_ST_kindOf) rfl rfl rfl hd_ST_kindOf ⟨Nat.le_of_ble_eq_true rfl, Nat.le_of_ble_eq_true rfl⟩) hk (va_P_nil) rfl hl.1 rfl (Nat.le_of_ble_eq_true rfl) d_GR_faultOfPart_13 ⟨Nat.zero_le _, Nat.zero_le _⟩ ?_
    refine lv_iconst (v := 3) hx hb d_GR_faultOfPart_16 (by decide) ?_
    refine lv_icmp_ne (tgt := 32) hx hb d_GR_faultOfPart_17 (by decide) (fun c_2 => ?_) (fun c_2 => ?_)
    · refine lv_iconst (v := 2) hx hb d_GR_faultOfPart_32 (by decide) ?_
      exact W.iret (v := 2) hx hb hr (fun t ht hW => ⟨⟨2, (pcnt, pfix, pown, pst, pen, pix), rfl, (by rw [tw_GR_faultOfPart, if_neg c_1, if_neg c_2]; first | done | rfl), by rw [ht]; exact hP, hD⟩, hS.F ht⟩) hS.2.2 d_GR_faultOfPart_33
    · refine lv_aload_n hx hb d_GR_faultOfPart_20 rfl (lv_at hl 0 rfl) ?_
      refine va_get (D := D) (ci := 7) (v := .ref aS) (C := R_GR) (T := T_GR) (N := 12) hx hb hT u_GR hown hK hP 0 rfl rfl 0 (by decide) (hT _ k_212) (fun _ h9 => h9) rfl d_GR_faultOfPart_21 ?_
      refine lv_iload_n hx hb d_GR_faultOfPart_24 rfl (lv_at hl 3 rfl) ?_
      refine rd_V (val := tw_ST_countParts b p2) (As := [.int p2]) (rest := []) ⟨hx, hb, hml, hown, hT⟩ (c_ST_countParts l D cB cI aS aB b p2) (cwV 1 hT (gV_of k_712 k_480 k_481 k_2 kc_ST_countParts) rfl rfl rfl hd_ST_countParts ⟨Nat.le_of_ble_eq_true rfl, Nat.le_of_ble_eq_true rfl⟩) hk (hP.sub (ws' := [(aS, .inr (0, [.ref aB])), (aB, .inl (cB, 202000, .inl (by_ b)))]) [1, 2] rfl) (q0 := 0) rfl rfl rfl rfl hl.1 rfl (Nat.le_of_ble_eq_true rfl) d_GR_faultOfPart_25 ⟨Nat.zero_le _, Nat.zero_le _⟩ ?_
      refine lv_iconst (v := 1) hx hb d_GR_faultOfPart_28 (by decide) ?_
      refine lv_icmp_eq (tgt := 34) hx hb d_GR_faultOfPart_29 (by decide) (fun c_3 => ?_) (fun c_3 => ?_)
      · refine lv_aload_n hx hb d_GR_faultOfPart_34 rfl (lv_at hl 0 rfl) ?_
        refine lv_iload_n hx hb d_GR_faultOfPart_35 rfl (lv_at hl 3 rfl) ?_
        refine rd_V (val := tw_GR_toldBy b p2) (As := [.int p2]) (rest := []) ⟨hx, hb, hml, hown, hT⟩ (c_GR_toldBy l D cB cI aU aS aY aP aGk aGh aGf aGl aGn aGv aB ngr held gsum b p2) (cwV 1 hT (gV_of k_728 k_730 kp_GR_toldBy k_9 kc_GR_toldBy) rfl rfl rfl hd_GR_toldBy ⟨Nat.le_of_ble_eq_true rfl, Nat.le_of_ble_eq_true rfl⟩) hk (hP.sub (ws' := [(aU, .inr (7, [.ref aS, .ref aY, .ref aP, .ref aGk, .ref aGh, .ref aGf, .ref aGl, .ref aGn, .int ngr, .ref aGv, .int held, .long gsum])), (aS, .inr (0, [.ref aB])), (aB, .inl (cB, 202000, .inl (by_ b)))]) [0, 1, 2] rfl) (q0 := 0) rfl rfl rfl rfl hl.1 rfl (Nat.le_of_ble_eq_true rfl) d_GR_faultOfPart_36 ⟨Nat.zero_le _, Nat.zero_le _⟩ ?_
        refine lv_istore (lv' := [(4, .int (tw_GR_toldBy b p2)), (0, .ref aU), (1, .int p0), (2, .int p1), (3, .int p2)]) hx hb d_GR_faultOfPart_39 hl (by decide) rfl (fun ls hl => ?_)
        refine lv_aload_n hx hb d_GR_faultOfPart_41 rfl (lv_at hl 1 rfl) ?_
        refine lv_iload_n hx hb d_GR_faultOfPart_42 rfl (lv_at hl 4 rfl) ?_
        refine rd_Vs (val := tw_GR_workOf b p2) (As := [.int p2]) (rest := []) ⟨hx, hb, hml, hown, hT⟩ (c_GR_workOf l D cB cI aU aS aY aP aGk aGh aGf aGl aGn aGv aB ngr held gsum b p2) (cwV 1 hT (gV_of k_732 k_734 kp_GR_workOf k_9 kc_GR_workOf) rfl rfl rfl hd_GR_workOf ⟨Nat.le_of_ble_eq_true rfl, Nat.le_of_ble_eq_true rfl⟩) hk (hP.sub (ws' := [(aU, .inr (7, [.ref aS, .ref aY, .ref aP, .ref aGk, .ref aGh, .ref aGf, .ref aGl, .ref aGn, .int ngr, .ref aGv, .int held, .long gsum])), (aS, .inr (0, [.ref aB])), (aB, .inl (cB, 202000, .inl (by_ b)))]) [0, 1, 2] rfl) (hz.at hS hAz) (q0 := 0) rfl rfl rfl rfl hl.1 rfl (Nat.le_of_ble_eq_true rfl) d_GR_faultOfPart_43 ⟨Nat.zero_le _, Nat.zero_le _⟩ ?_
        refine lv_istore (lv' := [(5, .int (tw_GR_workOf b p2)), (4, .int (tw_GR_toldBy b p2)), (0, .ref aU), (1, .int p0), (2, .int p1), (3, .int p2)]) hx hb d_GR_faultOfPart_46 hl (by decide) rfl (fun ls hl => ?_)
        refine lv_iload hx hb d_GR_faultOfPart_48 (lv_at hl 0 rfl) ?_
        refine lv_if_eq (tgt := 69) hx hb d_GR_faultOfPart_50 (by decide) (fun c_4 => ?_) (fun c_4 => ?_)
        · refine lv_iconst (v := 2) hx hb d_GR_faultOfPart_69 (by decide) ?_
          exact W.iret (v := 2) hx hb hr (fun t ht hW => ⟨⟨2, (pcnt, pfix, pown, pst, pen, pix), rfl, (by rw [tw_GR_faultOfPart, if_neg c_1, if_pos c_2, if_pos c_3, if_pos c_4]; first | done | rfl), by rw [ht]; exact hP, hD⟩, hS.F ht⟩) hS.2.2 d_GR_faultOfPart_70
        · refine lv_iload hx hb d_GR_faultOfPart_53 (lv_at hl 0 rfl) ?_
          refine lv_iconst (v := 1) hx hb d_GR_faultOfPart_55 (by decide) ?_
          refine lv_icmp_ne (tgt := 71) hx hb d_GR_faultOfPart_56 (by decide) (fun c_5 => ?_) (fun c_5 => ?_)
          · refine lv_iload hx hb d_GR_faultOfPart_71 (lv_at hl 0 rfl) ?_
            refine lv_iconst (v := 1) hx hb d_GR_faultOfPart_73 (by decide) ?_
            refine lv_icmp_eq (tgt := 89) hx hb d_GR_faultOfPart_74 (by decide) (fun c_6 => ?_) (fun c_6 => ?_)
            · refine lv_iconst (v := 0) hx hb d_GR_faultOfPart_89 (by decide) ?_
              refine lv_goto (tgt := 94) hx hb d_GR_faultOfPart_90 (by decide) ?_
              exact W.iret (v := 0) hx hb hr (fun t ht hW => ⟨⟨0, (pcnt, pfix, pown, pst, pen, pix), rfl, (by rw [tw_GR_faultOfPart, if_neg c_1, if_pos c_2, if_pos c_3, if_neg c_4, if_neg c_5, if_pos c_6]; first | done | rfl), by rw [ht]; exact hP, hD⟩, hS.F ht⟩) hS.2.2 d_GR_faultOfPart_94
            · refine lv_aload_n hx hb d_GR_faultOfPart_77 rfl (lv_at hl 2 rfl) ?_
              refine va_get (D := D) (ci := 7) (v := .ref aP) (C := R_GR) (T := T_GR) (N := 12) hx hb hT u_GR hown hK hP 0 rfl rfl 2 (by decide) (hT _ k_214) (fun _ h9 => h9) rfl d_GR_faultOfPart_78 ?_
              refine lv_iload hx hb d_GR_faultOfPart_81 (lv_at hl 1 rfl) ?_
              refine mt_Vi (As := [.int (tw_GR_toldBy b p2)]) (rest := []) (wr := [(aU, .inr (7, [.ref aS, .ref aY, .ref aP, .ref aGk, .ref aGh, .ref aGf, .ref aGl, .ref aGn, .int ngr, .ref aGv, .int held, .long gsum]))]) ⟨hx, hb, hml, hown, hT⟩ (c_PA_readExpression l D cB cI aP aS aV aPs aPe aPi aPh aPl aPn aB plc psr pbs pms b _ pcnt pfix pown pst pen pix (tw_GR_toldBy b p2)) (cwV 1 hT (gV_of k_722 k_566 k_567 k_7 kc_PA_readExpression) rfl rfl rfl hd_PA_readExpression ⟨Nat.le_of_ble_eq_true rfl, Nat.le_of_ble_eq_true rfl⟩) hk hP hD hS hA [3, 1, 2, 4, 5, 6] [0] rfl rfl rfl (by decide) (by decide) (by decide) (q0 := 0) rfl rfl rfl rfl hl.1 rfl (Nat.le_of_ble_eq_true rfl) d_GR_faultOfPart_83 ⟨Nat.zero_le _, Nat.zero_le _⟩ (fun r_7 u_7 H locs hw_7 hP hD hS => ?_)
              obtain ⟨pcnt_7, pfix_7, pown_7, pst_7, pen_7, pix_7⟩ := u_7
              obtain ⟨r_7, rfl, hw_7⟩ := hw_7
              have hP : va_P D vwCl [(aU, .inr (7, [.ref aS, .ref aY, .ref aP, .ref aGk, .ref aGh, .ref aGf, .ref aGl, .ref aGn, .int ngr, .ref aGv, .int held, .long gsum])), (aS, .inr (0, [.ref aB])), (aB, .inl (cB, 202000, .inl (by_ b))), (aP, .inr (5, [.ref aS, .ref aV, .ref aPs, .ref aPe, .ref aPi, .ref aPh, .int pcnt_7, .int (b2i pfix_7), .int pown_7, .ref aPl, .ref aPn, .int plc, .int psr, .int pbs, .int (b2i pms)])), (aPs, .inl (cI, 8, .inl pst_7)), (aPe, .inl (cI, 8, .inl pen_7)), (aPi, .inl (cI, 8, .inl pix_7))] H := hP.sub [0, 2, 3, 1, 4, 5, 6] rfl
              have hD : va_D A [(aU, .inr (7, [.ref aS, .ref aY, .ref aP, .ref aGk, .ref aGh, .ref aGf, .ref aGl, .ref aGn, .int ngr, .ref aGv, .int held, .long gsum])), (aS, .inr (0, [.ref aB])), (aB, .inl (cB, 202000, .inl (by_ b))), (aP, .inr (5, [.ref aS, .ref aV, .ref aPs, .ref aPe, .ref aPi, .ref aPh, .int pcnt_7, .int (b2i pfix_7), .int pown_7, .ref aPl, .ref aPn, .int plc, .int psr, .int pbs, .int (b2i pms)])), (aPs, .inl (cI, 8, .inl pst_7)), (aPe, .inl (cI, 8, .inl pen_7)), (aPi, .inl (cI, 8, .inl pix_7))] := hD.sub [0, 2, 3, 1, 4, 5, 6] (by decide) rfl
              refine lv_if_eq (tgt := 93) hx hb d_GR_faultOfPart_86 (by decide) (fun c_8 => ?_) (fun c_8 => ?_)
              · refine lv_iconst (v := 3) hx hb d_GR_faultOfPart_93 (by decide) ?_
                exact W.iret (v := 3) hx hb hr (fun t ht hW => ⟨⟨3, (pcnt_7, pfix_7, pown_7, pst_7, pen_7, pix_7), rfl, (by rw [tw_GR_faultOfPart, if_neg c_1, if_pos c_2, if_pos c_3, if_neg c_4, if_neg c_5, if_neg c_6, ← hw_7, tp7_mk, if_pos c_8]; first | done | rfl), by rw [ht]; exact hP, hD⟩, hS.F ht⟩) hS.2.2 d_GR_faultOfPart_94
              · refine lv_iconst (v := 0) hx hb d_GR_faultOfPart_89 (by decide) ?_
                refine lv_goto (tgt := 94) hx hb d_GR_faultOfPart_90 (by decide) ?_
                exact W.iret (v := 0) hx hb hr (fun t ht hW => ⟨⟨0, (pcnt_7, pfix_7, pown_7, pst_7, pen_7, pix_7), rfl, (by rw [tw_GR_faultOfPart, if_neg c_1, if_pos c_2, if_pos c_3, if_neg c_4, if_neg c_5, if_neg c_6, ← hw_7, tp7_mk, if_neg c_8]; first | done | rfl), by rw [ht]; exact hP, hD⟩, hS.F ht⟩) hS.2.2 d_GR_faultOfPart_94
          · refine lv_iload hx hb d_GR_faultOfPart_59 (lv_at hl 1 rfl) ?_
            refine rd_S (val := tw_ST_kindOf (tw_GR_toldBy b p2)) (As := [.int (tw_GR_toldBy b p2)]) (rest := []) ⟨hx, hb, hml, hown, hT⟩ (c_ST_kindOf l D cB cI (tw_GR_toldBy b p2)) (va_cwS 1 hT (gS_of k_711 k_555 k_2 kc_ST_kindOf) rfl rfl rfl hd_ST_kindOf ⟨Nat.le_of_ble_eq_true rfl, Nat.le_of_ble_eq_true rfl⟩) hk (va_P_nil) rfl hl.1 rfl (Nat.le_of_ble_eq_true rfl) d_GR_faultOfPart_61 ⟨Nat.zero_le _, Nat.zero_le _⟩ ?_
            refine lv_bipush (v := 10) hx hb d_GR_faultOfPart_64 (by decide) ?_
            refine lv_icmp_eq (tgt := 71) hx hb d_GR_faultOfPart_66 (by decide) (fun c_9 => ?_) (fun c_9 => ?_)
            · refine lv_iload hx hb d_GR_faultOfPart_71 (lv_at hl 0 rfl) ?_
              refine lv_iconst (v := 1) hx hb d_GR_faultOfPart_73 (by decide) ?_
              refine lv_icmp_eq (tgt := 89) hx hb d_GR_faultOfPart_74 (by decide) (fun c_10 => ?_) (fun c_10 => ?_)
              · refine lv_iconst (v := 0) hx hb d_GR_faultOfPart_89 (by decide) ?_
                refine lv_goto (tgt := 94) hx hb d_GR_faultOfPart_90 (by decide) ?_
                exact W.iret (v := 0) hx hb hr (fun t ht hW => ⟨⟨0, (pcnt, pfix, pown, pst, pen, pix), rfl, (by rw [tw_GR_faultOfPart, if_neg c_1, if_pos c_2, if_pos c_3, if_neg c_4, if_pos c_5, if_pos c_9, if_pos c_10]; first | done | rfl), by rw [ht]; exact hP, hD⟩, hS.F ht⟩) hS.2.2 d_GR_faultOfPart_94
              · refine lv_aload_n hx hb d_GR_faultOfPart_77 rfl (lv_at hl 2 rfl) ?_
                refine va_get (D := D) (ci := 7) (v := .ref aP) (C := R_GR) (T := T_GR) (N := 12) hx hb hT u_GR hown hK hP 0 rfl rfl 2 (by decide) (hT _ k_214) (fun _ h9 => h9) rfl d_GR_faultOfPart_78 ?_
                refine lv_iload hx hb d_GR_faultOfPart_81 (lv_at hl 1 rfl) ?_
                refine mt_Vi (As := [.int (tw_GR_toldBy b p2)]) (rest := []) (wr := [(aU, .inr (7, [.ref aS, .ref aY, .ref aP, .ref aGk, .ref aGh, .ref aGf, .ref aGl, .ref aGn, .int ngr, .ref aGv, .int held, .long gsum]))]) ⟨hx, hb, hml, hown, hT⟩ (c_PA_readExpression l D cB cI aP aS aV aPs aPe aPi aPh aPl aPn aB plc psr pbs pms b _ pcnt pfix pown pst pen pix (tw_GR_toldBy b p2)) (cwV 1 hT (gV_of k_722 k_566 k_567 k_7 kc_PA_readExpression) rfl rfl rfl hd_PA_readExpression ⟨Nat.le_of_ble_eq_true rfl, Nat.le_of_ble_eq_true rfl⟩) hk hP hD hS hA [3, 1, 2, 4, 5, 6] [0] rfl rfl rfl (by decide) (by decide) (by decide) (q0 := 0) rfl rfl rfl rfl hl.1 rfl (Nat.le_of_ble_eq_true rfl) d_GR_faultOfPart_83 ⟨Nat.zero_le _, Nat.zero_le _⟩ (fun r_11 u_11 H locs hw_11 hP hD hS => ?_)
                obtain ⟨pcnt_11, pfix_11, pown_11, pst_11, pen_11, pix_11⟩ := u_11
                obtain ⟨r_11, rfl, hw_11⟩ := hw_11
                have hP : va_P D vwCl [(aU, .inr (7, [.ref aS, .ref aY, .ref aP, .ref aGk, .ref aGh, .ref aGf, .ref aGl, .ref aGn, .int ngr, .ref aGv, .int held, .long gsum])), (aS, .inr (0, [.ref aB])), (aB, .inl (cB, 202000, .inl (by_ b))), (aP, .inr (5, [.ref aS, .ref aV, .ref aPs, .ref aPe, .ref aPi, .ref aPh, .int pcnt_11, .int (b2i pfix_11), .int pown_11, .ref aPl, .ref aPn, .int plc, .int psr, .int pbs, .int (b2i pms)])), (aPs, .inl (cI, 8, .inl pst_11)), (aPe, .inl (cI, 8, .inl pen_11)), (aPi, .inl (cI, 8, .inl pix_11))] H := hP.sub [0, 2, 3, 1, 4, 5, 6] rfl
                have hD : va_D A [(aU, .inr (7, [.ref aS, .ref aY, .ref aP, .ref aGk, .ref aGh, .ref aGf, .ref aGl, .ref aGn, .int ngr, .ref aGv, .int held, .long gsum])), (aS, .inr (0, [.ref aB])), (aB, .inl (cB, 202000, .inl (by_ b))), (aP, .inr (5, [.ref aS, .ref aV, .ref aPs, .ref aPe, .ref aPi, .ref aPh, .int pcnt_11, .int (b2i pfix_11), .int pown_11, .ref aPl, .ref aPn, .int plc, .int psr, .int pbs, .int (b2i pms)])), (aPs, .inl (cI, 8, .inl pst_11)), (aPe, .inl (cI, 8, .inl pen_11)), (aPi, .inl (cI, 8, .inl pix_11))] := hD.sub [0, 2, 3, 1, 4, 5, 6] (by decide) rfl
                refine lv_if_eq (tgt := 93) hx hb d_GR_faultOfPart_86 (by decide) (fun c_12 => ?_) (fun c_12 => ?_)
                · refine lv_iconst (v := 3) hx hb d_GR_faultOfPart_93 (by decide) ?_
                  exact W.iret (v := 3) hx hb hr (fun t ht hW => ⟨⟨3, (pcnt_11, pfix_11, pown_11, pst_11, pen_11, pix_11), rfl, (by rw [tw_GR_faultOfPart, if_neg c_1, if_pos c_2, if_pos c_3, if_neg c_4, if_pos c_5, if_pos c_9, if_neg c_10, ← hw_11, tp7_mk, if_pos c_12]; first | done | rfl), by rw [ht]; exact hP, hD⟩, hS.F ht⟩) hS.2.2 d_GR_faultOfPart_94
                · refine lv_iconst (v := 0) hx hb d_GR_faultOfPart_89 (by decide) ?_
                  refine lv_goto (tgt := 94) hx hb d_GR_faultOfPart_90 (by decide) ?_
                  exact W.iret (v := 0) hx hb hr (fun t ht hW => ⟨⟨0, (pcnt_11, pfix_11, pown_11, pst_11, pen_11, pix_11), rfl, (by rw [tw_GR_faultOfPart, if_neg c_1, if_pos c_2, if_pos c_3, if_neg c_4, if_pos c_5, if_pos c_9, if_neg c_10, ← hw_11, tp7_mk, if_neg c_12]; first | done | rfl), by rw [ht]; exact hP, hD⟩, hS.F ht⟩) hS.2.2 d_GR_faultOfPart_94
            · refine lv_iconst (v := 2) hx hb d_GR_faultOfPart_69 (by decide) ?_
              exact W.iret (v := 2) hx hb hr (fun t ht hW => ⟨⟨2, (pcnt, pfix, pown, pst, pen, pix), rfl, (by rw [tw_GR_faultOfPart, if_neg c_1, if_pos c_2, if_pos c_3, if_neg c_4, if_pos c_5, if_neg c_9]; first | done | rfl), by rw [ht]; exact hP, hD⟩, hS.F ht⟩) hS.2.2 d_GR_faultOfPart_70
      · refine lv_iconst (v := 2) hx hb d_GR_faultOfPart_32 (by decide) ?_
        exact W.iret (v := 2) hx hb hr (fun t ht hW => ⟨⟨2, (pcnt, pfix, pown, pst, pen, pix), rfl, (by rw [tw_GR_faultOfPart, if_neg c_1, if_pos c_2, if_neg c_3]; first | done | rfl), by rw [ht]; exact hP, hD⟩, hS.F ht⟩) hS.2.2 d_GR_faultOfPart_33
abbrev wd_GR_faultOf (aU aS aY aP aGk aGh aGf aGl aGn aGv aB aV aPs aPe aPi aPh aPl aPn : Nat) (cB cI : ClassId) (ngr : Int32) (held : Int32) (gsum : Int64) (b : Nat → UInt8) (plc : Int32) (psr : Int32) (pbs : Int32) (pms : Bool) (pcnt : Int32) (pfix : Bool) (pown : Int32) (pst : Nat → Int32) (pen : Nat → Int32) (pix : Nat → Int32) : va_W := [(aU, .inr (7, [.ref aS, .ref aY, .ref aP, .ref aGk, .ref aGh, .ref aGf, .ref aGl, .ref aGn, .int ngr, .ref aGv, .int held, .long gsum])), (aS, .inr (0, [.ref aB])), (aB, .inl (cB, 202000, .inl (by_ b))), (aP, .inr (5, [.ref aS, .ref aV, .ref aPs, .ref aPe, .ref aPi, .ref aPh, .int pcnt, .int (b2i pfix), .int pown, .ref aPl, .ref aPn, .int plc, .int psr, .int pbs, .int (b2i pms)])), (aPs, .inl (cI, 8, .inl pst)), (aPe, .inl (cI, 8, .inl pen)), (aPi, .inl (cI, 8, .inl pix))]
set_option maxHeartbeats 4000000 in
set_option maxRecDepth 100000 in
theorem l_GR_faultOf_h43 {p : Program} {e : Env} {s : State} {m : MethodId} {args : Array Value} {below : List Frame} {meth : Method} {c : Code} {V : Int32 × Int32 × Bool × Int32 × (Nat → Int32) × (Nat → Int32) × (Nat → Int32)} (C0 : lc_C p s m meth c args b_GR_faultOf 8 (some .int) R_GR lw_g) (l : Launch) (D : va_G) (cB cI : ClassId) (aU aS aY aP aGk aGh aGf aGl aGn aGv aB aV aPs aPe aPi aPh aPl aPn : Nat) (ngr : Int32) (held : Int32) (gsum : Int64) (b : Nat → UInt8) (plc : Int32) (psr : Int32) (pbs : Int32) (pms : Bool) {A : Nat → Prop} (hk : hk_ D cB cI s) (hA : ∀ q : Nat, s.heap.size ≤ q → A q) (hz : sk_ D s s.heap) (hzs : D.2 100 0 ≤ s.heap.size) (hAz : ∀ q, A q → D.2 100 0 ≤ q) (x2 : Int32) : ∀ (n : Nat) (x3 : Int32) (x4 : Int32) (pcnt : Int32) (pfix : Bool) (pown : Int32) (pst : Nat → Int32) (pen : Nat → Int32) (pix : Nat → Int32), ((1000 : Int32).toInt - x4.toInt).toNat < n → V = tw_GR_faultOf_h43 b x2 n x3 x4 pcnt pfix pown pst pen pix → ∀ (H : Heap) (locs : List Loc), va_P D vwCl [(aU, .inr (7, [.ref aS, .ref aY, .ref aP, .ref aGk, .ref aGh, .ref aGf, .ref aGl, .ref aGn, .int ngr, .ref aGv, .int held, .long gsum])), (aS, .inr (0, [.ref aB])), (aB, .inl (cB, 202000, .inl (by_ b))), (aP, .inr (5, [.ref aS, .ref aV, .ref aPs, .ref aPe, .ref aPi, .ref aPh, .int pcnt, .int (b2i pfix), .int pown, .ref aPl, .ref aPn, .int plc, .int psr, .int pbs, .int (b2i pms)])), (aPs, .inl (cI, 8, .inl pst)), (aPe, .inl (cI, 8, .inl pen)), (aPi, .inl (cI, 8, .inl pix))] H → va_D A [(aU, .inr (7, [.ref aS, .ref aY, .ref aP, .ref aGk, .ref aGh, .ref aGf, .ref aGl, .ref aGn, .int ngr, .ref aGv, .int held, .long gsum])), (aS, .inr (0, [.ref aB])), (aB, .inl (cB, 202000, .inl (by_ b))), (aP, .inr (5, [.ref aS, .ref aV, .ref aPs, .ref aPe, .ref aPi, .ref aPh, .int pcnt, .int (b2i pfix), .int pown, .ref aPl, .ref aPn, .int plc, .int psr, .int pbs, .int (b2i pms)])), (aPs, .inl (cI, 8, .inl pst)), (aPe, .inl (cI, 8, .inl pen)), (aPi, .inl (cI, 8, .inl pix))] → va_S A s.heap H locs → ∀ ls : Array Slot, lv_has ls 8 [(0, .ref aU), (2, .int x2), (3, .int x3), (4, .int x4)] → W p l e ({ frames := 7, cells := 0, slots := 0, locals := 159 }) s m args below meth c H locs 0 0 (MQ below (va_Qi (fun (r : Int32) (u : Int32 × Bool × Int32 × (Nat → Int32) × (Nat → Int32) × (Nat → Int32)) => (r, u) = V) (mt_B D A (fun u => wd_GR_faultOf aU aS aY aP aGk aGh aGf aGl aGn aGv aB aV aPs aPe aPi aPh aPl aPn cB cI ngr held gsum b plc psr pbs pms u.1 u.2.1 u.2.2.1 u.2.2.2.1 u.2.2.2.2.1 u.2.2.2.2.2)) A) args s 0 0 A) (F0 m 43 ls []) := by
  obtain ⟨hx, hb, hml, hr, hown, hlocks, hT⟩ := id C0
  have hK := hk.1
  have hN := hk.2.1
  intro n
  induction n with
  | zero =>
    intro x3 x4 pcnt pfix pown pst pen pix hm
    exact absurd hm (Nat.not_lt_zero _)
  | succ n ih =>
    intro x3 x4 pcnt pfix pown pst pen pix hm hV H locs hP hD hS ls hl
    refine lv_iload hx hb d_GR_faultOf_43 (lv_at hl 3 rfl) ?_
    refine lv_sipush (v := 1000) hx hb d_GR_faultOf_45 (by decide) ?_
    refine lv_icmp_ge (tgt := 131) hx hb d_GR_faultOf_48 (by decide) (fun c_3 => ?_) (fun c_3 => ?_)
    · refine lv_iconst (v := 0) hx hb d_GR_faultOf_131 (by decide) ?_
      exact W.iret (v := 0) hx hb hr (fun t ht hW => ⟨⟨0, (pcnt, pfix, pown, pst, pen, pix), rfl, (by rw [hV, tw_GR_faultOf_h43, if_pos c_3]; first | done | rfl), by rw [ht]; exact hP, hD⟩, hS.F ht⟩) hS.2.2 d_GR_faultOf_132
    · refine lv_iload_n hx hb d_GR_faultOf_51 rfl (lv_at hl 2 rfl) ?_
      refine lv_iload_n hx hb d_GR_faultOf_52 rfl (lv_at hl 1 rfl) ?_
      refine lv_icmp_ge (tgt := 131) hx hb d_GR_faultOf_53 (by decide) (fun c_4 => ?_) (fun c_4 => ?_)
      · refine lv_iconst (v := 0) hx hb d_GR_faultOf_131 (by decide) ?_
        exact W.iret (v := 0) hx hb hr (fun t ht hW => ⟨⟨0, (pcnt, pfix, pown, pst, pen, pix), rfl, (by rw [hV, tw_GR_faultOf_h43, if_neg c_3, if_pos c_4]; first | done | rfl), by rw [ht]; exact hP, hD⟩, hS.F ht⟩) hS.2.2 d_GR_faultOf_132
      · refine lv_aload_n hx hb d_GR_faultOf_56 rfl (lv_at hl 0 rfl) ?_
        refine va_get (D := D) (ci := 7) (v := .ref aS) (C := R_GR) (T := T_GR) (N := 12) hx hb hT u_GR hown hK hP 0 rfl rfl 0 (by decide) (hT _ k_212) (fun _ h9 => h9) rfl d_GR_faultOf_57 ?_
        refine lv_iload_n hx hb d_GR_faultOf_60 rfl (lv_at hl 2 rfl) ?_
        refine rd_V (val := tw_ST_valueOf b x3) (As := [.int x3]) (rest := []) ⟨hx, hb, hml, hown, hT⟩ (c_ST_valueOf l D cB cI aS aB b x3) (cwV 1 hT (gV_of k_715 k_399 k_400 k_2 kc_ST_valueOf) rfl rfl rfl hd_ST_valueOf ⟨Nat.le_of_ble_eq_true rfl, Nat.le_of_ble_eq_true rfl⟩) hk (hP.sub (ws' := [(aS, .inr (0, [.ref aB])), (aB, .inl (cB, 202000, .inl (by_ b)))]) [1, 2] rfl) (q0 := 0) rfl rfl rfl rfl hl.1 rfl (Nat.le_of_ble_eq_true rfl) d_GR_faultOf_61 ⟨Nat.zero_le _, Nat.zero_le _⟩ ?_
        refine lv_istore (lv' := [(5, .int (tw_ST_valueOf b x3)), (0, .ref aU), (2, .int x2), (3, .int x3), (4, .int x4)]) hx hb d_GR_faultOf_64 hl (by decide) rfl (fun ls hl => ?_)
        refine lv_iload hx hb d_GR_faultOf_66 (lv_at hl 0 rfl) ?_
        refine rd_S (val := tw_ST_placeOf (tw_ST_valueOf b x3)) (As := [.int (tw_ST_valueOf b x3)]) (rest := []) ⟨hx, hb, hml, hown, hT⟩ (c_ST_placeOf l D cB cI (tw_ST_valueOf b x3)) (va_cwS 1 hT (gS_of k_714 k_403 k_2 kc_ST_placeOf) rfl rfl rfl hd_ST_placeOf ⟨Nat.le_of_ble_eq_true rfl, Nat.le_of_ble_eq_true rfl⟩) hk (va_P_nil) rfl hl.1 rfl (Nat.le_of_ble_eq_true rfl) d_GR_faultOf_68 ⟨Nat.zero_le _, Nat.zero_le _⟩ ?_
        refine lv_iconst (v := 1) hx hb d_GR_faultOf_71 (by decide) ?_
        refine lv_isub hx hb d_GR_faultOf_72 ?_
        refine lv_istore (lv' := [(6, .int ((tw_ST_placeOf (tw_ST_valueOf b x3)) - 1)), (5, .int (tw_ST_valueOf b x3)), (0, .ref aU), (2, .int x2), (3, .int x3), (4, .int x4)]) hx hb d_GR_faultOf_73 hl (by decide) rfl (fun ls hl => ?_)
        refine lv_iload hx hb d_GR_faultOf_75 (lv_at hl 5 rfl) ?_
        refine lv_if_ne (tgt := 94) hx hb d_GR_faultOf_77 (by decide) (fun c_5 => ?_) (fun c_5 => ?_)
        · refine lv_aload_n hx hb d_GR_faultOf_94 rfl (lv_at hl 2 rfl) ?_
          refine lv_iload_n hx hb d_GR_faultOf_95 rfl (lv_at hl 4 rfl) ?_
          refine lv_iconst (v := 1) hx hb d_GR_faultOf_96 (by decide) ?_
          refine lv_iadd hx hb d_GR_faultOf_97 ?_
          refine lv_iload hx hb d_GR_faultOf_98 (lv_at hl 0 rfl) ?_
          refine lv_iload hx hb d_GR_faultOf_100 (lv_at hl 1 rfl) ?_
          refine mt_Vis (As := [.int (x3 + 1), .int ((tw_ST_placeOf (tw_ST_valueOf b x3)) - 1), .int (tw_ST_valueOf b x3)]) (rest := []) (wr := []) ⟨hx, hb, hml, hown, hT⟩ (c_GR_faultOfPart l D cB cI aU aS aY aP aGk aGh aGf aGl aGn aGv aB aV aPs aPe aPi aPh aPl aPn ngr held gsum b plc psr pbs pms _ pcnt pfix pown pst pen pix (x3 + 1) ((tw_ST_placeOf (tw_ST_valueOf b x3)) - 1) (tw_ST_valueOf b x3)) (cwV 3 hT (gV_of k_723 k_725 kp_GR_faultOfPart k_9 kc_GR_faultOfPart) rfl rfl rfl hd_GR_faultOfPart ⟨Nat.le_of_ble_eq_true rfl, Nat.le_of_ble_eq_true rfl⟩) hk hP hD hS hA hz hzs hAz [0, 1, 2, 3, 4, 5, 6] [] rfl rfl rfl (by decide) (by decide) (by decide) (q0 := 0) rfl rfl rfl rfl hl.1 rfl (Nat.le_of_ble_eq_true rfl) d_GR_faultOf_102 ⟨Nat.zero_le _, Nat.zero_le _⟩ (fun r_6 u_6 H locs hw_6 hP hD hS => ?_)
          obtain ⟨pcnt_6, pfix_6, pown_6, pst_6, pen_6, pix_6⟩ := u_6
          have hP : va_P D vwCl [(aU, .inr (7, [.ref aS, .ref aY, .ref aP, .ref aGk, .ref aGh, .ref aGf, .ref aGl, .ref aGn, .int ngr, .ref aGv, .int held, .long gsum])), (aS, .inr (0, [.ref aB])), (aB, .inl (cB, 202000, .inl (by_ b))), (aP, .inr (5, [.ref aS, .ref aV, .ref aPs, .ref aPe, .ref aPi, .ref aPh, .int pcnt_6, .int (b2i pfix_6), .int pown_6, .ref aPl, .ref aPn, .int plc, .int psr, .int pbs, .int (b2i pms)])), (aPs, .inl (cI, 8, .inl pst_6)), (aPe, .inl (cI, 8, .inl pen_6)), (aPi, .inl (cI, 8, .inl pix_6))] H := hP.sub [0, 1, 2, 3, 4, 5, 6] rfl
          have hD : va_D A [(aU, .inr (7, [.ref aS, .ref aY, .ref aP, .ref aGk, .ref aGh, .ref aGf, .ref aGl, .ref aGn, .int ngr, .ref aGv, .int held, .long gsum])), (aS, .inr (0, [.ref aB])), (aB, .inl (cB, 202000, .inl (by_ b))), (aP, .inr (5, [.ref aS, .ref aV, .ref aPs, .ref aPe, .ref aPi, .ref aPh, .int pcnt_6, .int (b2i pfix_6), .int pown_6, .ref aPl, .ref aPn, .int plc, .int psr, .int pbs, .int (b2i pms)])), (aPs, .inl (cI, 8, .inl pst_6)), (aPe, .inl (cI, 8, .inl pen_6)), (aPi, .inl (cI, 8, .inl pix_6))] := hD.sub [0, 1, 2, 3, 4, 5, 6] (by decide) rfl
          refine lv_istore (lv' := [(7, .int r_6), (6, .int ((tw_ST_placeOf (tw_ST_valueOf b x3)) - 1)), (5, .int (tw_ST_valueOf b x3)), (0, .ref aU), (2, .int x2), (3, .int x3), (4, .int x4)]) hx hb d_GR_faultOf_105 hl (by decide) rfl (fun ls hl => ?_)
          refine lv_iload hx hb d_GR_faultOf_107 (lv_at hl 0 rfl) ?_
          refine lv_if_eq (tgt := 115) hx hb d_GR_faultOf_109 (by decide) (fun c_7 => ?_) (fun c_7 => ?_)
          · refine lv_aload_n hx hb d_GR_faultOf_115 rfl (lv_at hl 3 rfl) ?_
            refine va_get (D := D) (ci := 7) (v := .ref aS) (C := R_GR) (T := T_GR) (N := 12) hx hb hT u_GR hown hK hP 0 rfl rfl 0 (by decide) (hT _ k_212) (fun _ h9 => h9) rfl d_GR_faultOf_116 ?_
            refine lv_iload hx hb d_GR_faultOf_119 (lv_at hl 2 rfl) ?_
            refine rd_V (val := tw_ST_endOf b (tw_ST_valueOf b x3)) (As := [.int (tw_ST_valueOf b x3)]) (rest := []) ⟨hx, hb, hml, hown, hT⟩ (c_ST_endOf l D cB cI aS aB b (tw_ST_valueOf b x3)) (cwV 1 hT (gV_of k_713 k_416 k_417 k_2 kc_ST_endOf) rfl rfl rfl hd_ST_endOf ⟨Nat.le_of_ble_eq_true rfl, Nat.le_of_ble_eq_true rfl⟩) hk (hP.sub (ws' := [(aS, .inr (0, [.ref aB])), (aB, .inl (cB, 202000, .inl (by_ b)))]) [1, 2] rfl) (q0 := 0) rfl rfl rfl rfl hl.1 rfl (Nat.le_of_ble_eq_true rfl) d_GR_faultOf_121 ⟨Nat.zero_le _, Nat.zero_le _⟩ ?_
            refine lv_istore_n (lv' := [(3, .int (tw_ST_endOf b (tw_ST_valueOf b x3))), (7, .int r_6), (6, .int ((tw_ST_placeOf (tw_ST_valueOf b x3)) - 1)), (5, .int (tw_ST_valueOf b x3)), (0, .ref aU), (2, .int x2), (4, .int x4)]) hx hb d_GR_faultOf_124 rfl hl (by decide) rfl (fun ls hl => ?_)
            refine lv_iinc (v := x4 + 1) (lv' := [(4, .int (x4 + 1)), (3, .int (tw_ST_endOf b (tw_ST_valueOf b x3))), (7, .int r_6), (6, .int ((tw_ST_placeOf (tw_ST_valueOf b x3)) - 1)), (5, .int (tw_ST_valueOf b x3)), (0, .ref aU), (2, .int x2)]) hx hb d_GR_faultOf_125 hl (k := 6) rfl rfl (by decide) rfl (fun ls hl => ?_)
            refine lv_goto (tgt := 43) hx hb d_GR_faultOf_128 (by decide) ?_
            exact ih (tw_ST_endOf b (tw_ST_valueOf b x3)) (x4 + 1) pcnt_6 pfix_6 pown_6 pst_6 pen_6 pix_6 (lp_up hm c_3) (by rw [hV, tw_GR_faultOf_h43, if_neg c_3, if_neg c_4, if_neg c_5, ← hw_6, tp7_mk, if_pos c_7]) _ _ hP hD hS ls (lv_sub hl [5, 6, 1, 0] rfl)
          · refine lv_iload hx hb d_GR_faultOf_112 (lv_at hl 0 rfl) ?_
            exact W.iret (v := r_6) hx hb hr (fun t ht hW => ⟨⟨r_6, (pcnt_6, pfix_6, pown_6, pst_6, pen_6, pix_6), rfl, (by rw [hV, tw_GR_faultOf_h43, if_neg c_3, if_neg c_4, if_neg c_5, ← hw_6, tp7_mk, if_neg c_7]; first | done | rfl), by rw [ht]; exact hP, hD⟩, hS.F ht⟩) hS.2.2 d_GR_faultOf_114
        · refine lv_aload_n hx hb d_GR_faultOf_80 rfl (lv_at hl 2 rfl) ?_
          refine lv_iload_n hx hb d_GR_faultOf_81 rfl (lv_at hl 4 rfl) ?_
          refine lv_iconst (v := 1) hx hb d_GR_faultOf_82 (by decide) ?_
          refine lv_iadd hx hb d_GR_faultOf_83 ?_
          refine lv_iload hx hb d_GR_faultOf_84 (lv_at hl 0 rfl) ?_
          refine lv_iload hx hb d_GR_faultOf_86 (lv_at hl 1 rfl) ?_
          refine mt_Vis (As := [.int (x3 + 1), .int ((tw_ST_placeOf (tw_ST_valueOf b x3)) - 1), .int (tw_ST_valueOf b x3)]) (rest := []) (wr := []) ⟨hx, hb, hml, hown, hT⟩ (c_GR_faultOfKey l D cB cI aU aS aY aP aGk aGh aGf aGl aGn aGv aB aV aPs aPe aPi aPh aPl aPn ngr held gsum b plc psr pbs pms _ pcnt pfix pown pst pen pix (x3 + 1) ((tw_ST_placeOf (tw_ST_valueOf b x3)) - 1) (tw_ST_valueOf b x3)) (cwV 3 hT (gV_of k_716 k_718 kp_GR_faultOfKey k_9 kc_GR_faultOfKey) rfl rfl rfl hd_GR_faultOfKey ⟨Nat.le_of_ble_eq_true rfl, Nat.le_of_ble_eq_true rfl⟩) hk hP hD hS hA hz hzs hAz [0, 1, 2, 3, 4, 5, 6] [] rfl rfl rfl (by decide) (by decide) (by decide) (q0 := 0) rfl rfl rfl rfl hl.1 rfl (Nat.le_of_ble_eq_true rfl) d_GR_faultOf_88 ⟨Nat.zero_le _, Nat.zero_le _⟩ (fun r_8 u_8 H locs hw_8 hP hD hS => ?_)
          obtain ⟨pcnt_8, pfix_8, pown_8, pst_8, pen_8, pix_8⟩ := u_8
          have hP : va_P D vwCl [(aU, .inr (7, [.ref aS, .ref aY, .ref aP, .ref aGk, .ref aGh, .ref aGf, .ref aGl, .ref aGn, .int ngr, .ref aGv, .int held, .long gsum])), (aS, .inr (0, [.ref aB])), (aB, .inl (cB, 202000, .inl (by_ b))), (aP, .inr (5, [.ref aS, .ref aV, .ref aPs, .ref aPe, .ref aPi, .ref aPh, .int pcnt_8, .int (b2i pfix_8), .int pown_8, .ref aPl, .ref aPn, .int plc, .int psr, .int pbs, .int (b2i pms)])), (aPs, .inl (cI, 8, .inl pst_8)), (aPe, .inl (cI, 8, .inl pen_8)), (aPi, .inl (cI, 8, .inl pix_8))] H := hP.sub [0, 1, 2, 3, 4, 5, 6] rfl
          have hD : va_D A [(aU, .inr (7, [.ref aS, .ref aY, .ref aP, .ref aGk, .ref aGh, .ref aGf, .ref aGl, .ref aGn, .int ngr, .ref aGv, .int held, .long gsum])), (aS, .inr (0, [.ref aB])), (aB, .inl (cB, 202000, .inl (by_ b))), (aP, .inr (5, [.ref aS, .ref aV, .ref aPs, .ref aPe, .ref aPi, .ref aPh, .int pcnt_8, .int (b2i pfix_8), .int pown_8, .ref aPl, .ref aPn, .int plc, .int psr, .int pbs, .int (b2i pms)])), (aPs, .inl (cI, 8, .inl pst_8)), (aPe, .inl (cI, 8, .inl pen_8)), (aPi, .inl (cI, 8, .inl pix_8))] := hD.sub [0, 1, 2, 3, 4, 5, 6] (by decide) rfl
          refine lv_goto (tgt := 105) hx hb d_GR_faultOf_91 (by decide) ?_
          refine lv_istore (lv' := [(7, .int r_8), (6, .int ((tw_ST_placeOf (tw_ST_valueOf b x3)) - 1)), (5, .int (tw_ST_valueOf b x3)), (0, .ref aU), (2, .int x2), (3, .int x3), (4, .int x4)]) hx hb d_GR_faultOf_105 hl (by decide) rfl (fun ls hl => ?_)
          refine lv_iload hx hb d_GR_faultOf_107 (lv_at hl 0 rfl) ?_
          refine lv_if_eq (tgt := 115) hx hb d_GR_faultOf_109 (by decide) (fun c_9 => ?_) (fun c_9 => ?_)
          · refine lv_aload_n hx hb d_GR_faultOf_115 rfl (lv_at hl 3 rfl) ?_
            refine va_get (D := D) (ci := 7) (v := .ref aS) (C := R_GR) (T := T_GR) (N := 12) hx hb hT u_GR hown hK hP 0 rfl rfl 0 (by decide) (hT _ k_212) (fun _ h9 => h9) rfl d_GR_faultOf_116 ?_
            refine lv_iload hx hb d_GR_faultOf_119 (lv_at hl 2 rfl) ?_
            refine rd_V (val := tw_ST_endOf b (tw_ST_valueOf b x3)) (As := [.int (tw_ST_valueOf b x3)]) (rest := []) ⟨hx, hb, hml, hown, hT⟩ (c_ST_endOf l D cB cI aS aB b (tw_ST_valueOf b x3)) (cwV 1 hT (gV_of k_713 k_416 k_417 k_2 kc_ST_endOf) rfl rfl rfl hd_ST_endOf ⟨Nat.le_of_ble_eq_true rfl, Nat.le_of_ble_eq_true rfl⟩) hk (hP.sub (ws' := [(aS, .inr (0, [.ref aB])), (aB, .inl (cB, 202000, .inl (by_ b)))]) [1, 2] rfl) (q0 := 0) rfl rfl rfl rfl hl.1 rfl (Nat.le_of_ble_eq_true rfl) d_GR_faultOf_121 ⟨Nat.zero_le _, Nat.zero_le _⟩ ?_
            refine lv_istore_n (lv' := [(3, .int (tw_ST_endOf b (tw_ST_valueOf b x3))), (7, .int r_8), (6, .int ((tw_ST_placeOf (tw_ST_valueOf b x3)) - 1)), (5, .int (tw_ST_valueOf b x3)), (0, .ref aU), (2, .int x2), (4, .int x4)]) hx hb d_GR_faultOf_124 rfl hl (by decide) rfl (fun ls hl => ?_)
            refine lv_iinc (v := x4 + 1) (lv' := [(4, .int (x4 + 1)), (3, .int (tw_ST_endOf b (tw_ST_valueOf b x3))), (7, .int r_8), (6, .int ((tw_ST_placeOf (tw_ST_valueOf b x3)) - 1)), (5, .int (tw_ST_valueOf b x3)), (0, .ref aU), (2, .int x2)]) hx hb d_GR_faultOf_125 hl (k := 6) rfl rfl (by decide) rfl (fun ls hl => ?_)
            refine lv_goto (tgt := 43) hx hb d_GR_faultOf_128 (by decide) ?_
            exact ih (tw_ST_endOf b (tw_ST_valueOf b x3)) (x4 + 1) pcnt_8 pfix_8 pown_8 pst_8 pen_8 pix_8 (lp_up hm c_3) (by rw [hV, tw_GR_faultOf_h43, if_neg c_3, if_neg c_4, if_pos c_5, ← hw_8, tp7_mk, if_pos c_9]) _ _ hP hD hS ls (lv_sub hl [5, 6, 1, 0] rfl)
          · refine lv_iload hx hb d_GR_faultOf_112 (lv_at hl 0 rfl) ?_
            exact W.iret (v := r_8) hx hb hr (fun t ht hW => ⟨⟨r_8, (pcnt_8, pfix_8, pown_8, pst_8, pen_8, pix_8), rfl, (by rw [hV, tw_GR_faultOf_h43, if_neg c_3, if_neg c_4, if_pos c_5, ← hw_8, tp7_mk, if_neg c_9]; first | done | rfl), by rw [ht]; exact hP, hD⟩, hS.F ht⟩) hS.2.2 d_GR_faultOf_114
set_option maxHeartbeats 4000000 in
set_option maxRecDepth 100000 in
theorem c_GR_faultOf (l : Launch) (D : va_G) (cB cI : ClassId) (aU aS aY aP aGk aGh aGf aGl aGn aGv aB aV aPs aPe aPi aPh aPl aPn : Nat) (ngr : Int32) (held : Int32) (gsum : Int64) (b : Nat → UInt8) (plc : Int32) (psr : Int32) (pbs : Int32) (pms : Bool) (sz : Nat) (pcnt : Int32) (pfix : Bool) (pown : Int32) (pst : Nat → Int32) (pen : Nat → Int32) (pix : Nat → Int32) (p0 : Int32) : Met l y_GR_faultOf mw_GR_faultOf { frames := 7, cells := 0, slots := 0, locals := 159 } (va_Pc [.ref aU, .int p0] (mt_Ps D cB cI (wd_GR_faultOf aU aS aY aP aGk aGh aGf aGl aGn aGv aB aV aPs aPe aPi aPh aPl aPn cB cI ngr held gsum b plc psr pbs pms pcnt pfix pown pst pen pix) sz)) (va_Qi (fun (r : Int32) (u : Int32 × Bool × Int32 × (Nat → Int32) × (Nat → Int32) × (Nat → Int32)) => (r, u) = tw_GR_faultOf b pcnt pfix pown pst pen pix p0) (mt_B D (va_A (wd_GR_faultOf aU aS aY aP aGk aGh aGf aGl aGn aGv aB aV aPs aPe aPi aPh aPl aPn cB cI ngr held gsum b plc psr pbs pms pcnt pfix pown pst pen pix) sz) (fun u => wd_GR_faultOf aU aS aY aP aGk aGh aGf aGl aGn aGv aB aV aPs aPe aPi aPh aPl aPn cB cI ngr held gsum b plc psr pbs pms u.1 u.2.1 u.2.2.1 u.2.2.2.1 u.2.2.2.2.1 u.2.2.2.2.2)) (va_A (wd_GR_faultOf aU aS aY aP aGk aGh aGf aGl aGn aGv aB aV aPs aPe aPi aPh aPl aPn cB cI ngr held gsum b plc psr pbs pms pcnt pfix pown pst pen pix) sz)) 0 0 (va_A (wd_GR_faultOf aU aS aY aP aGk aGh aGf aGl aGn aGv aB aV aPs aPe aPi aPh aPl aPn cB cI ngr held gsum b plc psr pbs pms pcnt pfix pown pst pen pix) sz) := by
  refine Met.ofW (cc := b_GR_faultOf) (maxL := 8) (ret := (some .int)) (by decide) rfl ?_
  intro p e s m args below meth c s₁ B0 hml hv
  obtain ⟨rfl, hsz, hP, hk, hD0, hzs, hz⟩ := hv
  have hK := hk.1
  have hN := hk.2.1
  have hx := B0.exec
  have hb := B0.bytes
  have hr := B0.returns
  have hT : ∀ w ∈ lw_g, w.before _ s = true := fun w h => atoms_spec (ws := mw_GR_faultOf) B0.pre w (List.mem_cons_of_mem _ h)
  have hown : s.vm.findClass R_GR = some m.cls := findClass_of_methodNamed B0.named
  have hlocks := B0.notSynchronized
  subst hsz
  have hD := hD0.self (sz := s.heap.size)
  have hAz : ∀ q, va_A [(aU, .inr (7, [.ref aS, .ref aY, .ref aP, .ref aGk, .ref aGh, .ref aGf, .ref aGl, .ref aGn, .int ngr, .ref aGv, .int held, .long gsum])), (aS, .inr (0, [.ref aB])), (aB, .inl (cB, 202000, .inl (by_ b))), (aP, .inr (5, [.ref aS, .ref aV, .ref aPs, .ref aPe, .ref aPi, .ref aPh, .int pcnt, .int (b2i pfix), .int pown, .ref aPl, .ref aPn, .int plc, .int psr, .int pbs, .int (b2i pms)])), (aPs, .inl (cI, 8, .inl pst)), (aPe, .inl (cI, 8, .inl pen)), (aPi, .inl (cI, 8, .inl pix))] s.heap.size q → D.2 100 0 ≤ q := fun q h => h.elim (fun ⟨k, e, h⟩ => hD0.2 k _ h) (fun h => Nat.le_trans hzs h)
  generalize hAe : va_A [(aU, .inr (7, [.ref aS, .ref aY, .ref aP, .ref aGk, .ref aGh, .ref aGf, .ref aGl, .ref aGn, .int ngr, .ref aGv, .int held, .long gsum])), (aS, .inr (0, [.ref aB])), (aB, .inl (cB, 202000, .inl (by_ b))), (aP, .inr (5, [.ref aS, .ref aV, .ref aPs, .ref aPe, .ref aPi, .ref aPh, .int pcnt, .int (b2i pfix), .int pown, .ref aPl, .ref aPn, .int plc, .int psr, .int pbs, .int (b2i pms)])), (aPs, .inl (cI, 8, .inl pst)), (aPe, .inl (cI, 8, .inl pen)), (aPi, .inl (cI, 8, .inl pix))] s.heap.size = A at hD hAz ⊢
  have hA : ∀ q : Nat, s.heap.size ≤ q → A q := fun q h => by rw [← hAe]; exact Or.inr h
  have hS : va_S A s.heap s.heap [] := va_S.rf
  have hl := lv_entry ([.ref aU, .int p0]) (n := 8) (Nat.le_of_ble_eq_true rfl)
  rw [lg_entry_eq]
  generalize (lg_sl ([.ref aU, .int p0]) ++ List.replicate (8 - (lg_sl ([.ref aU, .int p0])).length) Slot.unset).toArray = ls at hl ⊢
  have hl : lv_has ls 8 [(0, .ref aU), (1, .int p0)] := hl
  have C0 : lc_C p s m meth c _ b_GR_faultOf 8 (some .int) R_GR lw_g := ⟨hx, hb, hml, hr, hown, hlocks, hT⟩
  refine lv_iload_n hx hb d_GR_faultOf_0 rfl (lv_at hl 1 rfl) ?_
  refine rd_S (val := tw_ST_kindOf p0) (As := [.int p0]) (rest := []) ⟨hx, hb, hml, hown, hT⟩ (c_ST_kindOf l D cB cI p0) (va_cwS 1 hT (gS_of k_711 k_555 k_2 kc_ST_kindOf) rfl rfl rfl hd_ST_kindOf ⟨Nat.le_of_ble_eq_true rfl, Nat.le_of_ble_eq_true rfl⟩) hk (va_P_nil) rfl hl.1 rfl (Nat.le_of_ble_eq_true rfl) d_GR_faultOf_1 ⟨Nat.zero_le _, Nat.zero_le _⟩ ?_
  refine lv_iconst (v := 3) hx hb d_GR_faultOf_4 (by decide) ?_
  refine lv_icmp_ne (tgt := 20) hx hb d_GR_faultOf_5 (by decide) (fun c_1 => ?_) (fun c_1 => ?_)
  · refine lv_iconst (v := 2) hx hb d_GR_faultOf_20 (by decide) ?_
    exact W.iret (v := 2) hx hb hr (fun t ht hW => ⟨⟨2, (pcnt, pfix, pown, pst, pen, pix), rfl, (by rw [tw_GR_faultOf, if_neg c_1]; first | done | rfl), by rw [ht]; exact hP, hD⟩, hS.F ht⟩) hS.2.2 d_GR_faultOf_21
  · refine lv_aload_n hx hb d_GR_faultOf_8 rfl (lv_at hl 0 rfl) ?_
    refine va_get (D := D) (ci := 7) (v := .ref aS) (C := R_GR) (T := T_GR) (N := 12) hx hb hT u_GR hown hK hP 0 rfl rfl 0 (by decide) (hT _ k_212) (fun _ h9 => h9) rfl d_GR_faultOf_9 ?_
    refine lv_iload_n hx hb d_GR_faultOf_12 rfl (lv_at hl 1 rfl) ?_
    refine rd_V (val := tw_ST_countParts b p0) (As := [.int p0]) (rest := []) ⟨hx, hb, hml, hown, hT⟩ (c_ST_countParts l D cB cI aS aB b p0) (cwV 1 hT (gV_of k_712 k_480 k_481 k_2 kc_ST_countParts) rfl rfl rfl hd_ST_countParts ⟨Nat.le_of_ble_eq_true rfl, Nat.le_of_ble_eq_true rfl⟩) hk (hP.sub (ws' := [(aS, .inr (0, [.ref aB])), (aB, .inl (cB, 202000, .inl (by_ b)))]) [1, 2] rfl) (q0 := 0) rfl rfl rfl rfl hl.1 rfl (Nat.le_of_ble_eq_true rfl) d_GR_faultOf_13 ⟨Nat.zero_le _, Nat.zero_le _⟩ ?_
    refine lv_iconst (v := 1) hx hb d_GR_faultOf_16 (by decide) ?_
    refine lv_icmp_ge (tgt := 22) hx hb d_GR_faultOf_17 (by decide) (fun c_2 => ?_) (fun c_2 => ?_)
    · refine lv_aload_n hx hb d_GR_faultOf_22 rfl (lv_at hl 0 rfl) ?_
      refine va_get (D := D) (ci := 7) (v := .ref aS) (C := R_GR) (T := T_GR) (N := 12) hx hb hT u_GR hown hK hP 0 rfl rfl 0 (by decide) (hT _ k_212) (fun _ h9 => h9) rfl d_GR_faultOf_23 ?_
      refine lv_iload_n hx hb d_GR_faultOf_26 rfl (lv_at hl 1 rfl) ?_
      refine rd_V (val := tw_ST_endOf b p0) (As := [.int p0]) (rest := []) ⟨hx, hb, hml, hown, hT⟩ (c_ST_endOf l D cB cI aS aB b p0) (cwV 1 hT (gV_of k_713 k_416 k_417 k_2 kc_ST_endOf) rfl rfl rfl hd_ST_endOf ⟨Nat.le_of_ble_eq_true rfl, Nat.le_of_ble_eq_true rfl⟩) hk (hP.sub (ws' := [(aS, .inr (0, [.ref aB])), (aB, .inl (cB, 202000, .inl (by_ b)))]) [1, 2] rfl) (q0 := 0) rfl rfl rfl rfl hl.1 rfl (Nat.le_of_ble_eq_true rfl) d_GR_faultOf_27 ⟨Nat.zero_le _, Nat.zero_le _⟩ ?_
      refine lv_iconst (v := 1) hx hb d_GR_faultOf_30 (by decide) ?_
      refine lv_isub hx hb d_GR_faultOf_31 ?_
      refine lv_istore_n (lv' := [(2, .int ((tw_ST_endOf b p0) - 1)), (0, .ref aU), (1, .int p0)]) hx hb d_GR_faultOf_32 rfl hl (by decide) rfl (fun ls hl => ?_)
      refine lv_iload_n hx hb d_GR_faultOf_33 rfl (lv_at hl 2 rfl) ?_
      refine rd_S (val := tw_ST_placeOf p0) (As := [.int p0]) (rest := []) ⟨hx, hb, hml, hown, hT⟩ (c_ST_placeOf l D cB cI p0) (va_cwS 1 hT (gS_of k_714 k_403 k_2 kc_ST_placeOf) rfl rfl rfl hd_ST_placeOf ⟨Nat.le_of_ble_eq_true rfl, Nat.le_of_ble_eq_true rfl⟩) hk (va_P_nil) rfl hl.1 rfl (Nat.le_of_ble_eq_true rfl) d_GR_faultOf_34 ⟨Nat.zero_le _, Nat.zero_le _⟩ ?_
      refine lv_iconst (v := 4) hx hb d_GR_faultOf_37 (by decide) ?_
      refine lv_iadd hx hb d_GR_faultOf_38 ?_
      refine lv_istore_n (lv' := [(3, .int ((tw_ST_placeOf p0) + 4)), (2, .int ((tw_ST_endOf b p0) - 1)), (0, .ref aU), (1, .int p0)]) hx hb d_GR_faultOf_39 rfl hl (by decide) rfl (fun ls hl => ?_)
      refine lv_iconst (v := 0) hx hb d_GR_faultOf_40 (by decide) ?_
      refine lv_istore (lv' := [(4, .int 0), (3, .int ((tw_ST_placeOf p0) + 4)), (2, .int ((tw_ST_endOf b p0) - 1)), (0, .ref aU), (1, .int p0)]) hx hb d_GR_faultOf_41 hl (by decide) rfl (fun ls hl => ?_)
      exact l_GR_faultOf_h43 C0 l D cB cI aU aS aY aP aGk aGh aGf aGl aGn aGv aB aV aPs aPe aPi aPh aPl aPn ngr held gsum b plc psr pbs pms hk hA hz hzs hAz ((tw_ST_endOf b p0) - 1)  ((((1000 : Int32).toInt - (0 : Int32).toInt).toNat) + 1) ((tw_ST_placeOf p0) + 4) 0 pcnt pfix pown pst pen pix (Nat.lt_succ_self _) (by rw [tw_GR_faultOf, if_pos c_1, if_pos c_2]) _ _ hP hD hS ls (lv_sub hl [3, 2, 1, 0] rfl)
    · refine lv_iconst (v := 2) hx hb d_GR_faultOf_20 (by decide) ?_
      exact W.iret (v := 2) hx hb hr (fun t ht hW => ⟨⟨2, (pcnt, pfix, pown, pst, pen, pix), rfl, (by rw [tw_GR_faultOf, if_pos c_1, if_neg c_2]; first | done | rfl), by rw [ht]; exact hP, hD⟩, hS.F ht⟩) hS.2.2 d_GR_faultOf_21
