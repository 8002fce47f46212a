/-! printed by wip/gen -/
theorem k_11 : (Jvm.Cond.initialized "PipelineBelt$Finder") ∈ lw_g := lw_gm (List.mem_append_right _ (List.mem_of_getElem? (i := 11) (by decide +kernel))) rfl
theorem k_21 : (Jvm.Cond.initialized "java/util/Arrays") ∈ lw_g := lw_gm (List.mem_append_right _ (List.mem_of_getElem? (i := 21) (by decide +kernel))) rfl
theorem k_285 : (Jvm.Cond.fieldLink "PipelineBelt$Finder" (30 : Nat) "PipelineBelt$Finder" "store" "LPipelineBelt$Store;") ∈ lw_g := lw_gm (List.mem_append_right _ (List.mem_of_getElem? (i := 285) (by decide +kernel))) rfl
theorem k_286 : (Jvm.Cond.fieldLink "PipelineBelt$Finder" (34 : Nat) "PipelineBelt$Finder" "belts" "LPipelineBelt$Belts;") ∈ lw_g := lw_gm (List.mem_append_right _ (List.mem_of_getElem? (i := 286) (by decide +kernel))) rfl
theorem k_287 : (Jvm.Cond.fieldLink "PipelineBelt$Finder" (38 : Nat) "PipelineBelt$Finder" "path" "LPipelineBelt$Path;") ∈ lw_g := lw_gm (List.mem_append_right _ (List.mem_of_getElem? (i := 287) (by decide +kernel))) rfl
theorem k_288 : (Jvm.Cond.fieldLink "PipelineBelt$Finder" (11 : Nat) "PipelineBelt$Finder" "chains" "[I") ∈ lw_g := lw_gm (List.mem_append_right _ (List.mem_of_getElem? (i := 288) (by decide +kernel))) rfl
theorem k_289 : (Jvm.Cond.fieldLink "PipelineBelt$Finder" (15 : Nat) "PipelineBelt$Finder" "nexts" "[I") ∈ lw_g := lw_gm (List.mem_append_right _ (List.mem_of_getElem? (i := 289) (by decide +kernel))) rfl
theorem k_290 : (Jvm.Cond.fieldLink "PipelineBelt$Finder" (18 : Nat) "PipelineBelt$Finder" "leaves" "[I") ∈ lw_g := lw_gm (List.mem_append_right _ (List.mem_of_getElem? (i := 290) (by decide +kernel))) rfl
theorem k_291 : (Jvm.Cond.fieldLink "PipelineBelt$Finder" (21 : Nat) "PipelineBelt$Finder" "hashes" "[I") ∈ lw_g := lw_gm (List.mem_append_right _ (List.mem_of_getElem? (i := 291) (by decide +kernel))) rfl
theorem k_292 : (Jvm.Cond.fieldLink "PipelineBelt$Finder" (24 : Nat) "PipelineBelt$Finder" "documents" "[I") ∈ lw_g := lw_gm (List.mem_append_right _ (List.mem_of_getElem? (i := 292) (by decide +kernel))) rfl
theorem k_293 : (Jvm.Cond.fieldLink "PipelineBelt$Finder" (89 : Nat) "PipelineBelt$Finder" "count" "I") ∈ lw_g := lw_gm (List.mem_append_right _ (List.mem_of_getElem? (i := 293) (by decide +kernel))) rfl
theorem k_294 : (Jvm.Cond.fieldLink "PipelineBelt$Finder" (27 : Nat) "PipelineBelt$Finder" "owners" "[I") ∈ lw_g := lw_gm (List.mem_append_right _ (List.mem_of_getElem? (i := 294) (by decide +kernel))) rfl
theorem k_955 : (Jvm.Cond.methodLink "PipelineBelt$Finder" (93 : Nat) ({ cls := "java/util/Arrays", name := "fill", desc := "([II)V" } : Jvm.MethodName)) ∈ lw_g := lw_gm (List.mem_append_right _ (List.mem_of_getElem? (i := 955) (by decide +kernel))) rfl
theorem k_956 : (Jvm.Cond.static ({ cls := "java/util/Arrays", name := "fill", desc := "([II)V" } : Jvm.MethodName)) ∈ lw_g := lw_gm (List.mem_append_right _ (List.mem_of_getElem? (i := 956) (by decide +kernel))) rfl
theorem k_958 : (Jvm.Cond.methodLink "PipelineBelt$Finder" (108 : Nat) ({ cls := "PipelineBelt$Belt", name := "start", desc := "(I)I" } : Jvm.MethodName)) ∈ lw_g := lw_gm (List.mem_append_right _ (List.mem_of_getElem? (i := 958) (by decide +kernel))) rfl
theorem k_959 : (Jvm.Cond.methodLink "PipelineBelt$Finder" (111 : Nat) ({ cls := "PipelineBelt$Store", name := "ref", desc := "(II)I" } : Jvm.MethodName)) ∈ lw_g := lw_gm (List.mem_append_right _ (List.mem_of_getElem? (i := 959) (by decide +kernel))) rfl
theorem k_960 : (Jvm.Cond.methodLink "PipelineBelt$Finder" (115 : Nat) ({ cls := "PipelineBelt$Path", name := "findLeaves", desc := "(I)V" } : Jvm.MethodName)) ∈ lw_g := lw_gm (List.mem_append_right _ (List.mem_of_getElem? (i := 960) (by decide +kernel))) rfl
theorem k_961 : (Jvm.Cond.methodLink "PipelineBelt$Finder" (119 : Nat) ({ cls := "PipelineBelt$Finder", name := "leavesToTake", desc := "()I" } : Jvm.MethodName)) ∈ lw_g := lw_gm (List.mem_append_right _ (List.mem_of_getElem? (i := 961) (by decide +kernel))) rfl
theorem k_963 : (Jvm.Cond.instanceMethod ({ cls := "PipelineBelt$Finder", name := "leavesToTake", desc := "()I" } : Jvm.MethodName)) ∈ lw_g := lw_gm (List.mem_append_right _ (List.mem_of_getElem? (i := 963) (by decide +kernel))) rfl
theorem k_965 : (Jvm.Cond.methodLink "PipelineBelt$Finder" (133 : Nat) ({ cls := "java/lang/Math", name := "max", desc := "(II)I" } : Jvm.MethodName)) ∈ lw_g := lw_gm (List.mem_append_right _ (List.mem_of_getElem? (i := 965) (by decide +kernel))) rfl
theorem k_966 : (Jvm.Cond.methodLink "PipelineBelt$Finder" (123 : Nat) ({ cls := "PipelineBelt$Finder", name := "leafToTake", desc := "(I)I" } : Jvm.MethodName)) ∈ lw_g := lw_gm (List.mem_append_right _ (List.mem_of_getElem? (i := 966) (by decide +kernel))) rfl
theorem k_968 : (Jvm.Cond.instanceMethod ({ cls := "PipelineBelt$Finder", name := "leafToTake", desc := "(I)I" } : Jvm.MethodName)) ∈ lw_g := lw_gm (List.mem_append_right _ (List.mem_of_getElem? (i := 968) (by decide +kernel))) rfl
theorem k_970 : (Jvm.Cond.methodLink "PipelineBelt$Finder" (138 : Nat) ({ cls := "PipelineBelt$Path", name := "leaf", desc := "(I)I" } : Jvm.MethodName)) ∈ lw_g := lw_gm (List.mem_append_right _ (List.mem_of_getElem? (i := 970) (by decide +kernel))) rfl
theorem k_971 : (Jvm.Cond.methodLink "PipelineBelt$Finder" (126 : Nat) ({ cls := "PipelineBelt$Finder", name := "remember", desc := "(II)V" } : Jvm.MethodName)) ∈ lw_g := lw_gm (List.mem_append_right _ (List.mem_of_getElem? (i := 971) (by decide +kernel))) rfl
theorem k_973 : (Jvm.Cond.instanceMethod ({ cls := "PipelineBelt$Finder", name := "remember", desc := "(II)V" } : Jvm.MethodName)) ∈ lw_g := lw_gm (List.mem_append_right _ (List.mem_of_getElem? (i := 973) (by decide +kernel))) rfl
theorem k_975 : (Jvm.Cond.methodLink "PipelineBelt$Finder" (141 : Nat) ({ cls := "PipelineBelt$Store", name := "hash", desc := "(II)I" } : Jvm.MethodName)) ∈ lw_g := lw_gm (List.mem_append_right _ (List.mem_of_getElem? (i := 975) (by decide +kernel))) rfl
theorem k_976 : (Jvm.Cond.methodLink "PipelineBelt$Finder" (144 : Nat) ({ cls := "PipelineBelt$Finder", name := "chainOf", desc := "(I)I" } : Jvm.MethodName)) ∈ lw_g := lw_gm (List.mem_append_right _ (List.mem_of_getElem? (i := 976) (by decide +kernel))) rfl
theorem k_977 : (Jvm.Cond.static ({ cls := "PipelineBelt$Finder", name := "chainOf", desc := "(I)I" } : Jvm.MethodName)) ∈ lw_g := lw_gm (List.mem_append_right _ (List.mem_of_getElem? (i := 977) (by decide +kernel))) rfl
theorem k_979 : (Jvm.Cond.methodLink "PipelineBelt$Finder" (147 : Nat) ({ cls := "PipelineBelt$Store", name := "compare", desc := "(III)I" } : Jvm.MethodName)) ∈ lw_g := lw_gm (List.mem_append_right _ (List.mem_of_getElem? (i := 979) (by decide +kernel))) rfl
theorem k_994 : (Jvm.Cond.methodLink "PipelineBelt$Finder" (172 : Nat) ({ cls := "PipelineBelt$Writer", name := "open", desc := "()I" } : Jvm.MethodName)) ∈ lw_g := lw_gm (List.mem_append_right _ (List.mem_of_getElem? (i := 994) (by decide +kernel))) rfl
theorem k_996 : (Jvm.Cond.methodLink "PipelineBelt$Finder" (180 : Nat) ({ cls := "PipelineBelt$Writer", name := "copy", desc := "(II)V" } : Jvm.MethodName)) ∈ lw_g := lw_gm (List.mem_append_right _ (List.mem_of_getElem? (i := 996) (by decide +kernel))) rfl
theorem k_1002 : (Jvm.Cond.methodLink "PipelineBelt$Finder" (197 : Nat) ({ cls := "PipelineBelt$Writer", name := "index", desc := "(II)V" } : Jvm.MethodName)) ∈ lw_g := lw_gm (List.mem_append_right _ (List.mem_of_getElem? (i := 1002) (by decide +kernel))) rfl
theorem k_1003 : (Jvm.Cond.methodLink "PipelineBelt$Finder" (190 : Nat) ({ cls := "PipelineBelt$Writer", name := "close", desc := "(I)V" } : Jvm.MethodName)) ∈ lw_g := lw_gm (List.mem_append_right _ (List.mem_of_getElem? (i := 1003) (by decide +kernel))) rfl
abbrev b_JA_fill : ByteArray := prog_21_method_103_code
def y_JA_fill : MethodName := ⟨R_JA, "fill", "([II)V"⟩
theorem kc_JA_fill : Cond.code y_JA_fill b_JA_fill 4 none ∈ lw_g := lw_gm (List.mem_append_right _ (List.mem_of_getElem? (i := 957) (by decide +kernel))) rfl
abbrev mw_JA_fill : List Cond := Cond.code y_JA_fill b_JA_fill 4 none :: lw_g
theorem hd_JA_fill : y_JA_fill.cls ≠ "java/lang/invoke/MethodHandle" ∧ y_JA_fill.cls ≠ "java/lang/invoke/VarHandle" ∧ (parseMethodDescriptor y_JA_fill.desc).map (fun d => d.parameters.length) = some 2 := by decide +kernel
theorem d_JA_fill_0 : decode b_JA_fill 0 = .ok (.iconst 0, 1) := by decide +kernel
theorem d_JA_fill_1 : decode b_JA_fill 1 = .ok (.istore_n 2, 1) := by decide +kernel
theorem d_JA_fill_2 : decode b_JA_fill 2 = .ok (.aload_n 0, 1) := by decide +kernel
theorem d_JA_fill_3 : decode b_JA_fill 3 = .ok (.arraylength, 1) := by decide +kernel
theorem d_JA_fill_4 : decode b_JA_fill 4 = .ok (.istore_n 3, 1) := by decide +kernel
theorem d_JA_fill_5 : decode b_JA_fill 5 = .ok (.iload_n 2, 1) := by decide +kernel
theorem d_JA_fill_6 : decode b_JA_fill 6 = .ok (.iload_n 3, 1) := by decide +kernel
theorem d_JA_fill_7 : decode b_JA_fill 7 = .ok (.if_icmp .ge 13, 3) := by decide +kernel
theorem d_JA_fill_10 : decode b_JA_fill 10 = .ok (.aload_n 0, 1) := by decide +kernel
theorem d_JA_fill_11 : decode b_JA_fill 11 = .ok (.iload_n 2, 1) := by decide +kernel
theorem d_JA_fill_12 : decode b_JA_fill 12 = .ok (.iload_n 1, 1) := by decide +kernel
theorem d_JA_fill_13 : decode b_JA_fill 13 = .ok (.iastore, 1) := by decide +kernel
theorem d_JA_fill_14 : decode b_JA_fill 14 = .ok (.iinc 2 1, 3) := by decide +kernel
theorem d_JA_fill_17 : decode b_JA_fill 17 = .ok (.goto (-12), 3) := by decide +kernel
theorem d_JA_fill_20 : decode b_JA_fill 20 = .ok (.return_, 1) := by decide +kernel
abbrev b_FI_chainOf : ByteArray := prog_5_method_7_code
def y_FI_chainOf : MethodName := ⟨R_FI, "chainOf", "(I)I"⟩
theorem kc_FI_chainOf : Cond.code y_FI_chainOf b_FI_chainOf 1 (some .int) ∈ lw_g := lw_gm (List.mem_append_right _ (List.mem_of_getElem? (i := 978) (by decide +kernel))) rfl
abbrev mw_FI_chainOf : List Cond := Cond.code y_FI_chainOf b_FI_chainOf 1 (some .int) :: lw_g
theorem hd_FI_chainOf : y_FI_chainOf.cls ≠ "java/lang/invoke/MethodHandle" ∧ y_FI_chainOf.cls ≠ "java/lang/invoke/VarHandle" ∧ (parseMethodDescriptor y_FI_chainOf.desc).map (fun d => d.parameters.length) = some 1 := by decide +kernel
theorem d_FI_chainOf_0 : decode b_FI_chainOf 0 = .ok (.iload_n 0, 1) := by decide +kernel
theorem d_FI_chainOf_1 : decode b_FI_chainOf 1 = .ok (.iload_n 0, 1) := by decide +kernel
theorem d_FI_chainOf_2 : decode b_FI_chainOf 2 = .ok (.bipush 10, 2) := by decide +kernel
theorem d_FI_chainOf_4 : decode b_FI_chainOf 4 = .ok (.iushr, 1) := by decide +kernel
theorem d_FI_chainOf_5 : decode b_FI_chainOf 5 = .ok (.ixor, 1) := by decide +kernel
theorem d_FI_chainOf_6 : decode b_FI_chainOf 6 = .ok (.iload_n 0, 1) := by decide +kernel
theorem d_FI_chainOf_7 : decode b_FI_chainOf 7 = .ok (.bipush 20, 2) := by decide +kernel
theorem d_FI_chainOf_9 : decode b_FI_chainOf 9 = .ok (.iushr, 1) := by decide +kernel
theorem d_FI_chainOf_10 : decode b_FI_chainOf 10 = .ok (.ixor, 1) := by decide +kernel
theorem d_FI_chainOf_11 : decode b_FI_chainOf 11 = .ok (.sipush 1023, 3) := by decide +kernel
theorem d_FI_chainOf_14 : decode b_FI_chainOf 14 = .ok (.iand, 1) := by decide +kernel
theorem d_FI_chainOf_15 : decode b_FI_chainOf 15 = .ok (.ireturn, 1) := by decide +kernel
abbrev b_FI_leavesToTake : ByteArray := prog_5_method_5_code
def y_FI_leavesToTake : MethodName := ⟨R_FI, "leavesToTake", "()I"⟩
theorem kc_FI_leavesToTake : Cond.code y_FI_leavesToTake b_FI_leavesToTake 1 (some .int) ∈ lw_g := lw_gm (List.mem_append_right _ (List.mem_of_getElem? (i := 964) (by decide +kernel))) rfl
abbrev mw_FI_leavesToTake : List Cond := Cond.code y_FI_leavesToTake b_FI_leavesToTake 1 (some .int) :: lw_g
theorem hd_FI_leavesToTake : y_FI_leavesToTake.cls = R_FI ∧ y_FI_leavesToTake.cls ≠ "java/lang/invoke/MethodHandle" ∧ y_FI_leavesToTake.cls ≠ "java/lang/invoke/VarHandle" ∧ (parseMethodDescriptor y_FI_leavesToTake.desc).map (fun d => d.parameters.length) = some 0 := by decide +kernel
theorem kp_FI_leavesToTake : Cond.selects R_FI y_FI_leavesToTake y_FI_leavesToTake ∈ lw_g := lw_gm (List.mem_append_left _ (by decide +kernel)) rfl
theorem d_FI_leavesToTake_0 : decode b_FI_leavesToTake 0 = .ok (.aload_n 0, 1) := by decide +kernel
theorem d_FI_leavesToTake_1 : decode b_FI_leavesToTake 1 = .ok (.getfield 38, 3) := by decide +kernel
theorem d_FI_leavesToTake_4 : decode b_FI_leavesToTake 4 = .ok (.getfield 130, 3) := by decide +kernel
theorem d_FI_leavesToTake_7 : decode b_FI_leavesToTake 7 = .ok (.iconst 1, 1) := by decide +kernel
theorem d_FI_leavesToTake_8 : decode b_FI_leavesToTake 8 = .ok (.invokestatic 133, 3) := by decide +kernel
theorem d_FI_leavesToTake_11 : decode b_FI_leavesToTake 11 = .ok (.ireturn, 1) := by decide +kernel
abbrev b_FI_leafToTake : ByteArray := prog_5_method_6_code
def y_FI_leafToTake : MethodName := ⟨R_FI, "leafToTake", "(I)I"⟩
theorem kc_FI_leafToTake : Cond.code y_FI_leafToTake b_FI_leafToTake 3 (some .int) ∈ lw_g := lw_gm (List.mem_append_right _ (List.mem_of_getElem? (i := 969) (by decide +kernel))) rfl
abbrev mw_FI_leafToTake : List Cond := Cond.code y_FI_leafToTake b_FI_leafToTake 3 (some .int) :: lw_g
theorem hd_FI_leafToTake : y_FI_leafToTake.cls = R_FI ∧ y_FI_leafToTake.cls ≠ "java/lang/invoke/MethodHandle" ∧ y_FI_leafToTake.cls ≠ "java/lang/invoke/VarHandle" ∧ (parseMethodDescriptor y_FI_leafToTake.desc).map (fun d => d.parameters.length) = some 1 := by decide +kernel
theorem kp_FI_leafToTake : Cond.selects R_FI y_FI_leafToTake y_FI_leafToTake ∈ lw_g := lw_gm (List.mem_append_left _ (by decide +kernel)) rfl
theorem d_FI_leafToTake_0 : decode b_FI_leafToTake 0 = .ok (.aload_n 0, 1) := by decide +kernel
theorem d_FI_leafToTake_1 : decode b_FI_leafToTake 1 = .ok (.getfield 38, 3) := by decide +kernel
theorem d_FI_leafToTake_4 : decode b_FI_leafToTake 4 = .ok (.iload_n 1, 1) := by decide +kernel
theorem d_FI_leafToTake_5 : decode b_FI_leafToTake 5 = .ok (.invokevirtual 138, 3) := by decide +kernel
theorem d_FI_leafToTake_8 : decode b_FI_leafToTake 8 = .ok (.istore_n 2, 1) := by decide +kernel
theorem d_FI_leafToTake_9 : decode b_FI_leafToTake 9 = .ok (.iload_n 2, 1) := by decide +kernel
theorem d_FI_leafToTake_10 : decode b_FI_leafToTake 10 = .ok (.ifCond .ne 8, 3) := by decide +kernel
theorem d_FI_leafToTake_13 : decode b_FI_leafToTake 13 = .ok (.bipush 10, 2) := by decide +kernel
theorem d_FI_leafToTake_15 : decode b_FI_leafToTake 15 = .ok (.goto 4, 3) := by decide +kernel
theorem d_FI_leafToTake_18 : decode b_FI_leafToTake 18 = .ok (.iload_n 2, 1) := by decide +kernel
theorem d_FI_leafToTake_19 : decode b_FI_leafToTake 19 = .ok (.ireturn, 1) := by decide +kernel
abbrev b_FI_remember : ByteArray := prog_5_method_8_code
def y_FI_remember : MethodName := ⟨R_FI, "remember", "(II)V"⟩
theorem kc_FI_remember : Cond.code y_FI_remember b_FI_remember 7 none ∈ lw_g := lw_gm (List.mem_append_right _ (List.mem_of_getElem? (i := 974) (by decide +kernel))) rfl
abbrev mw_FI_remember : List Cond := Cond.code y_FI_remember b_FI_remember 7 none :: lw_g
theorem hd_FI_remember : y_FI_remember.cls = R_FI ∧ y_FI_remember.cls ≠ "java/lang/invoke/MethodHandle" ∧ y_FI_remember.cls ≠ "java/lang/invoke/VarHandle" ∧ (parseMethodDescriptor y_FI_remember.desc).map (fun d => d.parameters.length) = some 2 := by decide +kernel
theorem kp_FI_remember : Cond.selects R_FI y_FI_remember y_FI_remember ∈ lw_g := lw_gm (List.mem_append_left _ (by decide +kernel)) rfl
theorem d_FI_remember_0 : decode b_FI_remember 0 = .ok (.aload_n 0, 1) := by decide +kernel
theorem d_FI_remember_1 : decode b_FI_remember 1 = .ok (.getfield 30, 3) := by decide +kernel
theorem d_FI_remember_4 : decode b_FI_remember 4 = .ok (.iload_n 1, 1) := by decide +kernel
theorem d_FI_remember_5 : decode b_FI_remember 5 = .ok (.iconst 0, 1) := by decide +kernel
theorem d_FI_remember_6 : decode b_FI_remember 6 = .ok (.invokevirtual 141, 3) := by decide +kernel
theorem d_FI_remember_9 : decode b_FI_remember 9 = .ok (.istore_n 3, 1) := by decide +kernel
theorem d_FI_remember_10 : decode b_FI_remember 10 = .ok (.iload_n 3, 1) := by decide +kernel
theorem d_FI_remember_11 : decode b_FI_remember 11 = .ok (.invokestatic 144, 3) := by decide +kernel
theorem d_FI_remember_14 : decode b_FI_remember 14 = .ok (.istore 4, 2) := by decide +kernel
theorem d_FI_remember_16 : decode b_FI_remember 16 = .ok (.aload_n 0, 1) := by decide +kernel
theorem d_FI_remember_17 : decode b_FI_remember 17 = .ok (.getfield 11, 3) := by decide +kernel
theorem d_FI_remember_20 : decode b_FI_remember 20 = .ok (.iload 4, 2) := by decide +kernel
theorem d_FI_remember_22 : decode b_FI_remember 22 = .ok (.iaload, 1) := by decide +kernel
theorem d_FI_remember_23 : decode b_FI_remember 23 = .ok (.istore 5, 2) := by decide +kernel
theorem d_FI_remember_25 : decode b_FI_remember 25 = .ok (.iconst 0, 1) := by decide +kernel
theorem d_FI_remember_26 : decode b_FI_remember 26 = .ok (.istore 6, 2) := by decide +kernel
theorem d_FI_remember_28 : decode b_FI_remember 28 = .ok (.iload 6, 2) := by decide +kernel
theorem d_FI_remember_30 : decode b_FI_remember 30 = .ok (.aload_n 0, 1) := by decide +kernel
theorem d_FI_remember_31 : decode b_FI_remember 31 = .ok (.getfield 89, 3) := by decide +kernel
theorem d_FI_remember_34 : decode b_FI_remember 34 = .ok (.if_icmp .ge 74, 3) := by decide +kernel
theorem d_FI_remember_37 : decode b_FI_remember 37 = .ok (.iload 5, 2) := by decide +kernel
theorem d_FI_remember_39 : decode b_FI_remember 39 = .ok (.ifCond .lt 69, 3) := by decide +kernel
theorem d_FI_remember_42 : decode b_FI_remember 42 = .ok (.iload 5, 2) := by decide +kernel
theorem d_FI_remember_44 : decode b_FI_remember 44 = .ok (.aload_n 0, 1) := by decide +kernel
theorem d_FI_remember_45 : decode b_FI_remember 45 = .ok (.getfield 89, 3) := by decide +kernel
theorem d_FI_remember_48 : decode b_FI_remember 48 = .ok (.if_icmp .ge 60, 3) := by decide +kernel
theorem d_FI_remember_51 : decode b_FI_remember 51 = .ok (.aload_n 0, 1) := by decide +kernel
theorem d_FI_remember_52 : decode b_FI_remember 52 = .ok (.getfield 24, 3) := by decide +kernel
theorem d_FI_remember_55 : decode b_FI_remember 55 = .ok (.iload 5, 2) := by decide +kernel
theorem d_FI_remember_57 : decode b_FI_remember 57 = .ok (.iaload, 1) := by decide +kernel
theorem d_FI_remember_58 : decode b_FI_remember 58 = .ok (.iload_n 2, 1) := by decide +kernel
theorem d_FI_remember_59 : decode b_FI_remember 59 = .ok (.if_icmp .ne 49, 3) := by decide +kernel
theorem d_FI_remember_62 : decode b_FI_remember 62 = .ok (.aload_n 0, 1) := by decide +kernel
theorem d_FI_remember_63 : decode b_FI_remember 63 = .ok (.getfield 21, 3) := by decide +kernel
theorem d_FI_remember_66 : decode b_FI_remember 66 = .ok (.iload 5, 2) := by decide +kernel
theorem d_FI_remember_68 : decode b_FI_remember 68 = .ok (.iaload, 1) := by decide +kernel
theorem d_FI_remember_69 : decode b_FI_remember 69 = .ok (.iload_n 3, 1) := by decide +kernel
theorem d_FI_remember_70 : decode b_FI_remember 70 = .ok (.if_icmp .ne 23, 3) := by decide +kernel
theorem d_FI_remember_73 : decode b_FI_remember 73 = .ok (.aload_n 0, 1) := by decide +kernel
theorem d_FI_remember_74 : decode b_FI_remember 74 = .ok (.getfield 30, 3) := by decide +kernel
theorem d_FI_remember_77 : decode b_FI_remember 77 = .ok (.iload_n 1, 1) := by decide +kernel
theorem d_FI_remember_78 : decode b_FI_remember 78 = .ok (.aload_n 0, 1) := by decide +kernel
theorem d_FI_remember_79 : decode b_FI_remember 79 = .ok (.getfield 18, 3) := by decide +kernel
theorem d_FI_remember_82 : decode b_FI_remember 82 = .ok (.iload 5, 2) := by decide +kernel
theorem d_FI_remember_84 : decode b_FI_remember 84 = .ok (.iaload, 1) := by decide +kernel
theorem d_FI_remember_85 : decode b_FI_remember 85 = .ok (.iconst 0, 1) := by decide +kernel
theorem d_FI_remember_86 : decode b_FI_remember 86 = .ok (.invokevirtual 147, 3) := by decide +kernel
theorem d_FI_remember_89 : decode b_FI_remember 89 = .ok (.ifCond .ne 4, 3) := by decide +kernel
theorem d_FI_remember_92 : decode b_FI_remember 92 = .ok (.return_, 1) := by decide +kernel
theorem d_FI_remember_93 : decode b_FI_remember 93 = .ok (.aload_n 0, 1) := by decide +kernel
theorem d_FI_remember_94 : decode b_FI_remember 94 = .ok (.getfield 15, 3) := by decide +kernel
theorem d_FI_remember_97 : decode b_FI_remember 97 = .ok (.iload 5, 2) := by decide +kernel
theorem d_FI_remember_99 : decode b_FI_remember 99 = .ok (.iaload, 1) := by decide +kernel
theorem d_FI_remember_100 : decode b_FI_remember 100 = .ok (.istore 5, 2) := by decide +kernel
theorem d_FI_remember_102 : decode b_FI_remember 102 = .ok (.iinc 6 1, 3) := by decide +kernel
theorem d_FI_remember_105 : decode b_FI_remember 105 = .ok (.goto (-77), 3) := by decide +kernel
theorem d_FI_remember_108 : decode b_FI_remember 108 = .ok (.aload_n 0, 1) := by decide +kernel
theorem d_FI_remember_109 : decode b_FI_remember 109 = .ok (.getfield 89, 3) := by decide +kernel
theorem d_FI_remember_112 : decode b_FI_remember 112 = .ok (.sipush 13533, 3) := by decide +kernel
theorem d_FI_remember_115 : decode b_FI_remember 115 = .ok (.if_icmp .ge 70, 3) := by decide +kernel
theorem d_FI_remember_118 : decode b_FI_remember 118 = .ok (.aload_n 0, 1) := by decide +kernel
theorem d_FI_remember_119 : decode b_FI_remember 119 = .ok (.getfield 18, 3) := by decide +kernel
theorem d_FI_remember_122 : decode b_FI_remember 122 = .ok (.aload_n 0, 1) := by decide +kernel
theorem d_FI_remember_123 : decode b_FI_remember 123 = .ok (.getfield 89, 3) := by decide +kernel
theorem d_FI_remember_126 : decode b_FI_remember 126 = .ok (.iload_n 1, 1) := by decide +kernel
theorem d_FI_remember_127 : decode b_FI_remember 127 = .ok (.iastore, 1) := by decide +kernel
theorem d_FI_remember_128 : decode b_FI_remember 128 = .ok (.aload_n 0, 1) := by decide +kernel
theorem d_FI_remember_129 : decode b_FI_remember 129 = .ok (.getfield 21, 3) := by decide +kernel
theorem d_FI_remember_132 : decode b_FI_remember 132 = .ok (.aload_n 0, 1) := by decide +kernel
theorem d_FI_remember_133 : decode b_FI_remember 133 = .ok (.getfield 89, 3) := by decide +kernel
theorem d_FI_remember_136 : decode b_FI_remember 136 = .ok (.iload_n 3, 1) := by decide +kernel
theorem d_FI_remember_137 : decode b_FI_remember 137 = .ok (.iastore, 1) := by decide +kernel
theorem d_FI_remember_138 : decode b_FI_remember 138 = .ok (.aload_n 0, 1) := by decide +kernel
theorem d_FI_remember_139 : decode b_FI_remember 139 = .ok (.getfield 24, 3) := by decide +kernel
theorem d_FI_remember_142 : decode b_FI_remember 142 = .ok (.aload_n 0, 1) := by decide +kernel
theorem d_FI_remember_143 : decode b_FI_remember 143 = .ok (.getfield 89, 3) := by decide +kernel
theorem d_FI_remember_146 : decode b_FI_remember 146 = .ok (.iload_n 2, 1) := by decide +kernel
theorem d_FI_remember_147 : decode b_FI_remember 147 = .ok (.iastore, 1) := by decide +kernel
theorem d_FI_remember_148 : decode b_FI_remember 148 = .ok (.aload_n 0, 1) := by decide +kernel
theorem d_FI_remember_149 : decode b_FI_remember 149 = .ok (.getfield 15, 3) := by decide +kernel
theorem d_FI_remember_152 : decode b_FI_remember 152 = .ok (.aload_n 0, 1) := by decide +kernel
theorem d_FI_remember_153 : decode b_FI_remember 153 = .ok (.getfield 89, 3) := by decide +kernel
theorem d_FI_remember_156 : decode b_FI_remember 156 = .ok (.aload_n 0, 1) := by decide +kernel
theorem d_FI_remember_157 : decode b_FI_remember 157 = .ok (.getfield 11, 3) := by decide +kernel
theorem d_FI_remember_160 : decode b_FI_remember 160 = .ok (.iload 4, 2) := by decide +kernel
theorem d_FI_remember_162 : decode b_FI_remember 162 = .ok (.iaload, 1) := by decide +kernel
theorem d_FI_remember_163 : decode b_FI_remember 163 = .ok (.iastore, 1) := by decide +kernel
theorem d_FI_remember_164 : decode b_FI_remember 164 = .ok (.aload_n 0, 1) := by decide +kernel
theorem d_FI_remember_165 : decode b_FI_remember 165 = .ok (.getfield 11, 3) := by decide +kernel
theorem d_FI_remember_168 : decode b_FI_remember 168 = .ok (.iload 4, 2) := by decide +kernel
theorem d_FI_remember_170 : decode b_FI_remember 170 = .ok (.aload_n 0, 1) := by decide +kernel
theorem d_FI_remember_171 : decode b_FI_remember 171 = .ok (.getfield 89, 3) := by decide +kernel
theorem d_FI_remember_174 : decode b_FI_remember 174 = .ok (.iastore, 1) := by decide +kernel
theorem d_FI_remember_175 : decode b_FI_remember 175 = .ok (.aload_n 0, 1) := by decide +kernel
theorem d_FI_remember_176 : decode b_FI_remember 176 = .ok (.dup, 1) := by decide +kernel
theorem d_FI_remember_177 : decode b_FI_remember 177 = .ok (.getfield 89, 3) := by decide +kernel
theorem d_FI_remember_180 : decode b_FI_remember 180 = .ok (.iconst 1, 1) := by decide +kernel
theorem d_FI_remember_181 : decode b_FI_remember 181 = .ok (.iadd, 1) := by decide +kernel
theorem d_FI_remember_182 : decode b_FI_remember 182 = .ok (.putfield 89, 3) := by decide +kernel
theorem d_FI_remember_185 : decode b_FI_remember 185 = .ok (.return_, 1) := by decide +kernel
abbrev b_FI_match : ByteArray := prog_5_method_10_code
def y_FI_match : MethodName := ⟨R_FI, "match", "(II)V"⟩
theorem kc_FI_match : Cond.code y_FI_match b_FI_match 8 none ∈ lw_g := lw_gm (List.mem_append_right _ (List.mem_of_getElem? (i := 988) (by decide +kernel))) rfl
abbrev mw_FI_match : List Cond := Cond.code y_FI_match b_FI_match 8 none :: lw_g
theorem hd_FI_match : y_FI_match.cls = R_FI ∧ y_FI_match.cls ≠ "java/lang/invoke/MethodHandle" ∧ y_FI_match.cls ≠ "java/lang/invoke/VarHandle" ∧ (parseMethodDescriptor y_FI_match.desc).map (fun d => d.parameters.length) = some 2 := by decide +kernel
theorem kp_FI_match : Cond.selects R_FI y_FI_match y_FI_match ∈ lw_g := lw_gm (List.mem_append_left _ (by decide +kernel)) rfl
theorem d_FI_match_0 : decode b_FI_match 0 = .ok (.aload_n 0, 1) := by decide +kernel
theorem d_FI_match_1 : decode b_FI_match 1 = .ok (.getfield 30, 3) := by decide +kernel
theorem d_FI_match_4 : decode b_FI_match 4 = .ok (.iload_n 1, 1) := by decide +kernel
theorem d_FI_match_5 : decode b_FI_match 5 = .ok (.iconst 0, 1) := by decide +kernel
theorem d_FI_match_6 : decode b_FI_match 6 = .ok (.invokevirtual 141, 3) := by decide +kernel
theorem d_FI_match_9 : decode b_FI_match 9 = .ok (.istore_n 3, 1) := by decide +kernel
theorem d_FI_match_10 : decode b_FI_match 10 = .ok (.aload_n 0, 1) := by decide +kernel
theorem d_FI_match_11 : decode b_FI_match 11 = .ok (.getfield 11, 3) := by decide +kernel
theorem d_FI_match_14 : decode b_FI_match 14 = .ok (.iload_n 3, 1) := by decide +kernel
theorem d_FI_match_15 : decode b_FI_match 15 = .ok (.invokestatic 144, 3) := by decide +kernel
theorem d_FI_match_18 : decode b_FI_match 18 = .ok (.iaload, 1) := by decide +kernel
theorem d_FI_match_19 : decode b_FI_match 19 = .ok (.istore 4, 2) := by decide +kernel
theorem d_FI_match_21 : decode b_FI_match 21 = .ok (.iconst 0, 1) := by decide +kernel
theorem d_FI_match_22 : decode b_FI_match 22 = .ok (.istore 5, 2) := by decide +kernel
theorem d_FI_match_24 : decode b_FI_match 24 = .ok (.iload 5, 2) := by decide +kernel
theorem d_FI_match_26 : decode b_FI_match 26 = .ok (.aload_n 0, 1) := by decide +kernel
theorem d_FI_match_27 : decode b_FI_match 27 = .ok (.getfield 89, 3) := by decide +kernel
theorem d_FI_match_30 : decode b_FI_match 30 = .ok (.if_icmp .ge 115, 3) := by decide +kernel
theorem d_FI_match_33 : decode b_FI_match 33 = .ok (.iload 4, 2) := by decide +kernel
theorem d_FI_match_35 : decode b_FI_match 35 = .ok (.ifCond .lt 110, 3) := by decide +kernel
theorem d_FI_match_38 : decode b_FI_match 38 = .ok (.iload 4, 2) := by decide +kernel
theorem d_FI_match_40 : decode b_FI_match 40 = .ok (.aload_n 0, 1) := by decide +kernel
theorem d_FI_match_41 : decode b_FI_match 41 = .ok (.getfield 89, 3) := by decide +kernel
theorem d_FI_match_44 : decode b_FI_match 44 = .ok (.if_icmp .ge 101, 3) := by decide +kernel
theorem d_FI_match_47 : decode b_FI_match 47 = .ok (.aload_n 0, 1) := by decide +kernel
theorem d_FI_match_48 : decode b_FI_match 48 = .ok (.getfield 24, 3) := by decide +kernel
theorem d_FI_match_51 : decode b_FI_match 51 = .ok (.iload 4, 2) := by decide +kernel
theorem d_FI_match_53 : decode b_FI_match 53 = .ok (.iaload, 1) := by decide +kernel
theorem d_FI_match_54 : decode b_FI_match 54 = .ok (.istore 6, 2) := by decide +kernel
theorem d_FI_match_56 : decode b_FI_match 56 = .ok (.aload_n 0, 1) := by decide +kernel
theorem d_FI_match_57 : decode b_FI_match 57 = .ok (.getfield 21, 3) := by decide +kernel
theorem d_FI_match_60 : decode b_FI_match 60 = .ok (.iload 4, 2) := by decide +kernel
theorem d_FI_match_62 : decode b_FI_match 62 = .ok (.iaload, 1) := by decide +kernel
theorem d_FI_match_63 : decode b_FI_match 63 = .ok (.iload_n 3, 1) := by decide +kernel
theorem d_FI_match_64 : decode b_FI_match 64 = .ok (.if_icmp .ne 31, 3) := by decide +kernel
theorem d_FI_match_67 : decode b_FI_match 67 = .ok (.iload 6, 2) := by decide +kernel
theorem d_FI_match_69 : decode b_FI_match 69 = .ok (.ifCond .lt 26, 3) := by decide +kernel
theorem d_FI_match_72 : decode b_FI_match 72 = .ok (.iload 6, 2) := by decide +kernel
theorem d_FI_match_74 : decode b_FI_match 74 = .ok (.sipush 200, 3) := by decide +kernel
theorem d_FI_match_77 : decode b_FI_match 77 = .ok (.if_icmp .ge 18, 3) := by decide +kernel
theorem d_FI_match_80 : decode b_FI_match 80 = .ok (.aload_n 0, 1) := by decide +kernel
theorem d_FI_match_81 : decode b_FI_match 81 = .ok (.getfield 27, 3) := by decide +kernel
theorem d_FI_match_84 : decode b_FI_match 84 = .ok (.iload 6, 2) := by decide +kernel
theorem d_FI_match_86 : decode b_FI_match 86 = .ok (.iaload, 1) := by decide +kernel
theorem d_FI_match_87 : decode b_FI_match 87 = .ok (.iload_n 2, 1) := by decide +kernel
theorem d_FI_match_88 : decode b_FI_match 88 = .ok (.if_icmp .eq 7, 3) := by decide +kernel
theorem d_FI_match_91 : decode b_FI_match 91 = .ok (.iconst 1, 1) := by decide +kernel
theorem d_FI_match_92 : decode b_FI_match 92 = .ok (.goto 4, 3) := by decide +kernel
theorem d_FI_match_95 : decode b_FI_match 95 = .ok (.iconst 0, 1) := by decide +kernel
theorem d_FI_match_96 : decode b_FI_match 96 = .ok (.istore 7, 2) := by decide +kernel
theorem d_FI_match_98 : decode b_FI_match 98 = .ok (.iload 7, 2) := by decide +kernel
theorem d_FI_match_100 : decode b_FI_match 100 = .ok (.ifCond .eq 30, 3) := by decide +kernel
theorem d_FI_match_103 : decode b_FI_match 103 = .ok (.aload_n 0, 1) := by decide +kernel
theorem d_FI_match_104 : decode b_FI_match 104 = .ok (.getfield 30, 3) := by decide +kernel
theorem d_FI_match_107 : decode b_FI_match 107 = .ok (.iload_n 1, 1) := by decide +kernel
theorem d_FI_match_108 : decode b_FI_match 108 = .ok (.aload_n 0, 1) := by decide +kernel
theorem d_FI_match_109 : decode b_FI_match 109 = .ok (.getfield 18, 3) := by decide +kernel
theorem d_FI_match_112 : decode b_FI_match 112 = .ok (.iload 4, 2) := by decide +kernel
theorem d_FI_match_114 : decode b_FI_match 114 = .ok (.iaload, 1) := by decide +kernel
theorem d_FI_match_115 : decode b_FI_match 115 = .ok (.iconst 0, 1) := by decide +kernel
theorem d_FI_match_116 : decode b_FI_match 116 = .ok (.invokevirtual 147, 3) := by decide +kernel
theorem d_FI_match_119 : decode b_FI_match 119 = .ok (.ifCond .ne 11, 3) := by decide +kernel
theorem d_FI_match_122 : decode b_FI_match 122 = .ok (.aload_n 0, 1) := by decide +kernel
theorem d_FI_match_123 : decode b_FI_match 123 = .ok (.getfield 27, 3) := by decide +kernel
theorem d_FI_match_126 : decode b_FI_match 126 = .ok (.iload 6, 2) := by decide +kernel
theorem d_FI_match_128 : decode b_FI_match 128 = .ok (.iload_n 2, 1) := by decide +kernel
theorem d_FI_match_129 : decode b_FI_match 129 = .ok (.iastore, 1) := by decide +kernel
theorem d_FI_match_130 : decode b_FI_match 130 = .ok (.aload_n 0, 1) := by decide +kernel
theorem d_FI_match_131 : decode b_FI_match 131 = .ok (.getfield 15, 3) := by decide +kernel
theorem d_FI_match_134 : decode b_FI_match 134 = .ok (.iload 4, 2) := by decide +kernel
theorem d_FI_match_136 : decode b_FI_match 136 = .ok (.iaload, 1) := by decide +kernel
theorem d_FI_match_137 : decode b_FI_match 137 = .ok (.istore 4, 2) := by decide +kernel
theorem d_FI_match_139 : decode b_FI_match 139 = .ok (.iinc 5 1, 3) := by decide +kernel
theorem d_FI_match_142 : decode b_FI_match 142 = .ok (.goto (-118), 3) := by decide +kernel
theorem d_FI_match_145 : decode b_FI_match 145 = .ok (.return_, 1) := by decide +kernel
abbrev b_FI_writeRow : ByteArray := prog_5_method_12_code
def y_FI_writeRow : MethodName := ⟨R_FI, "writeRow", "(LPipelineBelt$Writer;I)V"⟩
theorem kc_FI_writeRow : Cond.code y_FI_writeRow b_FI_writeRow 6 none ∈ lw_g := lw_gm (List.mem_append_right _ (List.mem_of_getElem? (i := 1001) (by decide +kernel))) rfl
abbrev mw_FI_writeRow : List Cond := Cond.code y_FI_writeRow b_FI_writeRow 6 none :: lw_g
theorem hd_FI_writeRow : y_FI_writeRow.cls = R_FI ∧ y_FI_writeRow.cls ≠ "java/lang/invoke/MethodHandle" ∧ y_FI_writeRow.cls ≠ "java/lang/invoke/VarHandle" ∧ (parseMethodDescriptor y_FI_writeRow.desc).map (fun d => d.parameters.length) = some 2 := by decide +kernel
theorem kp_FI_writeRow : Cond.selects R_FI y_FI_writeRow y_FI_writeRow ∈ lw_g := lw_gm (List.mem_append_left _ (by decide +kernel)) rfl
theorem d_FI_writeRow_0 : decode b_FI_writeRow 0 = .ok (.aload_n 1, 1) := by decide +kernel
theorem d_FI_writeRow_1 : decode b_FI_writeRow 1 = .ok (.invokevirtual 172, 3) := by decide +kernel
theorem d_FI_writeRow_4 : decode b_FI_writeRow 4 = .ok (.istore_n 3, 1) := by decide +kernel
theorem d_FI_writeRow_5 : decode b_FI_writeRow 5 = .ok (.iconst 0, 1) := by decide +kernel
theorem d_FI_writeRow_6 : decode b_FI_writeRow 6 = .ok (.istore 4, 2) := by decide +kernel
theorem d_FI_writeRow_8 : decode b_FI_writeRow 8 = .ok (.iconst 0, 1) := by decide +kernel
theorem d_FI_writeRow_9 : decode b_FI_writeRow 9 = .ok (.istore 5, 2) := by decide +kernel
theorem d_FI_writeRow_11 : decode b_FI_writeRow 11 = .ok (.iload 5, 2) := by decide +kernel
theorem d_FI_writeRow_13 : decode b_FI_writeRow 13 = .ok (.aload_n 0, 1) := by decide +kernel
theorem d_FI_writeRow_14 : decode b_FI_writeRow 14 = .ok (.getfield 34, 3) := by decide +kernel
theorem d_FI_writeRow_17 : decode b_FI_writeRow 17 = .ok (.getfield 99, 3) := by decide +kernel
theorem d_FI_writeRow_20 : decode b_FI_writeRow 20 = .ok (.getfield 105, 3) := by decide +kernel
theorem d_FI_writeRow_23 : decode b_FI_writeRow 23 = .ok (.if_icmp .ge 75, 3) := by decide +kernel
theorem d_FI_writeRow_26 : decode b_FI_writeRow 26 = .ok (.iload 5, 2) := by decide +kernel
theorem d_FI_writeRow_28 : decode b_FI_writeRow 28 = .ok (.sipush 200, 3) := by decide +kernel
theorem d_FI_writeRow_31 : decode b_FI_writeRow 31 = .ok (.if_icmp .ge 67, 3) := by decide +kernel
theorem d_FI_writeRow_34 : decode b_FI_writeRow 34 = .ok (.aload_n 1, 1) := by decide +kernel
theorem d_FI_writeRow_35 : decode b_FI_writeRow 35 = .ok (.getfield 193, 3) := by decide +kernel
theorem d_FI_writeRow_38 : decode b_FI_writeRow 38 = .ok (.ifCond .ne 60, 3) := by decide +kernel
theorem d_FI_writeRow_41 : decode b_FI_writeRow 41 = .ok (.aload_n 0, 1) := by decide +kernel
theorem d_FI_writeRow_42 : decode b_FI_writeRow 42 = .ok (.getfield 27, 3) := by decide +kernel
theorem d_FI_writeRow_45 : decode b_FI_writeRow 45 = .ok (.iload 5, 2) := by decide +kernel
theorem d_FI_writeRow_47 : decode b_FI_writeRow 47 = .ok (.iaload, 1) := by decide +kernel
theorem d_FI_writeRow_48 : decode b_FI_writeRow 48 = .ok (.iload_n 2, 1) := by decide +kernel
theorem d_FI_writeRow_49 : decode b_FI_writeRow 49 = .ok (.if_icmp .ne 43, 3) := by decide +kernel
theorem d_FI_writeRow_52 : decode b_FI_writeRow 52 = .ok (.aload_n 1, 1) := by decide +kernel
theorem d_FI_writeRow_53 : decode b_FI_writeRow 53 = .ok (.iconst 3, 1) := by decide +kernel
theorem d_FI_writeRow_54 : decode b_FI_writeRow 54 = .ok (.iload 4, 2) := by decide +kernel
theorem d_FI_writeRow_56 : decode b_FI_writeRow 56 = .ok (.invokevirtual 197, 3) := by decide +kernel
theorem d_FI_writeRow_59 : decode b_FI_writeRow 59 = .ok (.aload_n 1, 1) := by decide +kernel
theorem d_FI_writeRow_60 : decode b_FI_writeRow 60 = .ok (.aload_n 0, 1) := by decide +kernel
theorem d_FI_writeRow_61 : decode b_FI_writeRow 61 = .ok (.getfield 34, 3) := by decide +kernel
theorem d_FI_writeRow_64 : decode b_FI_writeRow 64 = .ok (.getfield 99, 3) := by decide +kernel
theorem d_FI_writeRow_67 : decode b_FI_writeRow 67 = .ok (.iload 5, 2) := by decide +kernel
theorem d_FI_writeRow_69 : decode b_FI_writeRow 69 = .ok (.invokevirtual 108, 3) := by decide +kernel
theorem d_FI_writeRow_72 : decode b_FI_writeRow 72 = .ok (.aload_n 0, 1) := by decide +kernel
theorem d_FI_writeRow_73 : decode b_FI_writeRow 73 = .ok (.getfield 34, 3) := by decide +kernel
theorem d_FI_writeRow_76 : decode b_FI_writeRow 76 = .ok (.getfield 99, 3) := by decide +kernel
theorem d_FI_writeRow_79 : decode b_FI_writeRow 79 = .ok (.iload 5, 2) := by decide +kernel
theorem d_FI_writeRow_81 : decode b_FI_writeRow 81 = .ok (.iconst 1, 1) := by decide +kernel
theorem d_FI_writeRow_82 : decode b_FI_writeRow 82 = .ok (.iadd, 1) := by decide +kernel
theorem d_FI_writeRow_83 : decode b_FI_writeRow 83 = .ok (.invokevirtual 108, 3) := by decide +kernel
theorem d_FI_writeRow_86 : decode b_FI_writeRow 86 = .ok (.invokevirtual 180, 3) := by decide +kernel
theorem d_FI_writeRow_89 : decode b_FI_writeRow 89 = .ok (.iinc 4 1, 3) := by decide +kernel
theorem d_FI_writeRow_92 : decode b_FI_writeRow 92 = .ok (.iinc 5 1, 3) := by decide +kernel
theorem d_FI_writeRow_95 : decode b_FI_writeRow 95 = .ok (.goto (-84), 3) := by decide +kernel
theorem d_FI_writeRow_98 : decode b_FI_writeRow 98 = .ok (.aload_n 1, 1) := by decide +kernel
theorem d_FI_writeRow_99 : decode b_FI_writeRow 99 = .ok (.iload_n 3, 1) := by decide +kernel
theorem d_FI_writeRow_100 : decode b_FI_writeRow 100 = .ok (.invokevirtual 190, 3) := by decide +kernel
theorem d_FI_writeRow_103 : decode b_FI_writeRow 103 = .ok (.return_, 1) := by decide +kernel
abbrev b_FI_gather : ByteArray := prog_5_method_4_code
def y_FI_gather : MethodName := ⟨R_FI, "gather", "()V"⟩
theorem kc_FI_gather : Cond.code y_FI_gather b_FI_gather 3 none ∈ lw_g := lw_gm (List.mem_append_right _ (List.mem_of_getElem? (i := 954) (by decide +kernel))) rfl
abbrev mw_FI_gather : List Cond := Cond.code y_FI_gather b_FI_gather 3 none :: lw_g
theorem hd_FI_gather : y_FI_gather.cls = R_FI ∧ y_FI_gather.cls ≠ "java/lang/invoke/MethodHandle" ∧ y_FI_gather.cls ≠ "java/lang/invoke/VarHandle" ∧ (parseMethodDescriptor y_FI_gather.desc).map (fun d => d.parameters.length) = some 0 := by decide +kernel
theorem kp_FI_gather : Cond.selects R_FI y_FI_gather y_FI_gather ∈ lw_g := lw_gm (List.mem_append_left _ (by decide +kernel)) rfl
theorem d_FI_gather_0 : decode b_FI_gather 0 = .ok (.aload_n 0, 1) := by decide +kernel
theorem d_FI_gather_1 : decode b_FI_gather 1 = .ok (.iconst 0, 1) := by decide +kernel
theorem d_FI_gather_2 : decode b_FI_gather 2 = .ok (.putfield 89, 3) := by decide +kernel
theorem d_FI_gather_5 : decode b_FI_gather 5 = .ok (.aload_n 0, 1) := by decide +kernel
theorem d_FI_gather_6 : decode b_FI_gather 6 = .ok (.getfield 11, 3) := by decide +kernel
theorem d_FI_gather_9 : decode b_FI_gather 9 = .ok (.iconst (-1), 1) := by decide +kernel
theorem d_FI_gather_10 : decode b_FI_gather 10 = .ok (.invokestatic 93, 3) := by decide +kernel
theorem d_FI_gather_13 : decode b_FI_gather 13 = .ok (.aload_n 0, 1) := by decide +kernel
theorem d_FI_gather_14 : decode b_FI_gather 14 = .ok (.getfield 27, 3) := by decide +kernel
theorem d_FI_gather_17 : decode b_FI_gather 17 = .ok (.iconst (-1), 1) := by decide +kernel
theorem d_FI_gather_18 : decode b_FI_gather 18 = .ok (.invokestatic 93, 3) := by decide +kernel
theorem d_FI_gather_21 : decode b_FI_gather 21 = .ok (.iconst 0, 1) := by decide +kernel
theorem d_FI_gather_22 : decode b_FI_gather 22 = .ok (.istore_n 1, 1) := by decide +kernel
theorem d_FI_gather_23 : decode b_FI_gather 23 = .ok (.iload_n 1, 1) := by decide +kernel
theorem d_FI_gather_24 : decode b_FI_gather 24 = .ok (.aload_n 0, 1) := by decide +kernel
theorem d_FI_gather_25 : decode b_FI_gather 25 = .ok (.getfield 34, 3) := by decide +kernel
theorem d_FI_gather_28 : decode b_FI_gather 28 = .ok (.getfield 99, 3) := by decide +kernel
theorem d_FI_gather_31 : decode b_FI_gather 31 = .ok (.getfield 105, 3) := by decide +kernel
theorem d_FI_gather_34 : decode b_FI_gather 34 = .ok (.if_icmp .ge 64, 3) := by decide +kernel
theorem d_FI_gather_37 : decode b_FI_gather 37 = .ok (.iload_n 1, 1) := by decide +kernel
theorem d_FI_gather_38 : decode b_FI_gather 38 = .ok (.sipush 200, 3) := by decide +kernel
theorem d_FI_gather_41 : decode b_FI_gather 41 = .ok (.if_icmp .ge 57, 3) := by decide +kernel
theorem d_FI_gather_44 : decode b_FI_gather 44 = .ok (.aload_n 0, 1) := by decide +kernel
theorem d_FI_gather_45 : decode b_FI_gather 45 = .ok (.getfield 38, 3) := by decide +kernel
theorem d_FI_gather_48 : decode b_FI_gather 48 = .ok (.iconst 3, 1) := by decide +kernel
theorem d_FI_gather_49 : decode b_FI_gather 49 = .ok (.aload_n 0, 1) := by decide +kernel
theorem d_FI_gather_50 : decode b_FI_gather 50 = .ok (.getfield 34, 3) := by decide +kernel
theorem d_FI_gather_53 : decode b_FI_gather 53 = .ok (.getfield 99, 3) := by decide +kernel
theorem d_FI_gather_56 : decode b_FI_gather 56 = .ok (.iload_n 1, 1) := by decide +kernel
theorem d_FI_gather_57 : decode b_FI_gather 57 = .ok (.invokevirtual 108, 3) := by decide +kernel
theorem d_FI_gather_60 : decode b_FI_gather 60 = .ok (.invokestatic 111, 3) := by decide +kernel
theorem d_FI_gather_63 : decode b_FI_gather 63 = .ok (.invokevirtual 115, 3) := by decide +kernel
theorem d_FI_gather_66 : decode b_FI_gather 66 = .ok (.iconst 0, 1) := by decide +kernel
theorem d_FI_gather_67 : decode b_FI_gather 67 = .ok (.istore_n 2, 1) := by decide +kernel
theorem d_FI_gather_68 : decode b_FI_gather 68 = .ok (.iload_n 2, 1) := by decide +kernel
theorem d_FI_gather_69 : decode b_FI_gather 69 = .ok (.aload_n 0, 1) := by decide +kernel
theorem d_FI_gather_70 : decode b_FI_gather 70 = .ok (.invokevirtual 119, 3) := by decide +kernel
theorem d_FI_gather_73 : decode b_FI_gather 73 = .ok (.if_icmp .ge 19, 3) := by decide +kernel
theorem d_FI_gather_76 : decode b_FI_gather 76 = .ok (.aload_n 0, 1) := by decide +kernel
theorem d_FI_gather_77 : decode b_FI_gather 77 = .ok (.aload_n 0, 1) := by decide +kernel
theorem d_FI_gather_78 : decode b_FI_gather 78 = .ok (.iload_n 2, 1) := by decide +kernel
theorem d_FI_gather_79 : decode b_FI_gather 79 = .ok (.invokevirtual 123, 3) := by decide +kernel
theorem d_FI_gather_82 : decode b_FI_gather 82 = .ok (.iload_n 1, 1) := by decide +kernel
theorem d_FI_gather_83 : decode b_FI_gather 83 = .ok (.invokevirtual 126, 3) := by decide +kernel
theorem d_FI_gather_86 : decode b_FI_gather 86 = .ok (.iinc 2 1, 3) := by decide +kernel
theorem d_FI_gather_89 : decode b_FI_gather 89 = .ok (.goto (-21), 3) := by decide +kernel
theorem d_FI_gather_92 : decode b_FI_gather 92 = .ok (.iinc 1 1, 3) := by decide +kernel
theorem d_FI_gather_95 : decode b_FI_gather 95 = .ok (.goto (-72), 3) := by decide +kernel
theorem d_FI_gather_98 : decode b_FI_gather 98 = .ok (.return_, 1) := by decide +kernel
section MS
variable {p : Program} {l : Launch} {e : Env} {R : Room} {s : State} {m : MethodId} {args : Array Value} {below : List Frame} {meth : Method} {c : Code} {H H0 : Heap} {locs : List Loc} {cells slots : Nat} {Q : State → Prop}
variable {y : MethodName} {bytes cc : ByteArray} {maxL nL n index : Nat} {ret : Option FieldType} {ws : List Cond} {rm : Room} {Ts : List Cond} {own C : String} {As rest st0 : List Value} {pc : Nat} {ls : Array Slot}
variable {D : va_G} {cB cI : ClassId} {wc wr wW : va_W} {A : Nat → Prop} {S : Type} {w1 : S → va_W}
theorem mt_Sv {post : S → Prop} (Sx : CallFix p m c cc nL s args Ts own)
    (hM : Met l y ws rm (va_Pc As (mt_P D cB cI wc H.size)) (va_Qv post (mt_B D (va_A wc H.size) w1) (va_A wc H.size)) 0 0 (va_A wc H.size))
    (cw : CallB R s args own index y bytes maxL ret ws rm 0 0 n ∧ (Cond.static y).before args s = true) (hk : hk_ D cB cI s) (hP : va_P D vwCl wW H) (hD : va_D A wW) (hS : va_S A H0 H locs) (hA : ∀ q, H0.size ≤ q → A q)
    (isC isR : List Nat) (hC : isC.map (fun i => wW[i]?) = wc.map some) (hCf : isC.filterMap (fun i => wW[i]?) = wc) (hR : isR.map (fun i => wW[i]?) = wr.map some) (hnC : va_nd isC = true) (hnR : va_nd isR = true) (hdis : ∀ i ∈ isR, i ∉ isC)
    (hn : As.length = n) (hsz : ls.size = nL) (hst : st0 = As.reverse ++ rest) (hcat : (rest.map fun v => v.category).sum ≤ 8) (hdg : decode cc pc = .ok (.invokestatic index, 3)) (hf : cells ≤ R.cells ∧ slots ≤ R.slots)
    (kk : ∀ (u : S) (H1 : Heap) (locs1 : List Loc), post u → va_P D vwCl (wr ++ w1 u) H1 → va_D A (wr ++ w1 u) → va_S A H0 H1 locs1 → W p l e R s m args below meth c H1 locs1 cells slots Q (F0 m (pc + 3) ls rest)) : W p l e R s m args below meth c H locs cells slots Q (F0 m pc ls st0) := by
  have hPc := hP.sub isC hCf
  have hDc := hD.sub isC hnC hC
  have hFc := va_free (wc := wc) hD hS hA isC hC
  refine va_callv (va_runS Sx hM cw ⟨mt_blind, mt_pre hk hPc hDc⟩ rfl hn hsz hst (lv_room hcat) hdg hf) hS (fun q _ h => hFc q h) hFc (fun u t H1 locs ht hvm hw hB hz1 hk1 hS => ?_)
  obtain ⟨hP1, hD1⟩ := hB
  rw [ht] at hP1
  obtain ⟨hP2, hD2⟩ := va_join hP hD isC isR hC hR hnR hdis hk1 hFc hP1 hD1
  exact kk u H1 locs hw hP2 hD2 hS
end MS
/-- leaves of belt 1 that are remembered -/
def f_ok (k : Int32) : Prop := 0 ≤ k.toInt ∧ k.toInt ≤ 13533
theorem f_0 : f_ok 0 := by unfold f_ok; decide
theorem f_inc {k : Int32} (h : f_ok k) (c : ¬ 13533 ≤ k) : f_ok (k + 1) := by
  have a := i_nle c
  have y : (13533 : Int32).toInt = 13533 := rfl
  have e : (k + 1).toInt = k.toInt + 1 := i_toInt1 (i_lt_of c)
  unfold f_ok at h ⊢
  omega
theorem in_f {x k : Int32} (h0 : ¬ x < 0) (c : ¬ k ≤ x) (h : f_ok k) : vp_in x 13533 := by
  have := i_nn h0
  have := i_nle c
  have := h.2
  rw [vp_in_iff]
  omega
theorem in_fn {k : Int32} (h : f_ok k) (c : ¬ 13533 ≤ k) : vp_in k 13533 := by
  have a := i_nle c
  have y : (13533 : Int32).toInt = 13533 := rfl
  have := h.1
  rw [vp_in_iff]
  omega

abbrev wd_JA_fill1024 (aFc : Nat) (cB cI : ClassId) (fch : Nat → Int32) : va_W := [(aFc, .inl (cI, 1024, .inl fch))]
set_option maxHeartbeats 4000000 in
set_option maxRecDepth 100000 in
theorem l_JA_fill1024_h5 {p : Program} {e : Env} {s : State} {m : MethodId} {args : Array Value} {below : List Frame} {meth : Method} {c : Code} {V : (Nat → Int32)} (C0 : lc_C p s m meth c args b_JA_fill 4 none R_JA lw_g) (l : Launch) (D : va_G) (cB cI : ClassId) (aFc : Nat) {A : Nat → Prop} (hk : hk_ D cB cI s) (hA : ∀ q : Nat, s.heap.size ≤ q → A q) (p1 : Int32) (x3 : Int32) (hx3 : x3 = 1024) : ∀ (n : Nat) (x2 : Int32) (fch : Nat → Int32), (x3.toInt - x2.toInt).toNat < n → ¬ x2 < 0 → V = tw_JA_fill1024_h5 p1 x3 n x2 fch → ∀ (H : Heap) (locs : List Loc), va_P D vwCl [(aFc, .inl (cI, 1024, .inl fch))] H → va_D A [(aFc, .inl (cI, 1024, .inl fch))] → va_S A s.heap H locs → ∀ ls : Array Slot, lv_has ls 4 [(0, .ref aFc), (1, .int p1), (2, .int x2), (3, .int x3)] → W p l e ({ frames := 0, cells := 0, slots := 0, locals := 0 }) s m args below meth c H locs 0 0 (MQ below (va_Qv (fun (u : (Nat → Int32)) => u = V) (mt_B D A (fun u => wd_JA_fill1024 aFc cB cI u)) A) args s 0 0 A) (F0 m 5 ls []) := by
  obtain ⟨hx, hb, hml, hr, hown, hlocks, hT⟩ := id C0
  have hK := hk.1
  have hN := hk.2.1
  intro n
  induction n with
  | zero =>
    intro x2 fch hm
    exact absurd hm (Nat.not_lt_zero _)
  | succ n ih =>
    intro x2 fch hm hv1 hV H locs hP hD hS ls hl
    refine lv_iload_n hx hb d_JA_fill_5 rfl (lv_at hl 2 rfl) ?_
    refine lv_iload_n hx hb d_JA_fill_6 rfl (lv_at hl 3 rfl) ?_
    refine lv_icmp_ge (tgt := 20) hx hb d_JA_fill_7 (by decide) (fun c_1 => ?_) (fun c_1 => ?_)
    · exact W.vret hx hb hr (fun t ht hW => ⟨⟨fch, rfl, (by rw [hV, tw_JA_fill1024_h5, if_pos c_1]; first | done | rfl), by rw [ht]; exact hP, hD⟩, hS.F ht⟩) hS.2.2 d_JA_fill_20
    · refine lv_aload_n hx hb d_JA_fill_10 rfl (lv_at hl 0 rfl) ?_
      refine lv_iload_n hx hb d_JA_fill_11 rfl (lv_at hl 2 rfl) ?_
      refine lv_iload_n hx hb d_JA_fill_12 rfl (lv_at hl 1 rfl) ?_
      refine va_iast hx hb hK hP hD hS 0 1 rfl rfl (in_nn (N := 1024) hv1 (by rw [← hx3]; exact c_1) rfl) d_JA_fill_13 (fun H locs hP hD hS => ?_)
      have hP : va_P D vwCl [(aFc, .inl (cI, 1024, .inl (upd fch x2.toNatClampNeg p1)))] H := hP
      have hD : va_D A [(aFc, .inl (cI, 1024, .inl (upd fch x2.toNatClampNeg p1)))] := hD
      refine lv_iinc (v := x2 + 1) (lv' := [(2, .int (x2 + 1)), (0, .ref aFc), (1, .int p1), (3, .int x3)]) hx hb d_JA_fill_14 hl (k := 2) rfl rfl (by decide) rfl (fun ls hl => ?_)
      refine lv_goto (tgt := 5) hx hb d_JA_fill_17 (by decide) ?_
      exact ih (x2 + 1) (upd fch x2.toNatClampNeg p1) (lp_up hm c_1) (i_upn hv1 c_1) (by rw [hV, tw_JA_fill1024_h5, if_neg c_1]) _ _ hP hD hS ls (lv_sub hl [1, 2, 0, 3] rfl)
set_option maxHeartbeats 4000000 in
set_option maxRecDepth 100000 in
theorem c_JA_fill1024 (l : Launch) (D : va_G) (cB cI : ClassId) (aFc : Nat) (sz : Nat) (fch : Nat → Int32) (p1 : Int32) : Met l y_JA_fill mw_JA_fill { frames := 0, cells := 0, slots := 0, locals := 0 } (va_Pc [.ref aFc, .int p1] (mt_P D cB cI (wd_JA_fill1024 aFc cB cI fch) sz)) (va_Qv (fun (u : (Nat → Int32)) => u = tw_JA_fill1024 fch p1) (mt_B D (va_A (wd_JA_fill1024 aFc cB cI fch) sz) (fun u => wd_JA_fill1024 aFc cB cI u)) (va_A (wd_JA_fill1024 aFc cB cI fch) sz)) 0 0 (va_A (wd_JA_fill1024 aFc cB cI fch) sz) := by
  refine Met.ofW (cc := b_JA_fill) (maxL := 4) (ret := none) (by decide) rfl ?_
  intro p e s m args below meth c s₁ B0 hml hv
  obtain ⟨rfl, hsz, hP, hk, hD0⟩ := hv
  have hK := hk.1
  have hN := hk.2.1
  have hx := B0.exec
  have hb := B0.bytes
  have hr := B0.returns
  have hT : ∀ w ∈ lw_g, w.before _ s = true := fun w h => atoms_spec (ws := mw_JA_fill) B0.pre w (List.mem_cons_of_mem _ h)
  have hown : s.vm.findClass R_JA = some m.cls := findClass_of_methodNamed B0.named
  have hlocks := B0.notSynchronized
  subst hsz
  have hD := hD0.self (sz := s.heap.size)
  generalize hAe : va_A [(aFc, .inl (cI, 1024, .inl fch))] s.heap.size = A at hD ⊢
  have hA : ∀ q : Nat, s.heap.size ≤ q → A q := fun q h => by rw [← hAe]; exact Or.inr h
  have hS : va_S A s.heap s.heap [] := va_S.rf
  have hl := lv_entry ([.ref aFc, .int p1]) (n := 4) (Nat.le_of_ble_eq_true rfl)
  rw [lg_entry_eq]
  generalize (lg_sl ([.ref aFc, .int p1]) ++ List.replicate (4 - (lg_sl ([.ref aFc, .int p1])).length) Slot.unset).toArray = ls at hl ⊢
  have hl : lv_has ls 4 [(0, .ref aFc), (1, .int p1)] := hl
  have C0 : lc_C p s m meth c _ b_JA_fill 4 none R_JA lw_g := ⟨hx, hb, hml, hr, hown, hlocks, hT⟩
  refine lv_iconst (v := 0) hx hb d_JA_fill_0 (by decide) ?_
  refine lv_istore_n (lv' := [(2, .int 0), (0, .ref aFc), (1, .int p1)]) hx hb d_JA_fill_1 rfl hl (by decide) rfl (fun ls hl => ?_)
  refine lv_aload_n hx hb d_JA_fill_2 rfl (lv_at hl 1 rfl) ?_
  refine va_alen (v := 1024) hx hb hK hP 0 1 rfl rfl rfl d_JA_fill_3 ?_
  refine lv_istore_n (lv' := [(3, .int 1024), (2, .int 0), (0, .ref aFc), (1, .int p1)]) hx hb d_JA_fill_4 rfl hl (by decide) rfl (fun ls hl => ?_)
  exact l_JA_fill1024_h5 C0 l D cB cI aFc hk hA p1 1024 (rfl) ((((1024 : Int32).toInt - (0 : Int32).toInt).toNat) + 1) 0 fch (Nat.lt_succ_self _) (by decide) (by rw [tw_JA_fill1024]) _ _ hP hD hS ls (lv_sub hl [2, 3, 1, 0] rfl)
abbrev wd_JA_fill200 (aFo : Nat) (cB cI : ClassId) (fow : Nat → Int32) : va_W := [(aFo, .inl (cI, 200, .inl fow))]
set_option maxHeartbeats 4000000 in
set_option maxRecDepth 100000 in
theorem l_JA_fill200_h5 {p : Program} {e : Env} {s : State} {m : MethodId} {args : Array Value} {below : List Frame} {meth : Method} {c : Code} {V : (Nat → Int32)} (C0 : lc_C p s m meth c args b_JA_fill 4 none R_JA lw_g) (l : Launch) (D : va_G) (cB cI : ClassId) (aFo : Nat) {A : Nat → Prop} (hk : hk_ D cB cI s) (hA : ∀ q : Nat, s.heap.size ≤ q → A q) (p1 : Int32) (x3 : Int32) (hx3 : x3 = 200) : ∀ (n : Nat) (x2 : Int32) (fow : Nat → Int32), (x3.toInt - x2.toInt).toNat < n → ¬ x2 < 0 → V = tw_JA_fill200_h5 p1 x3 n x2 fow → ∀ (H : Heap) (locs : List Loc), va_P D vwCl [(aFo, .inl (cI, 200, .inl fow))] H → va_D A [(aFo, .inl (cI, 200, .inl fow))] → va_S A s.heap H locs → ∀ ls : Array Slot, lv_has ls 4 [(0, .ref aFo), (1, .int p1), (2, .int x2), (3, .int x3)] → W p l e ({ frames := 0, cells := 0, slots := 0, locals := 0 }) s m args below meth c H locs 0 0 (MQ below (va_Qv (fun (u : (Nat → Int32)) => u = V) (mt_B D A (fun u => wd_JA_fill200 aFo cB cI u)) A) args s 0 0 A) (F0 m 5 ls []) := by
  obtain ⟨hx, hb, hml, hr, hown, hlocks, hT⟩ := id C0
  have hK := hk.1
  have hN := hk.2.1
  intro n
  induction n with
  | zero =>
    intro x2 fow hm
    exact absurd hm (Nat.not_lt_zero _)
  | succ n ih =>
    intro x2 fow hm hv1 hV H locs hP hD hS ls hl
    refine lv_iload_n hx hb d_JA_fill_5 rfl (lv_at hl 2 rfl) ?_
    refine lv_iload_n hx hb d_JA_fill_6 rfl (lv_at hl 3 rfl) ?_
    refine lv_icmp_ge (tgt := 20) hx hb d_JA_fill_7 (by decide) (fun c_1 => ?_) (fun c_1 => ?_)
    · exact W.vret hx hb hr (fun t ht hW => ⟨⟨fow, rfl, (by rw [hV, tw_JA_fill200_h5, if_pos c_1]; first | done | rfl), by rw [ht]; exact hP, hD⟩, hS.F ht⟩) hS.2.2 d_JA_fill_20
    · refine lv_aload_n hx hb d_JA_fill_10 rfl (lv_at hl 0 rfl) ?_
      refine lv_iload_n hx hb d_JA_fill_11 rfl (lv_at hl 2 rfl) ?_
      refine lv_iload_n hx hb d_JA_fill_12 rfl (lv_at hl 1 rfl) ?_
      refine va_iast hx hb hK hP hD hS 0 1 rfl rfl (in_nn (N := 200) hv1 (by rw [← hx3]; exact c_1) rfl) d_JA_fill_13 (fun H locs hP hD hS => ?_)
      have hP : va_P D vwCl [(aFo, .inl (cI, 200, .inl (upd fow x2.toNatClampNeg p1)))] H := hP
      have hD : va_D A [(aFo, .inl (cI, 200, .inl (upd fow x2.toNatClampNeg p1)))] := hD
      refine lv_iinc (v := x2 + 1) (lv' := [(2, .int (x2 + 1)), (0, .ref aFo), (1, .int p1), (3, .int x3)]) hx hb d_JA_fill_14 hl (k := 2) rfl rfl (by decide) rfl (fun ls hl => ?_)
      refine lv_goto (tgt := 5) hx hb d_JA_fill_17 (by decide) ?_
      exact ih (x2 + 1) (upd fow x2.toNatClampNeg p1) (lp_up hm c_1) (i_upn hv1 c_1) (by rw [hV, tw_JA_fill200_h5, if_neg c_1]) _ _ hP hD hS ls (lv_sub hl [1, 2, 0, 3] rfl)
set_option maxHeartbeats 4000000 in
set_option maxRecDepth 100000 in
theorem c_JA_fill200 (l : Launch) (D : va_G) (cB cI : ClassId) (aFo : Nat) (sz : Nat) (fow : Nat → Int32) (p1 : Int32) : Met l y_JA_fill mw_JA_fill { frames := 0, cells := 0, slots := 0, locals := 0 } (va_Pc [.ref aFo, .int p1] (mt_P D cB cI (wd_JA_fill200 aFo cB cI fow) sz)) (va_Qv (fun (u : (Nat → Int32)) => u = tw_JA_fill200 fow p1) (mt_B D (va_A (wd_JA_fill200 aFo cB cI fow) sz) (fun u => wd_JA_fill200 aFo cB cI u)) (va_A (wd_JA_fill200 aFo cB cI fow) sz)) 0 0 (va_A (wd_JA_fill200 aFo cB cI fow) sz) := by
  refine Met.ofW (cc := b_JA_fill) (maxL := 4) (ret := none) (by decide) rfl ?_
  intro p e s m args below meth c s₁ B0 hml hv
  obtain ⟨rfl, hsz, hP, hk, hD0⟩ := hv
  have hK := hk.1
  have hN := hk.2.1
  have hx := B0.exec
  have hb := B0.bytes
  have hr := B0.returns
  have hT : ∀ w ∈ lw_g, w.before _ s = true := fun w h => atoms_spec (ws := mw_JA_fill) B0.pre w (List.mem_cons_of_mem _ h)
  have hown : s.vm.findClass R_JA = some m.cls := findClass_of_methodNamed B0.named
  have hlocks := B0.notSynchronized
  subst hsz
  have hD := hD0.self (sz := s.heap.size)
  generalize hAe : va_A [(aFo, .inl (cI, 200, .inl fow))] s.heap.size = A at hD ⊢
  have hA : ∀ q : Nat, s.heap.size ≤ q → A q := fun q h => by rw [← hAe]; exact Or.inr h
  have hS : va_S A s.heap s.heap [] := va_S.rf
  have hl := lv_entry ([.ref aFo, .int p1]) (n := 4) (Nat.le_of_ble_eq_true rfl)
  rw [lg_entry_eq]
  generalize (lg_sl ([.ref aFo, .int p1]) ++ List.replicate (4 - (lg_sl ([.ref aFo, .int p1])).length) Slot.unset).toArray = ls at hl ⊢
  have hl : lv_has ls 4 [(0, .ref aFo), (1, .int p1)] := hl
  have C0 : lc_C p s m meth c _ b_JA_fill 4 none R_JA lw_g := ⟨hx, hb, hml, hr, hown, hlocks, hT⟩
  refine lv_iconst (v := 0) hx hb d_JA_fill_0 (by decide) ?_
  refine lv_istore_n (lv' := [(2, .int 0), (0, .ref aFo), (1, .int p1)]) hx hb d_JA_fill_1 rfl hl (by decide) rfl (fun ls hl => ?_)
  refine lv_aload_n hx hb d_JA_fill_2 rfl (lv_at hl 1 rfl) ?_
  refine va_alen (v := 200) hx hb hK hP 0 1 rfl rfl rfl d_JA_fill_3 ?_
  refine lv_istore_n (lv' := [(3, .int 200), (2, .int 0), (0, .ref aFo), (1, .int p1)]) hx hb d_JA_fill_4 rfl hl (by decide) rfl (fun ls hl => ?_)
  exact l_JA_fill200_h5 C0 l D cB cI aFo hk hA p1 200 (rfl) ((((200 : Int32).toInt - (0 : Int32).toInt).toNat) + 1) 0 fow (Nat.lt_succ_self _) (by decide) (by rw [tw_JA_fill200]) _ _ hP hD hS ls (lv_sub hl [2, 3, 1, 0] rfl)
set_option maxHeartbeats 4000000 in
set_option maxRecDepth 100000 in
theorem c_FI_chainOf (l : Launch) (D : va_G) (cB cI : ClassId) (p0 : Int32) : Met l y_FI_chainOf mw_FI_chainOf { frames := 0, cells := 0, slots := 0, locals := 0 } (va_Pc [.int p0] (fun U => va_P D vwCl [] U.heap ∧ hk_ D cB cI U)) (vp_Si (fun r => r = tw_FI_chainOf p0)) 0 0 (fun _ => False) := by
  refine Met.ofW (cc := b_FI_chainOf) (maxL := 1) (ret := (some .int)) (by decide) rfl ?_
  intro p e s m args below meth c s₁ B0 hml hv
  obtain ⟨rfl, hP, hk⟩ := hv
  have hK := hk.1
  have hN := hk.2.1
  have hx := B0.exec
  have hb := B0.bytes
  have hr := B0.returns
  have hT : ∀ w ∈ lw_g, w.before _ s = true := fun w h => atoms_spec (ws := mw_FI_chainOf) B0.pre w (List.mem_cons_of_mem _ h)
  have hown : s.vm.findClass R_FI = some m.cls := findClass_of_methodNamed B0.named
  have hlocks := B0.notSynchronized
  have hl := lv_entry ([.int p0]) (n := 1) (Nat.le_of_ble_eq_true rfl)
  rw [lg_entry_eq]
  generalize (lg_sl ([.int p0]) ++ List.replicate (1 - (lg_sl ([.int p0])).length) Slot.unset).toArray = ls at hl ⊢
  have hl : lv_has ls 1 [(0, .int p0)] := hl
  refine lv_iload_n hx hb d_FI_chainOf_0 rfl (lv_at hl 0 rfl) ?_
  refine lv_iload_n hx hb d_FI_chainOf_1 rfl (lv_at hl 0 rfl) ?_
  refine lv_bipush (v := 10) hx hb d_FI_chainOf_2 (by decide) ?_
  refine lv_iushr (v := (p0.toUInt32 >>> ((10 : Int32).toUInt32 &&& Int32.toUInt32 31)).toInt32) hx hb d_FI_chainOf_4 rfl ?_
  refine lv_ixor hx hb d_FI_chainOf_5 ?_
  refine lv_iload_n hx hb d_FI_chainOf_6 rfl (lv_at hl 0 rfl) ?_
  refine lv_bipush (v := 20) hx hb d_FI_chainOf_7 (by decide) ?_
  refine lv_iushr (v := (p0.toUInt32 >>> ((20 : Int32).toUInt32 &&& Int32.toUInt32 31)).toInt32) hx hb d_FI_chainOf_9 rfl ?_
  refine lv_ixor hx hb d_FI_chainOf_10 ?_
  refine lv_sipush (v := 1023) hx hb d_FI_chainOf_11 (by decide) ?_
  refine lv_iand hx hb d_FI_chainOf_14 ?_
  exact W.iret (v := ((p0 ^^^ ((p0.toUInt32 >>> ((10 : Int32).toUInt32 &&& Int32.toUInt32 31)).toInt32)) ^^^ ((p0.toUInt32 >>> ((20 : Int32).toUInt32 &&& Int32.toUInt32 31)).toInt32)) &&& 1023) hx hb hr (fun t ht hW => ⟨((p0 ^^^ ((p0.toUInt32 >>> ((10 : Int32).toUInt32 &&& Int32.toUInt32 31)).toInt32)) ^^^ ((p0.toUInt32 >>> ((20 : Int32).toUInt32 &&& Int32.toUInt32 31)).toInt32)) &&& 1023, rfl, (by rw [tw_FI_chainOf]; first | done | rfl), ht⟩) (fun _ h => by cases h) d_FI_chainOf_15
set_option maxHeartbeats 4000000 in
set_option maxRecDepth 100000 in
theorem c_FI_leavesToTake (l : Launch) (D : va_G) (cB cI : ClassId) (aX aS aY aP aFc aFn aFl aFh aFd aFo aV aPs aPe aPi aPh aPl aPn : Nat) (fict : Int32) (pcnt : Int32) (pfix : Bool) (pown : Int32) (plc : Int32) (psr : Int32) (pbs : Int32) (pms : Bool) : Met l y_FI_leavesToTake mw_FI_leavesToTake { frames := 1, cells := 0, slots := 0, locals := 13 } (va_Pc [.ref aX] (fun U => va_P D vwCl [(aX, .inr (9, [.ref aS, .ref aY, .ref aP, .ref aFc, .ref aFn, .ref aFl, .ref aFh, .ref aFd, .int fict, .ref aFo])), (aP, .inr (5, [.ref aS, .ref aV, .ref aPs, .ref aPe, .ref aPi, .ref aPh, .int pcnt, .int (b2i pfix), .int pown, .ref aPl, .ref aPn, .int plc, .int psr, .int pbs, .int (b2i pms)]))] U.heap ∧ hk_ D cB cI U)) (vp_Si (fun r => r = tw_FI_leavesToTake plc)) 0 0 (fun _ => False) := by
  refine Met.ofW (cc := b_FI_leavesToTake) (maxL := 1) (ret := (some .int)) (by decide) rfl ?_
  intro p e s m args below meth c s₁ B0 hml hv
  obtain ⟨rfl, hP, hk⟩ := hv
  have hK := hk.1
  have hN := hk.2.1
  have hx := B0.exec
  have hb := B0.bytes
  have hr := B0.returns
  have hT : ∀ w ∈ lw_g, w.before _ s = true := fun w h => atoms_spec (ws := mw_FI_leavesToTake) B0.pre w (List.mem_cons_of_mem _ h)
  have hown : s.vm.findClass R_FI = some m.cls := findClass_of_methodNamed B0.named
  have hlocks := B0.notSynchronized
  have hl := lv_entry ([.ref aX]) (n := 1) (Nat.le_of_ble_eq_true rfl)
  rw [lg_entry_eq]
  generalize (lg_sl ([.ref aX]) ++ List.replicate (1 - (lg_sl ([.ref aX])).length) Slot.unset).toArray = ls at hl ⊢
  have hl : lv_has ls 1 [(0, .ref aX)] := hl
  refine lv_aload_n hx hb d_FI_leavesToTake_0 rfl (lv_at hl 0 rfl) ?_
  refine va_get (D := D) (ci := 9) (v := .ref aP) (C := R_FI) (T := T_FI) (N := 10) hx hb hT u_FI hown hK hP 0 rfl rfl 2 (by decide) (hT _ k_287) (fun _ h9 => h9) rfl d_FI_leavesToTake_1 ?_
  refine va_getN (D := D) (ci := 5) (v := .int plc) (C := R_PA) (T := T_PA) (N := 15) hx hb hT u_PA hown hK hP 1 rfl rfl 11 (by decide) (va_Nw.use rfl (hN ("PipelineBelt$Finder", 130, "PipelineBelt$Path", "leafCount", "I", "PipelineBelt") (by decide))) (fun _ h9 => h9) rfl d_FI_leavesToTake_4 ?_
  refine lv_iconst (v := 1) hx hb d_FI_leavesToTake_7 (by decide) ?_
  refine va_mmax hx hb (hml.trans hl.1.symm) hown (hT _ k_965) (hT _ k_627) (hT _ k_13) (hT _ kc_JM_max) (Nat.le_of_ble_eq_true rfl) (Nat.le_of_ble_eq_true rfl) (Nat.zero_le _) (Nat.zero_le _) d_FI_leavesToTake_8 ?_
  exact W.iret (v := if plc < 1 then 1 else plc) hx hb hr (fun t ht hW => ⟨if plc < 1 then 1 else plc, rfl, (by rw [tw_FI_leavesToTake]; first | done | rfl), ht⟩) (fun _ h => by cases h) d_FI_leavesToTake_11
set_option maxHeartbeats 4000000 in
set_option maxRecDepth 100000 in
theorem c_FI_leafToTake (l : Launch) (D : va_G) (cB cI : ClassId) (aX aS aY aP aFc aFn aFl aFh aFd aFo aV aPs aPe aPi aPh aPl aPn : Nat) (fict : Int32) (pcnt : Int32) (pfix : Bool) (pown : Int32) (plc : Int32) (psr : Int32) (pbs : Int32) (pms : Bool) (plv : Nat → Int32) (p0 : Int32) : Met l y_FI_leafToTake mw_FI_leafToTake { frames := 1, cells := 0, slots := 0, locals := 21 } (va_Pc [.ref aX, .int p0] (fun U => va_P D vwCl [(aX, .inr (9, [.ref aS, .ref aY, .ref aP, .ref aFc, .ref aFn, .ref aFl, .ref aFh, .ref aFd, .int fict, .ref aFo])), (aP, .inr (5, [.ref aS, .ref aV, .ref aPs, .ref aPe, .ref aPi, .ref aPh, .int pcnt, .int (b2i pfix), .int pown, .ref aPl, .ref aPn, .int plc, .int psr, .int pbs, .int (b2i pms)])), (aPl, .inl (cI, 1001, .inl plv))] U.heap ∧ hk_ D cB cI U)) (vp_Si (fun r => r = tw_FI_leafToTake plc plv p0)) 0 0 (fun _ => False) := by
  refine Met.ofW (cc := b_FI_leafToTake) (maxL := 3) (ret := (some .int)) (by decide) rfl ?_
  intro p e s m args below meth c s₁ B0 hml hv
  obtain ⟨rfl, hP, hk⟩ := hv
  have hK := hk.1
  have hN := hk.2.1
  have hx := B0.exec
  have hb := B0.bytes
  have hr := B0.returns
  have hT : ∀ w ∈ lw_g, w.before _ s = true := fun w h => atoms_spec (ws := mw_FI_leafToTake) B0.pre w (List.mem_cons_of_mem _ h)
  have hown : s.vm.findClass R_FI = some m.cls := findClass_of_methodNamed B0.named
  have hlocks := B0.notSynchronized
  have hl := lv_entry ([.ref aX, .int p0]) (n := 3) (Nat.le_of_ble_eq_true rfl)
  rw [lg_entry_eq]
  generalize (lg_sl ([.ref aX, .int p0]) ++ List.replicate (3 - (lg_sl ([.ref aX, .int p0])).length) Slot.unset).toArray = ls at hl ⊢
  have hl : lv_has ls 3 [(0, .ref aX), (1, .int p0)] := hl
  refine lv_aload_n hx hb d_FI_leafToTake_0 rfl (lv_at hl 0 rfl) ?_
  refine va_get (D := D) (ci := 9) (v := .ref aP) (C := R_FI) (T := T_FI) (N := 10) hx hb hT u_FI hown hK hP 0 rfl rfl 2 (by decide) (hT _ k_287) (fun _ h9 => h9) rfl d_FI_leafToTake_1 ?_
  refine lv_iload_n hx hb d_FI_leafToTake_4 rfl (lv_at hl 1 rfl) ?_
  refine rd_V (val := tw_PA_leaf plc plv p0) (As := [.int p0]) (rest := []) ⟨hx, hb, hml, hown, hT⟩ (c_PA_leaf l D cB cI aP aS aV aPs aPe aPi aPh aPl aPn pcnt pfix pown plc psr pbs pms plv p0) (cwV 1 hT (gV_of k_970 k_900 k_901 k_7 kc_PA_leaf) rfl rfl rfl hd_PA_leaf ⟨Nat.le_of_ble_eq_true rfl, Nat.le_of_ble_eq_true rfl⟩) hk (hP.sub (ws' := [(aP, .inr (5, [.ref aS, .ref aV, .ref aPs, .ref aPe, .ref aPi, .ref aPh, .int pcnt, .int (b2i pfix), .int pown, .ref aPl, .ref aPn, .int plc, .int psr, .int pbs, .int (b2i pms)])), (aPl, .inl (cI, 1001, .inl plv))]) [1, 2] rfl) (q0 := 0) rfl rfl rfl rfl hl.1 rfl (Nat.le_of_ble_eq_true rfl) d_FI_leafToTake_5 ⟨Nat.zero_le _, Nat.zero_le _⟩ ?_
  refine lv_istore_n (lv' := [(2, .int (tw_PA_leaf plc plv p0)), (0, .ref aX), (1, .int p0)]) hx hb d_FI_leafToTake_8 rfl hl (by decide) rfl (fun ls hl => ?_)
  refine lv_iload_n hx hb d_FI_leafToTake_9 rfl (lv_at hl 0 rfl) ?_
  refine lv_if_ne (tgt := 18) hx hb d_FI_leafToTake_10 (by decide) (fun c_1 => ?_) (fun c_1 => ?_)
  · refine lv_iload_n hx hb d_FI_leafToTake_18 rfl (lv_at hl 0 rfl) ?_
    exact W.iret (v := tw_PA_leaf plc plv p0) hx hb hr (fun t ht hW => ⟨tw_PA_leaf plc plv p0, rfl, (by rw [tw_FI_leafToTake, if_neg c_1]; first | done | rfl), ht⟩) (fun _ h => by cases h) d_FI_leafToTake_19
  · refine lv_bipush (v := 10) hx hb d_FI_leafToTake_13 (by decide) ?_
    refine lv_goto (tgt := 19) hx hb d_FI_leafToTake_15 (by decide) ?_
    exact W.iret (v := 10) hx hb hr (fun t ht hW => ⟨10, rfl, (by rw [tw_FI_leafToTake, if_pos c_1]; first | done | rfl), ht⟩) (fun _ h => by cases h) d_FI_leafToTake_19
theorem ch_in (x : Int32) : vp_in (tw_FI_chainOf x) 1024 := by
  unfold tw_FI_chainOf
  exact pk_andIn _ 10 (by decide) (by decide)

abbrev wd_FI_remember (aX aS aY aP aFc aFn aFl aFh aFd aFo aB : Nat) (cB cI : ClassId) (b : Nat → UInt8) (fict : Int32) (fch : Nat → Int32) (fnx : Nat → Int32) (flv : Nat → Int32) (fhs : Nat → Int32) (fdo : Nat → Int32) : va_W := [(aX, .inr (9, [.ref aS, .ref aY, .ref aP, .ref aFc, .ref aFn, .ref aFl, .ref aFh, .ref aFd, .int fict, .ref aFo])), (aS, .inr (0, [.ref aB])), (aB, .inl (cB, 202000, .inl (by_ b))), (aFc, .inl (cI, 1024, .inl fch)), (aFn, .inl (cI, 13533, .inl fnx)), (aFl, .inl (cI, 13533, .inl flv)), (aFh, .inl (cI, 13533, .inl fhs)), (aFd, .inl (cI, 13533, .inl fdo))]
set_option maxHeartbeats 4000000 in
set_option maxRecDepth 100000 in
theorem l_FI_remember_h28 {p : Program} {e : Env} {s : State} {m : MethodId} {args : Array Value} {below : List Frame} {meth : Method} {c : Code} {V : Int32 × (Nat → Int32) × (Nat → Int32) × (Nat → Int32) × (Nat → Int32) × (Nat → Int32)} (C0 : lc_C p s m meth c args b_FI_remember 7 none R_FI lw_g) (l : Launch) (D : va_G) (cB cI : ClassId) (aX aS aY aP aFc aFn aFl aFh aFd aFo aB : Nat) (b : Nat → UInt8) {A : Nat → Prop} (hk : hk_ D cB cI s) (hA : ∀ q : Nat, s.heap.size ≤ q → A q) (p0 : Int32) (p1 : Int32) (x3 : Int32) (x4 : Int32) (hx4 : vp_in x4 1024) : ∀ (n : Nat) (x5 : Int32) (x6 : Int32) (fict : Int32) (fch : Nat → Int32) (fnx : Nat → Int32) (flv : Nat → Int32) (fhs : Nat → Int32) (fdo : Nat → Int32), (fict.toInt - x6.toInt).toNat < n → f_ok fict → V = tw_FI_remember_h28 b p0 p1 x3 x4 n x5 x6 fict fch fnx flv fhs fdo → ∀ (H : Heap) (locs : List Loc), va_P D vwCl [(aX, .inr (9, [.ref aS, .ref aY, .ref aP, .ref aFc, .ref aFn, .ref aFl, .ref aFh, .ref aFd, .int fict, .ref aFo])), (aS, .inr (0, [.ref aB])), (aB, .inl (cB, 202000, .inl (by_ b))), (aFc, .inl (cI, 1024, .inl fch)), (aFn, .inl (cI, 13533, .inl fnx)), (aFl, .inl (cI, 13533, .inl flv)), (aFh, .inl (cI, 13533, .inl fhs)), (aFd, .inl (cI, 13533, .inl fdo))] H → va_D A [(aX, .inr (9, [.ref aS, .ref aY, .ref aP, .ref aFc, .ref aFn, .ref aFl, .ref aFh, .ref aFd, .int fict, .ref aFo])), (aS, .inr (0, [.ref aB])), (aB, .inl (cB, 202000, .inl (by_ b))), (aFc, .inl (cI, 1024, .inl fch)), (aFn, .inl (cI, 13533, .inl fnx)), (aFl, .inl (cI, 13533, .inl flv)), (aFh, .inl (cI, 13533, .inl fhs)), (aFd, .inl (cI, 13533, .inl fdo))] → va_S A s.heap H locs → ∀ ls : Array Slot, lv_has ls 7 [(0, .ref aX), (1, .int p0), (2, .int p1), (3, .int x3), (4, .int x4), (5, .int x5), (6, .int x6)] → W p l e ({ frames := 416, cells := 0, slots := 0, locals := 9984 }) s m args below meth c H locs 0 0 (MQ below (va_Qv (fun (u : Int32 × (Nat → Int32) × (Nat → Int32) × (Nat → Int32) × (Nat → Int32) × (Nat → Int32)) => u = V ∧ f_ok u.1) (mt_B D A (fun u => wd_FI_remember aX aS aY aP aFc aFn aFl aFh aFd aFo aB cB cI b u.1 u.2.1 u.2.2.1 u.2.2.2.1 u.2.2.2.2.1 u.2.2.2.2.2)) A) args s 0 0 A) (F0 m 28 ls []) := by
  obtain ⟨hx, hb, hml, hr, hown, hlocks, hT⟩ := id C0
  have hK := hk.1
  have hN := hk.2.1
  intro n
  induction n with
  | zero =>
    intro x5 x6 fict fch fnx flv fhs fdo hm
    exact absurd hm (Nat.not_lt_zero _)
  | succ n ih =>
    intro x5 x6 fict fch fnx flv fhs fdo hm hi hV H locs hP hD hS ls hl
    refine lv_iload hx hb d_FI_remember_28 (lv_at hl 6 rfl) ?_
    refine lv_aload_n hx hb d_FI_remember_30 rfl (lv_at hl 0 rfl) ?_
    refine va_get (D := D) (ci := 9) (v := .int fict) (C := R_FI) (T := T_FI) (N := 10) hx hb hT u_FI hown hK hP 0 rfl rfl 8 (by decide) (hT _ k_293) (fun _ h9 => h9) rfl d_FI_remember_31 ?_
    refine lv_icmp_ge (tgt := 108) hx hb d_FI_remember_34 (by decide) (fun c_1 => ?_) (fun c_1 => ?_)
    · refine lv_aload_n hx hb d_FI_remember_108 rfl (lv_at hl 0 rfl) ?_
      refine va_get (D := D) (ci := 9) (v := .int fict) (C := R_FI) (T := T_FI) (N := 10) hx hb hT u_FI hown hK hP 0 rfl rfl 8 (by decide) (hT _ k_293) (fun _ h9 => h9) rfl d_FI_remember_109 ?_
      refine lv_sipush (v := 13533) hx hb d_FI_remember_112 (by decide) ?_
      refine lv_icmp_ge (tgt := 185) hx hb d_FI_remember_115 (by decide) (fun c_2 => ?_) (fun c_2 => ?_)
      · exact W.vret hx hb hr (fun t ht hW => ⟨⟨(fict, fch, fnx, flv, fhs, fdo), rfl, ⟨(by rw [hV, tw_FI_remember_h28, if_pos c_1, if_pos c_2]; first | done | rfl), hi⟩, by rw [ht]; exact hP, hD⟩, hS.F ht⟩) hS.2.2 d_FI_remember_185
      · refine lv_aload_n hx hb d_FI_remember_118 rfl (lv_at hl 0 rfl) ?_
        refine va_get (D := D) (ci := 9) (v := .ref aFl) (C := R_FI) (T := T_FI) (N := 10) hx hb hT u_FI hown hK hP 0 rfl rfl 5 (by decide) (hT _ k_290) (fun _ h9 => h9) rfl d_FI_remember_119 ?_
        refine lv_aload_n hx hb d_FI_remember_122 rfl (lv_at hl 0 rfl) ?_
        refine va_get (D := D) (ci := 9) (v := .int fict) (C := R_FI) (T := T_FI) (N := 10) hx hb hT u_FI hown hK hP 0 rfl rfl 8 (by decide) (hT _ k_293) (fun _ h9 => h9) rfl d_FI_remember_123 ?_
        refine lv_iload_n hx hb d_FI_remember_126 rfl (lv_at hl 1 rfl) ?_
        refine va_iast hx hb hK hP hD hS 5 1 rfl rfl (in_fn hi c_2) d_FI_remember_127 (fun H locs hP hD hS => ?_)
        have hP : va_P D vwCl [(aX, .inr (9, [.ref aS, .ref aY, .ref aP, .ref aFc, .ref aFn, .ref aFl, .ref aFh, .ref aFd, .int fict, .ref aFo])), (aS, .inr (0, [.ref aB])), (aB, .inl (cB, 202000, .inl (by_ b))), (aFc, .inl (cI, 1024, .inl fch)), (aFn, .inl (cI, 13533, .inl fnx)), (aFl, .inl (cI, 13533, .inl (upd flv fict.toNatClampNeg p0))), (aFh, .inl (cI, 13533, .inl fhs)), (aFd, .inl (cI, 13533, .inl fdo))] H := hP
        have hD : va_D A [(aX, .inr (9, [.ref aS, .ref aY, .ref aP, .ref aFc, .ref aFn, .ref aFl, .ref aFh, .ref aFd, .int fict, .ref aFo])), (aS, .inr (0, [.ref aB])), (aB, .inl (cB, 202000, .inl (by_ b))), (aFc, .inl (cI, 1024, .inl fch)), (aFn, .inl (cI, 13533, .inl fnx)), (aFl, .inl (cI, 13533, .inl (upd flv fict.toNatClampNeg p0))), (aFh, .inl (cI, 13533, .inl fhs)), (aFd, .inl (cI, 13533, .inl fdo))] := hD
        refine lv_aload_n hx hb d_FI_remember_128 rfl (lv_at hl 0 rfl) ?_
        refine va_get (D := D) (ci := 9) (v := .ref aFh) (C := R_FI) (T := T_FI) (N := 10) hx hb hT u_FI hown hK hP 0 rfl rfl 6 (by decide) (hT _ k_291) (fun _ h9 => h9) rfl d_FI_remember_129 ?_
        refine lv_aload_n hx hb d_FI_remember_132 rfl (lv_at hl 0 rfl) ?_
        refine va_get (D := D) (ci := 9) (v := .int fict) (C := R_FI) (T := T_FI) (N := 10) hx hb hT u_FI hown hK hP 0 rfl rfl 8 (by decide) (hT _ k_293) (fun _ h9 => h9) rfl d_FI_remember_133 ?_
        refine lv_iload_n hx hb d_FI_remember_136 rfl (lv_at hl 3 rfl) ?_
        refine va_iast hx hb hK hP hD hS 6 1 rfl rfl (in_fn hi c_2) d_FI_remember_137 (fun H locs hP hD hS => ?_)
        have hP : va_P D vwCl [(aX, .inr (9, [.ref aS, .ref aY, .ref aP, .ref aFc, .ref aFn, .ref aFl, .ref aFh, .ref aFd, .int fict, .ref aFo])), (aS, .inr (0, [.ref aB])), (aB, .inl (cB, 202000, .inl (by_ b))), (aFc, .inl (cI, 1024, .inl fch)), (aFn, .inl (cI, 13533, .inl fnx)), (aFl, .inl (cI, 13533, .inl (upd flv fict.toNatClampNeg p0))), (aFh, .inl (cI, 13533, .inl (upd fhs fict.toNatClampNeg x3))), (aFd, .inl (cI, 13533, .inl fdo))] H := hP
        have hD : va_D A [(aX, .inr (9, [.ref aS, .ref aY, .ref aP, .ref aFc, .ref aFn, .ref aFl, .ref aFh, .ref aFd, .int fict, .ref aFo])), (aS, .inr (0, [.ref aB])), (aB, .inl (cB, 202000, .inl (by_ b))), (aFc, .inl (cI, 1024, .inl fch)), (aFn, .inl (cI, 13533, .inl fnx)), (aFl, .inl (cI, 13533, .inl (upd flv fict.toNatClampNeg p0))), (aFh, .inl (cI, 13533, .inl (upd fhs fict.toNatClampNeg x3))), (aFd, .inl (cI, 13533, .inl fdo))] := hD
        refine lv_aload_n hx hb d_FI_remember_138 rfl (lv_at hl 0 rfl) ?_
        refine va_get (D := D) (ci := 9) (v := .ref aFd) (C := R_FI) (T := T_FI) (N := 10) hx hb hT u_FI hown hK hP 0 rfl rfl 7 (by decide) (hT _ k_292) (fun _ h9 => h9) rfl d_FI_remember_139 ?_
        refine lv_aload_n hx hb d_FI_remember_142 rfl (lv_at hl 0 rfl) ?_
        refine va_get (D := D) (ci := 9) (v := .int fict) (C := R_FI) (T := T_FI) (N := 10) hx hb hT u_FI hown hK hP 0 rfl rfl 8 (by decide) (hT _ k_293) (fun _ h9 => h9) rfl d_FI_remember_143 ?_
        refine lv_iload_n hx hb d_FI_remember_146 rfl (lv_at hl 2 rfl) ?_
        refine va_iast hx hb hK hP hD hS 7 1 rfl rfl (in_fn hi c_2) d_FI_remember_147 (fun H locs hP hD hS => ?_)
        have hP : va_P D vwCl [(aX, .inr (9, [.ref aS, .ref aY, .ref aP, .ref aFc, .ref aFn, .ref aFl, .ref aFh, .ref aFd, .int fict, .ref aFo])), (aS, .inr (0, [.ref aB])), (aB, .inl (cB, 202000, .inl (by_ b))), (aFc, .inl (cI, 1024, .inl fch)), (aFn, .inl (cI, 13533, .inl fnx)), (aFl, .inl (cI, 13533, .inl (upd flv fict.toNatClampNeg p0))), (aFh, .inl (cI, 13533, .inl (upd fhs fict.toNatClampNeg x3))), (aFd, .inl (cI, 13533, .inl (upd fdo fict.toNatClampNeg p1)))] H := hP
        have hD : va_D A [(aX, .inr (9, [.ref aS, .ref aY, .ref aP, .ref aFc, .ref aFn, .ref aFl, .ref aFh, .ref aFd, .int fict, .ref aFo])), (aS, .inr (0, [.ref aB])), (aB, .inl (cB, 202000, .inl (by_ b))), (aFc, .inl (cI, 1024, .inl fch)), (aFn, .inl (cI, 13533, .inl fnx)), (aFl, .inl (cI, 13533, .inl (upd flv fict.toNatClampNeg p0))), (aFh, .inl (cI, 13533, .inl (upd fhs fict.toNatClampNeg x3))), (aFd, .inl (cI, 13533, .inl (upd fdo fict.toNatClampNeg p1)))] := hD
        refine lv_aload_n hx hb d_FI_remember_148 rfl (lv_at hl 0 rfl) ?_
        refine va_get (D := D) (ci := 9) (v := .ref aFn) (C := R_FI) (T := T_FI) (N := 10) hx hb hT u_FI hown hK hP 0 rfl rfl 4 (by decide) (hT _ k_289) (fun _ h9 => h9) rfl d_FI_remember_149 ?_
        refine lv_aload_n hx hb d_FI_remember_152 rfl (lv_at hl 0 rfl) ?_
        refine va_get (D := D) (ci := 9) (v := .int fict) (C := R_FI) (T := T_FI) (N := 10) hx hb hT u_FI hown hK hP 0 rfl rfl 8 (by decide) (hT _ k_293) (fun _ h9 => h9) rfl d_FI_remember_153 ?_
        refine lv_aload_n hx hb d_FI_remember_156 rfl (lv_at hl 0 rfl) ?_
        refine va_get (D := D) (ci := 9) (v := .ref aFc) (C := R_FI) (T := T_FI) (N := 10) hx hb hT u_FI hown hK hP 0 rfl rfl 3 (by decide) (hT _ k_288) (fun _ h9 => h9) rfl d_FI_remember_157 ?_
        refine lv_iload hx hb d_FI_remember_160 (lv_at hl 4 rfl) ?_
        refine va_iald hx hb hK hP 3 1 rfl rfl (hx4) d_FI_remember_162 ?_
        refine va_iast hx hb hK hP hD hS 4 1 rfl rfl (in_fn hi c_2) d_FI_remember_163 (fun H locs hP hD hS => ?_)
        have hP : va_P D vwCl [(aX, .inr (9, [.ref aS, .ref aY, .ref aP, .ref aFc, .ref aFn, .ref aFl, .ref aFh, .ref aFd, .int fict, .ref aFo])), (aS, .inr (0, [.ref aB])), (aB, .inl (cB, 202000, .inl (by_ b))), (aFc, .inl (cI, 1024, .inl fch)), (aFn, .inl (cI, 13533, .inl (upd fnx fict.toNatClampNeg (fch x4.toNatClampNeg)))), (aFl, .inl (cI, 13533, .inl (upd flv fict.toNatClampNeg p0))), (aFh, .inl (cI, 13533, .inl (upd fhs fict.toNatClampNeg x3))), (aFd, .inl (cI, 13533, .inl (upd fdo fict.toNatClampNeg p1)))] H := hP
        have hD : va_D A [(aX, .inr (9, [.ref aS, .ref aY, .ref aP, .ref aFc, .ref aFn, .ref aFl, .ref aFh, .ref aFd, .int fict, .ref aFo])), (aS, .inr (0, [.ref aB])), (aB, .inl (cB, 202000, .inl (by_ b))), (aFc, .inl (cI, 1024, .inl fch)), (aFn, .inl (cI, 13533, .inl (upd fnx fict.toNatClampNeg (fch x4.toNatClampNeg)))), (aFl, .inl (cI, 13533, .inl (upd flv fict.toNatClampNeg p0))), (aFh, .inl (cI, 13533, .inl (upd fhs fict.toNatClampNeg x3))), (aFd, .inl (cI, 13533, .inl (upd fdo fict.toNatClampNeg p1)))] := hD
        refine lv_aload_n hx hb d_FI_remember_164 rfl (lv_at hl 0 rfl) ?_
        refine va_get (D := D) (ci := 9) (v := .ref aFc) (C := R_FI) (T := T_FI) (N := 10) hx hb hT u_FI hown hK hP 0 rfl rfl 3 (by decide) (hT _ k_288) (fun _ h9 => h9) rfl d_FI_remember_165 ?_
        refine lv_iload hx hb d_FI_remember_168 (lv_at hl 4 rfl) ?_
        refine lv_aload_n hx hb d_FI_remember_170 rfl (lv_at hl 0 rfl) ?_
        refine va_get (D := D) (ci := 9) (v := .int fict) (C := R_FI) (T := T_FI) (N := 10) hx hb hT u_FI hown hK hP 0 rfl rfl 8 (by decide) (hT _ k_293) (fun _ h9 => h9) rfl d_FI_remember_171 ?_
        refine va_iast hx hb hK hP hD hS 3 1 rfl rfl (hx4) d_FI_remember_174 (fun H locs hP hD hS => ?_)
        have hP : va_P D vwCl [(aX, .inr (9, [.ref aS, .ref aY, .ref aP, .ref aFc, .ref aFn, .ref aFl, .ref aFh, .ref aFd, .int fict, .ref aFo])), (aS, .inr (0, [.ref aB])), (aB, .inl (cB, 202000, .inl (by_ b))), (aFc, .inl (cI, 1024, .inl (upd fch x4.toNatClampNeg fict))), (aFn, .inl (cI, 13533, .inl (upd fnx fict.toNatClampNeg (fch x4.toNatClampNeg)))), (aFl, .inl (cI, 13533, .inl (upd flv fict.toNatClampNeg p0))), (aFh, .inl (cI, 13533, .inl (upd fhs fict.toNatClampNeg x3))), (aFd, .inl (cI, 13533, .inl (upd fdo fict.toNatClampNeg p1)))] H := hP
        have hD : va_D A [(aX, .inr (9, [.ref aS, .ref aY, .ref aP, .ref aFc, .ref aFn, .ref aFl, .ref aFh, .ref aFd, .int fict, .ref aFo])), (aS, .inr (0, [.ref aB])), (aB, .inl (cB, 202000, .inl (by_ b))), (aFc, .inl (cI, 1024, .inl (upd fch x4.toNatClampNeg fict))), (aFn, .inl (cI, 13533, .inl (upd fnx fict.toNatClampNeg (fch x4.toNatClampNeg)))), (aFl, .inl (cI, 13533, .inl (upd flv fict.toNatClampNeg p0))), (aFh, .inl (cI, 13533, .inl (upd fhs fict.toNatClampNeg x3))), (aFd, .inl (cI, 13533, .inl (upd fdo fict.toNatClampNeg p1)))] := hD
        refine lv_aload_n hx hb d_FI_remember_175 rfl (lv_at hl 0 rfl) ?_
        refine lv_dup hx hb d_FI_remember_176 rfl ?_
        refine va_get (D := D) (ci := 9) (v := .int fict) (C := R_FI) (T := T_FI) (N := 10) hx hb hT u_FI hown hK hP 0 rfl rfl 8 (by decide) (hT _ k_293) (fun _ h9 => h9) rfl d_FI_remember_177 ?_
        refine lv_iconst (v := 1) hx hb d_FI_remember_180 (by decide) ?_
        refine lv_iadd hx hb d_FI_remember_181 ?_
        refine va_put (D := D) (ci := 9) (v := .int (fict + 1)) (ty := .int) (C := R_FI) (T := T_FI) (N := 10) hx hb hT u_FI ty_FI tyok_FI nm_FI hown hK hP hD hS 0 rfl rfl 8 (by decide) (hT _ k_293) (fun _ h9 => h9) rfl (by decide +kernel) (rfl) (rfl) (Nat.le_of_ble_eq_true rfl) d_FI_remember_182 (fun H locs hP hD hS => ?_)
        have hP : va_P D vwCl [(aX, .inr (9, [.ref aS, .ref aY, .ref aP, .ref aFc, .ref aFn, .ref aFl, .ref aFh, .ref aFd, .int (fict + 1), .ref aFo])), (aS, .inr (0, [.ref aB])), (aB, .inl (cB, 202000, .inl (by_ b))), (aFc, .inl (cI, 1024, .inl (upd fch x4.toNatClampNeg fict))), (aFn, .inl (cI, 13533, .inl (upd fnx fict.toNatClampNeg (fch x4.toNatClampNeg)))), (aFl, .inl (cI, 13533, .inl (upd flv fict.toNatClampNeg p0))), (aFh, .inl (cI, 13533, .inl (upd fhs fict.toNatClampNeg x3))), (aFd, .inl (cI, 13533, .inl (upd fdo fict.toNatClampNeg p1)))] H := hP
        have hD : va_D A [(aX, .inr (9, [.ref aS, .ref aY, .ref aP, .ref aFc, .ref aFn, .ref aFl, .ref aFh, .ref aFd, .int (fict + 1), .ref aFo])), (aS, .inr (0, [.ref aB])), (aB, .inl (cB, 202000, .inl (by_ b))), (aFc, .inl (cI, 1024, .inl (upd fch x4.toNatClampNeg fict))), (aFn, .inl (cI, 13533, .inl (upd fnx fict.toNatClampNeg (fch x4.toNatClampNeg)))), (aFl, .inl (cI, 13533, .inl (upd flv fict.toNatClampNeg p0))), (aFh, .inl (cI, 13533, .inl (upd fhs fict.toNatClampNeg x3))), (aFd, .inl (cI, 13533, .inl (upd fdo fict.toNatClampNeg p1)))] := hD
        exact W.vret hx hb hr (fun t ht hW => ⟨⟨(fict + 1, upd fch x4.toNatClampNeg fict, upd fnx fict.toNatClampNeg (fch x4.toNatClampNeg), upd flv fict.toNatClampNeg p0, upd fhs fict.toNatClampNeg x3, upd fdo fict.toNatClampNeg p1), rfl, ⟨(by rw [hV, tw_FI_remember_h28, if_pos c_1, if_neg c_2]; first | done | rfl), (f_inc hi c_2)⟩, by rw [ht]; exact hP, hD⟩, hS.F ht⟩) hS.2.2 d_FI_remember_185
    · refine lv_iload hx hb d_FI_remember_37 (lv_at hl 5 rfl) ?_
      refine lv_if_lt (tgt := 108) hx hb d_FI_remember_39 (by decide) (fun c_3 => ?_) (fun c_3 => ?_)
      · refine lv_aload_n hx hb d_FI_remember_108 rfl (lv_at hl 0 rfl) ?_
        refine va_get (D := D) (ci := 9) (v := .int fict) (C := R_FI) (T := T_FI) (N := 10) hx hb hT u_FI hown hK hP 0 rfl rfl 8 (by decide) (hT _ k_293) (fun _ h9 => h9) rfl d_FI_remember_109 ?_
        refine lv_sipush (v := 13533) hx hb d_FI_remember_112 (by decide) ?_
        refine lv_icmp_ge (tgt := 185) hx hb d_FI_remember_115 (by decide) (fun c_4 => ?_) (fun c_4 => ?_)
        · exact W.vret hx hb hr (fun t ht hW => ⟨⟨(fict, fch, fnx, flv, fhs, fdo), rfl, ⟨(by rw [hV, tw_FI_remember_h28, if_neg c_1, if_pos c_3, if_pos c_4]; first | done | rfl), hi⟩, by rw [ht]; exact hP, hD⟩, hS.F ht⟩) hS.2.2 d_FI_remember_185
        · refine lv_aload_n hx hb d_FI_remember_118 rfl (lv_at hl 0 rfl) ?_
          refine va_get (D := D) (ci := 9) (v := .ref aFl) (C := R_FI) (T := T_FI) (N := 10) hx hb hT u_FI hown hK hP 0 rfl rfl 5 (by decide) (hT _ k_290) (fun _ h9 => h9) rfl d_FI_remember_119 ?_
          refine lv_aload_n hx hb d_FI_remember_122 rfl (lv_at hl 0 rfl) ?_
          refine va_get (D := D) (ci := 9) (v := .int fict) (C := R_FI) (T := T_FI) (N := 10) hx hb hT u_FI hown hK hP 0 rfl rfl 8 (by decide) (hT _ k_293) (fun _ h9 => h9) rfl d_FI_remember_123 ?_
          refine lv_iload_n hx hb d_FI_remember_126 rfl (lv_at hl 1 rfl) ?_
          refine va_iast hx hb hK hP hD hS 5 1 rfl rfl (in_fn hi c_4) d_FI_remember_127 (fun H locs hP hD hS => ?_)
          have hP : va_P D vwCl [(aX, .inr (9, [.ref aS, .ref aY, .ref aP, .ref aFc, .ref aFn, .ref aFl, .ref aFh, .ref aFd, .int fict, .ref aFo])), (aS, .inr (0, [.ref aB])), (aB, .inl (cB, 202000, .inl (by_ b))), (aFc, .inl (cI, 1024, .inl fch)), (aFn, .inl (cI, 13533, .inl fnx)), (aFl, .inl (cI, 13533, .inl (upd flv fict.toNatClampNeg p0))), (aFh, .inl (cI, 13533, .inl fhs)), (aFd, .inl (cI, 13533, .inl fdo))] H := hP
          have hD : va_D A [(aX, .inr (9, [.ref aS, .ref aY, .ref aP, .ref aFc, .ref aFn, .ref aFl, .ref aFh, .ref aFd, .int fict, .ref aFo])), (aS, .inr (0, [.ref aB])), (aB, .inl (cB, 202000, .inl (by_ b))), (aFc, .inl (cI, 1024, .inl fch)), (aFn, .inl (cI, 13533, .inl fnx)), (aFl, .inl (cI, 13533, .inl (upd flv fict.toNatClampNeg p0))), (aFh, .inl (cI, 13533, .inl fhs)), (aFd, .inl (cI, 13533, .inl fdo))] := hD
          refine lv_aload_n hx hb d_FI_remember_128 rfl (lv_at hl 0 rfl) ?_
          refine va_get (D := D) (ci := 9) (v := .ref aFh) (C := R_FI) (T := T_FI) (N := 10) hx hb hT u_FI hown hK hP 0 rfl rfl 6 (by decide) (hT _ k_291) (fun _ h9 => h9) rfl d_FI_remember_129 ?_
          refine lv_aload_n hx hb d_FI_remember_132 rfl (lv_at hl 0 rfl) ?_
          refine va_get (D := D) (ci := 9) (v := .int fict) (C := R_FI) (T := T_FI) (N := 10) hx hb hT u_FI hown hK hP 0 rfl rfl 8 (by decide) (hT _ k_293) (fun _ h9 => h9) rfl d_FI_remember_133 ?_
          refine lv_iload_n hx hb d_FI_remember_136 rfl (lv_at hl 3 rfl) ?_
          refine va_iast hx hb hK hP hD hS 6 1 rfl rfl (in_fn hi c_4) d_FI_remember_137 (fun H locs hP hD hS => ?_)
          have hP : va_P D vwCl [(aX, .inr (9, [.ref aS, .ref aY, .ref aP, .ref aFc, .ref aFn, .ref aFl, .ref aFh, .ref aFd, .int fict, .ref aFo])), (aS, .inr (0, [.ref aB])), (aB, .inl (cB, 202000, .inl (by_ b))), (aFc, .inl (cI, 1024, .inl fch)), (aFn, .inl (cI, 13533, .inl fnx)), (aFl, .inl (cI, 13533, .inl (upd flv fict.toNatClampNeg p0))), (aFh, .inl (cI, 13533, .inl (upd fhs fict.toNatClampNeg x3))), (aFd, .inl (cI, 13533, .inl fdo))] H := hP
          have hD : va_D A [(aX, .inr (9, [.ref aS, .ref aY, .ref aP, .ref aFc, .ref aFn, .ref aFl, .ref aFh, .ref aFd, .int fict, .ref aFo])), (aS, .inr (0, [.ref aB])), (aB, .inl (cB, 202000, .inl (by_ b))), (aFc, .inl (cI, 1024, .inl fch)), (aFn, .inl (cI, 13533, .inl fnx)), (aFl, .inl (cI, 13533, .inl (upd flv fict.toNatClampNeg p0))), (aFh, .inl (cI, 13533, .inl (upd fhs fict.toNatClampNeg x3))), (aFd, .inl (cI, 13533, .inl fdo))] := hD
          refine lv_aload_n hx hb d_FI_remember_138 rfl (lv_at hl 0 rfl) ?_
          refine va_get (D := D) (ci := 9) (v := .ref aFd) (C := R_FI) (T := T_FI) (N := 10) hx hb hT u_FI hown hK hP 0 rfl rfl 7 (by decide) (hT _ k_292) (fun _ h9 => h9) rfl d_FI_remember_139 ?_
          refine lv_aload_n hx hb d_FI_remember_142 rfl (lv_at hl 0 rfl) ?_
          refine va_get (D := D) (ci := 9) (v := .int fict) (C := R_FI) (T := T_FI) (N := 10) hx hb hT u_FI hown hK hP 0 rfl rfl 8 (by decide) (hT _ k_293) (fun _ h9 => h9) rfl d_FI_remember_143 ?_
          refine lv_iload_n hx hb d_FI_remember_146 rfl (lv_at hl 2 rfl) ?_
          refine va_iast hx hb hK hP hD hS 7 1 rfl rfl (in_fn hi c_4) d_FI_remember_147 (fun H locs hP hD hS => ?_)
          have hP : va_P D vwCl [(aX, .inr (9, [.ref aS, .ref aY, .ref aP, .ref aFc, .ref aFn, .ref aFl, .ref aFh, .ref aFd, .int fict, .ref aFo])), (aS, .inr (0, [.ref aB])), (aB, .inl (cB, 202000, .inl (by_ b))), (aFc, .inl (cI, 1024, .inl fch)), (aFn, .inl (cI, 13533, .inl fnx)), (aFl, .inl (cI, 13533, .inl (upd flv fict.toNatClampNeg p0))), (aFh, .inl (cI, 13533, .inl (upd fhs fict.toNatClampNeg x3))), (aFd, .inl (cI, 13533, .inl (upd fdo fict.toNatClampNeg p1)))] H := hP
          have hD : va_D A [(aX, .inr (9, [.ref aS, .ref aY, .ref aP, .ref aFc, .ref aFn, .ref aFl, .ref aFh, .ref aFd, .int fict, .ref aFo])), (aS, .inr (0, [.ref aB])), (aB, .inl (cB, 202000, .inl (by_ b))), (aFc, .inl (cI, 1024, .inl fch)), (aFn, .inl (cI, 13533, .inl fnx)), (aFl, .inl (cI, 13533, .inl (upd flv fict.toNatClampNeg p0))), (aFh, .inl (cI, 13533, .inl (upd fhs fict.toNatClampNeg x3))), (aFd, .inl (cI, 13533, .inl (upd fdo fict.toNatClampNeg p1)))] := hD
          refine lv_aload_n hx hb d_FI_remember_148 rfl (lv_at hl 0 rfl) ?_
          refine va_get (D := D) (ci := 9) (v := .ref aFn) (C := R_FI) (T := T_FI) (N := 10) hx hb hT u_FI hown hK hP 0 rfl rfl 4 (by decide) (hT _ k_289) (fun _ h9 => h9) rfl d_FI_remember_149 ?_
          refine lv_aload_n hx hb d_FI_remember_152 rfl (lv_at hl 0 rfl) ?_
          refine va_get (D := D) (ci := 9) (v := .int fict) (C := R_FI) (T := T_FI) (N := 10) hx hb hT u_FI hown hK hP 0 rfl rfl 8 (by decide) (hT _ k_293) (fun _ h9 => h9) rfl d_FI_remember_153 ?_
          refine lv_aload_n hx hb d_FI_remember_156 rfl (lv_at hl 0 rfl) ?_
          refine va_get (D := D) (ci := 9) (v := .ref aFc) (C := R_FI) (T := T_FI) (N := 10) hx hb hT u_FI hown hK hP 0 rfl rfl 3 (by decide) (hT _ k_288) (fun _ h9 => h9) rfl d_FI_remember_157 ?_
          refine lv_iload hx hb d_FI_remember_160 (lv_at hl 4 rfl) ?_
          refine va_iald hx hb hK hP 3 1 rfl rfl (hx4) d_FI_remember_162 ?_
          refine va_iast hx hb hK hP hD hS 4 1 rfl rfl (in_fn hi c_4) d_FI_remember_163 (fun H locs hP hD hS => ?_)
          have hP : va_P D vwCl [(aX, .inr (9, [.ref aS, .ref aY, .ref aP, .ref aFc, .ref aFn, .ref aFl, .ref aFh, .ref aFd, .int fict, .ref aFo])), (aS, .inr (0, [.ref aB])), (aB, .inl (cB, 202000, .inl (by_ b))), (aFc, .inl (cI, 1024, .inl fch)), (aFn, .inl (cI, 13533, .inl (upd fnx fict.toNatClampNeg (fch x4.toNatClampNeg)))), (aFl, .inl (cI, 13533, .inl (upd flv fict.toNatClampNeg p0))), (aFh, .inl (cI, 13533, .inl (upd fhs fict.toNatClampNeg x3))), (aFd, .inl (cI, 13533, .inl (upd fdo fict.toNatClampNeg p1)))] H := hP
          have hD : va_D A [(aX, .inr (9, [.ref aS, .ref aY, .ref aP, .ref aFc, .ref aFn, .ref aFl, .ref aFh, .ref aFd, .int fict, .ref aFo])), (aS, .inr (0, [.ref aB])), (aB, .inl (cB, 202000, .inl (by_ b))), (aFc, .inl (cI, 1024, .inl fch)), (aFn, .inl (cI, 13533, .inl (upd fnx fict.toNatClampNeg (fch x4.toNatClampNeg)))), (aFl, .inl (cI, 13533, .inl (upd flv fict.toNatClampNeg p0))), (aFh, .inl (cI, 13533, .inl (upd fhs fict.toNatClampNeg x3))), (aFd, .inl (cI, 13533, .inl (upd fdo fict.toNatClampNeg p1)))] := hD
          refine lv_aload_n hx hb d_FI_remember_164 rfl (lv_at hl 0 rfl) ?_
          refine va_get (D := D) (ci := 9) (v := .ref aFc) (C := R_FI) (T := T_FI) (N := 10) hx hb hT u_FI hown hK hP 0 rfl rfl 3 (by decide) (hT _ k_288) (fun _ h9 => h9) rfl d_FI_remember_165 ?_
          refine lv_iload hx hb d_FI_remember_168 (lv_at hl 4 rfl) ?_
          refine lv_aload_n hx hb d_FI_remember_170 rfl (lv_at hl 0 rfl) ?_
          refine va_get (D := D) (ci := 9) (v := .int fict) (C := R_FI) (T := T_FI) (N := 10) hx hb hT u_FI hown hK hP 0 rfl rfl 8 (by decide) (hT _ k_293) (fun _ h9 => h9) rfl d_FI_remember_171 ?_
          refine va_iast hx hb hK hP hD hS 3 1 rfl rfl (hx4) d_FI_remember_174 (fun H locs hP hD hS => ?_)
          have hP : va_P D vwCl [(aX, .inr (9, [.ref aS, .ref aY, .ref aP, .ref aFc, .ref aFn, .ref aFl, .ref aFh, .ref aFd, .int fict, .ref aFo])), (aS, .inr (0, [.ref aB])), (aB, .inl (cB, 202000, .inl (by_ b))), (aFc, .inl (cI, 1024, .inl (upd fch x4.toNatClampNeg fict))), (aFn, .inl (cI, 13533, .inl (upd fnx fict.toNatClampNeg (fch x4.toNatClampNeg)))), (aFl, .inl (cI, 13533, .inl (upd flv fict.toNatClampNeg p0))), (aFh, .inl (cI, 13533, .inl (upd fhs fict.toNatClampNeg x3))), (aFd, .inl (cI, 13533, .inl (upd fdo fict.toNatClampNeg p1)))] H := hP
          have hD : va_D A [(aX, .inr (9, [.ref aS, .ref aY, .ref aP, .ref aFc, .ref aFn, .ref aFl, .ref aFh, .ref aFd, .int fict, .ref aFo])), (aS, .inr (0, [.ref aB])), (aB, .inl (cB, 202000, .inl (by_ b))), (aFc, .inl (cI, 1024, .inl (upd fch x4.toNatClampNeg fict))), (aFn, .inl (cI, 13533, .inl (upd fnx fict.toNatClampNeg (fch x4.toNatClampNeg)))), (aFl, .inl (cI, 13533, .inl (upd flv fict.toNatClampNeg p0))), (aFh, .inl (cI, 13533, .inl (upd fhs fict.toNatClampNeg x3))), (aFd, .inl (cI, 13533, .inl (upd fdo fict.toNatClampNeg p1)))] := hD
          refine lv_aload_n hx hb d_FI_remember_175 rfl (lv_at hl 0 rfl) ?_
          refine lv_dup hx hb d_FI_remember_176 rfl ?_
          refine va_get (D := D) (ci := 9) (v := .int fict) (C := R_FI) (T := T_FI) (N := 10) hx hb hT u_FI hown hK hP 0 rfl rfl 8 (by decide) (hT _ k_293) (fun _ h9 => h9) rfl d_FI_remember_177 ?_
          refine lv_iconst (v := 1) hx hb d_FI_remember_180 (by decide) ?_
          refine lv_iadd hx hb d_FI_remember_181 ?_
          refine va_put (D := D) (ci := 9) (v := .int (fict + 1)) (ty := .int) (C := R_FI) (T := T_FI) (N := 10) hx hb hT u_FI ty_FI tyok_FI nm_FI hown hK hP hD hS 0 rfl rfl 8 (by decide) (hT _ k_293) (fun _ h9 => h9) rfl (by decide +kernel) (rfl) (rfl) (Nat.le_of_ble_eq_true rfl) d_FI_remember_182 (fun H locs hP hD hS => ?_)
          have hP : va_P D vwCl [(aX, .inr (9, [.ref aS, .ref aY, .ref aP, .ref aFc, .ref aFn, .ref aFl, .ref aFh, .ref aFd, .int (fict + 1), .ref aFo])), (aS, .inr (0, [.ref aB])), (aB, .inl (cB, 202000, .inl (by_ b))), (aFc, .inl (cI, 1024, .inl (upd fch x4.toNatClampNeg fict))), (aFn, .inl (cI, 13533, .inl (upd fnx fict.toNatClampNeg (fch x4.toNatClampNeg)))), (aFl, .inl (cI, 13533, .inl (upd flv fict.toNatClampNeg p0))), (aFh, .inl (cI, 13533, .inl (upd fhs fict.toNatClampNeg x3))), (aFd, .inl (cI, 13533, .inl (upd fdo fict.toNatClampNeg p1)))] H := hP
          have hD : va_D A [(aX, .inr (9, [.ref aS, .ref aY, .ref aP, .ref aFc, .ref aFn, .ref aFl, .ref aFh, .ref aFd, .int (fict + 1), .ref aFo])), (aS, .inr (0, [.ref aB])), (aB, .inl (cB, 202000, .inl (by_ b))), (aFc, .inl (cI, 1024, .inl (upd fch x4.toNatClampNeg fict))), (aFn, .inl (cI, 13533, .inl (upd fnx fict.toNatClampNeg (fch x4.toNatClampNeg)))), (aFl, .inl (cI, 13533, .inl (upd flv fict.toNatClampNeg p0))), (aFh, .inl (cI, 13533, .inl (upd fhs fict.toNatClampNeg x3))), (aFd, .inl (cI, 13533, .inl (upd fdo fict.toNatClampNeg p1)))] := hD
          exact W.vret hx hb hr (fun t ht hW => ⟨⟨(fict + 1, upd fch x4.toNatClampNeg fict, upd fnx fict.toNatClampNeg (fch x4.toNatClampNeg), upd flv fict.toNatClampNeg p0, upd fhs fict.toNatClampNeg x3, upd fdo fict.toNatClampNeg p1), rfl, ⟨(by rw [hV, tw_FI_remember_h28, if_neg c_1, if_pos c_3, if_neg c_4]; first | done | rfl), (f_inc hi c_4)⟩, by rw [ht]; exact hP, hD⟩, hS.F ht⟩) hS.2.2 d_FI_remember_185
      · refine lv_iload hx hb d_FI_remember_42 (lv_at hl 5 rfl) ?_
        refine lv_aload_n hx hb d_FI_remember_44 rfl (lv_at hl 0 rfl) ?_
        refine va_get (D := D) (ci := 9) (v := .int fict) (C := R_FI) (T := T_FI) (N := 10) hx hb hT u_FI hown hK hP 0 rfl rfl 8 (by decide) (hT _ k_293) (fun _ h9 => h9) rfl d_FI_remember_45 ?_
        refine lv_icmp_ge (tgt := 108) hx hb d_FI_remember_48 (by decide) (fun c_5 => ?_) (fun c_5 => ?_)
        · refine lv_aload_n hx hb d_FI_remember_108 rfl (lv_at hl 0 rfl) ?_
          refine va_get (D := D) (ci := 9) (v := .int fict) (C := R_FI) (T := T_FI) (N := 10) hx hb hT u_FI hown hK hP 0 rfl rfl 8 (by decide) (hT _ k_293) (fun _ h9 => h9) rfl d_FI_remember_109 ?_
          refine lv_sipush (v := 13533) hx hb d_FI_remember_112 (by decide) ?_
          refine lv_icmp_ge (tgt := 185) hx hb d_FI_remember_115 (by decide) (fun c_6 => ?_) (fun c_6 => ?_)
          · exact W.vret hx hb hr (fun t ht hW => ⟨⟨(fict, fch, fnx, flv, fhs, fdo), rfl, ⟨(by rw [hV, tw_FI_remember_h28, if_neg c_1, if_neg c_3, if_pos c_5, if_pos c_6]; first | done | rfl), hi⟩, by rw [ht]; exact hP, hD⟩, hS.F ht⟩) hS.2.2 d_FI_remember_185
          · refine lv_aload_n hx hb d_FI_remember_118 rfl (lv_at hl 0 rfl) ?_
            refine va_get (D := D) (ci := 9) (v := .ref aFl) (C := R_FI) (T := T_FI) (N := 10) hx hb hT u_FI hown hK hP 0 rfl rfl 5 (by decide) (hT _ k_290) (fun _ h9 => h9) rfl d_FI_remember_119 ?_
            refine lv_aload_n hx hb d_FI_remember_122 rfl (lv_at hl 0 rfl) ?_
            refine va_get (D := D) (ci := 9) (v := .int fict) (C := R_FI) (T := T_FI) (N := 10) hx hb hT u_FI hown hK hP 0 rfl rfl 8 (by decide) (hT _ k_293) (fun _ h9 => h9) rfl d_FI_remember_123 ?_
            refine lv_iload_n hx hb d_FI_remember_126 rfl (lv_at hl 1 rfl) ?_
            refine va_iast hx hb hK hP hD hS 5 1 rfl rfl (in_fn hi c_6) d_FI_remember_127 (fun H locs hP hD hS => ?_)
            have hP : va_P D vwCl [(aX, .inr (9, [.ref aS, .ref aY, .ref aP, .ref aFc, .ref aFn, .ref aFl, .ref aFh, .ref aFd, .int fict, .ref aFo])), (aS, .inr (0, [.ref aB])), (aB, .inl (cB, 202000, .inl (by_ b))), (aFc, .inl (cI, 1024, .inl fch)), (aFn, .inl (cI, 13533, .inl fnx)), (aFl, .inl (cI, 13533, .inl (upd flv fict.toNatClampNeg p0))), (aFh, .inl (cI, 13533, .inl fhs)), (aFd, .inl (cI, 13533, .inl fdo))] H := hP
            have hD : va_D A [(aX, .inr (9, [.ref aS, .ref aY, .ref aP, .ref aFc, .ref aFn, .ref aFl, .ref aFh, .ref aFd, .int fict, .ref aFo])), (aS, .inr (0, [.ref aB])), (aB, .inl (cB, 202000, .inl (by_ b))), (aFc, .inl (cI, 1024, .inl fch)), (aFn, .inl (cI, 13533, .inl fnx)), (aFl, .inl (cI, 13533, .inl (upd flv fict.toNatClampNeg p0))), (aFh, .inl (cI, 13533, .inl fhs)), (aFd, .inl (cI, 13533, .inl fdo))] := hD
            refine lv_aload_n hx hb d_FI_remember_128 rfl (lv_at hl 0 rfl) ?_
            refine va_get (D := D) (ci := 9) (v := .ref aFh) (C := R_FI) (T := T_FI) (N := 10) hx hb hT u_FI hown hK hP 0 rfl rfl 6 (by decide) (hT _ k_291) (fun _ h9 => h9) rfl d_FI_remember_129 ?_
            refine lv_aload_n hx hb d_FI_remember_132 rfl (lv_at hl 0 rfl) ?_
            refine va_get (D := D) (ci := 9) (v := .int fict) (C := R_FI) (T := T_FI) (N := 10) hx hb hT u_FI hown hK hP 0 rfl rfl 8 (by decide) (hT _ k_293) (fun _ h9 => h9) rfl d_FI_remember_133 ?_
            refine lv_iload_n hx hb d_FI_remember_136 rfl (lv_at hl 3 rfl) ?_
            refine va_iast hx hb hK hP hD hS 6 1 rfl rfl (in_fn hi c_6) d_FI_remember_137 (fun H locs hP hD hS => ?_)
            have hP : va_P D vwCl [(aX, .inr (9, [.ref aS, .ref aY, .ref aP, .ref aFc, .ref aFn, .ref aFl, .ref aFh, .ref aFd, .int fict, .ref aFo])), (aS, .inr (0, [.ref aB])), (aB, .inl (cB, 202000, .inl (by_ b))), (aFc, .inl (cI, 1024, .inl fch)), (aFn, .inl (cI, 13533, .inl fnx)), (aFl, .inl (cI, 13533, .inl (upd flv fict.toNatClampNeg p0))), (aFh, .inl (cI, 13533, .inl (upd fhs fict.toNatClampNeg x3))), (aFd, .inl (cI, 13533, .inl fdo))] H := hP
            have hD : va_D A [(aX, .inr (9, [.ref aS, .ref aY, .ref aP, .ref aFc, .ref aFn, .ref aFl, .ref aFh, .ref aFd, .int fict, .ref aFo])), (aS, .inr (0, [.ref aB])), (aB, .inl (cB, 202000, .inl (by_ b))), (aFc, .inl (cI, 1024, .inl fch)), (aFn, .inl (cI, 13533, .inl fnx)), (aFl, .inl (cI, 13533, .inl (upd flv fict.toNatClampNeg p0))), (aFh, .inl (cI, 13533, .inl (upd fhs fict.toNatClampNeg x3))), (aFd, .inl (cI, 13533, .inl fdo))] := hD
            refine lv_aload_n hx hb d_FI_remember_138 rfl (lv_at hl 0 rfl) ?_
            refine va_get (D := D) (ci := 9) (v := .ref aFd) (C := R_FI) (T := T_FI) (N := 10) hx hb hT u_FI hown hK hP 0 rfl rfl 7 (by decide) (hT _ k_292) (fun _ h9 => h9) rfl d_FI_remember_139 ?_
            refine lv_aload_n hx hb d_FI_remember_142 rfl (lv_at hl 0 rfl) ?_
            refine va_get (D := D) (ci := 9) (v := .int fict) (C := R_FI) (T := T_FI) (N := 10) hx hb hT u_FI hown hK hP 0 rfl rfl 8 (by decide) (hT _ k_293) (fun _ h9 => h9) rfl d_FI_remember_143 ?_
            refine lv_iload_n hx hb d_FI_remember_146 rfl (lv_at hl 2 rfl) ?_
            refine va_iast hx hb hK hP hD hS 7 1 rfl rfl (in_fn hi c_6) d_FI_remember_147 (fun H locs hP hD hS => ?_)
            have hP : va_P D vwCl [(aX, .inr (9, [.ref aS, .ref aY, .ref aP, .ref aFc, .ref aFn, .ref aFl, .ref aFh, .ref aFd, .int fict, .ref aFo])), (aS, .inr (0, [.ref aB])), (aB, .inl (cB, 202000, .inl (by_ b))), (aFc, .inl (cI, 1024, .inl fch)), (aFn, .inl (cI, 13533, .inl fnx)), (aFl, .inl (cI, 13533, .inl (upd flv fict.toNatClampNeg p0))), (aFh, .inl (cI, 13533, .inl (upd fhs fict.toNatClampNeg x3))), (aFd, .inl (cI, 13533, .inl (upd fdo fict.toNatClampNeg p1)))] H := hP
            have hD : va_D A [(aX, .inr (9, [.ref aS, .ref aY, .ref aP, .ref aFc, .ref aFn, .ref aFl, .ref aFh, .ref aFd, .int fict, .ref aFo])), (aS, .inr (0, [.ref aB])), (aB, .inl (cB, 202000, .inl (by_ b))), (aFc, .inl (cI, 1024, .inl fch)), (aFn, .inl (cI, 13533, .inl fnx)), (aFl, .inl (cI, 13533, .inl (upd flv fict.toNatClampNeg p0))), (aFh, .inl (cI, 13533, .inl (upd fhs fict.toNatClampNeg x3))), (aFd, .inl (cI, 13533, .inl (upd fdo fict.toNatClampNeg p1)))] := hD
            refine lv_aload_n hx hb d_FI_remember_148 rfl (lv_at hl 0 rfl) ?_
            refine va_get (D := D) (ci := 9) (v := .ref aFn) (C := R_FI) (T := T_FI) (N := 10) hx hb hT u_FI hown hK hP 0 rfl rfl 4 (by decide) (hT _ k_289) (fun _ h9 => h9) rfl d_FI_remember_149 ?_
            refine lv_aload_n hx hb d_FI_remember_152 rfl (lv_at hl 0 rfl) ?_
            refine va_get (D := D) (ci := 9) (v := .int fict) (C := R_FI) (T := T_FI) (N := 10) hx hb hT u_FI hown hK hP 0 rfl rfl 8 (by decide) (hT _ k_293) (fun _ h9 => h9) rfl d_FI_remember_153 ?_
            refine lv_aload_n hx hb d_FI_remember_156 rfl (lv_at hl 0 rfl) ?_
            refine va_get (D := D) (ci := 9) (v := .ref aFc) (C := R_FI) (T := T_FI) (N := 10) hx hb hT u_FI hown hK hP 0 rfl rfl 3 (by decide) (hT _ k_288) (fun _ h9 => h9) rfl d_FI_remember_157 ?_
            refine lv_iload hx hb d_FI_remember_160 (lv_at hl 4 rfl) ?_
            refine va_iald hx hb hK hP 3 1 rfl rfl (hx4) d_FI_remember_162 ?_
            refine va_iast hx hb hK hP hD hS 4 1 rfl rfl (in_fn hi c_6) d_FI_remember_163 (fun H locs hP hD hS => ?_)
            have hP : va_P D vwCl [(aX, .inr (9, [.ref aS, .ref aY, .ref aP, .ref aFc, .ref aFn, .ref aFl, .ref aFh, .ref aFd, .int fict, .ref aFo])), (aS, .inr (0, [.ref aB])), (aB, .inl (cB, 202000, .inl (by_ b))), (aFc, .inl (cI, 1024, .inl fch)), (aFn, .inl (cI, 13533, .inl (upd fnx fict.toNatClampNeg (fch x4.toNatClampNeg)))), (aFl, .inl (cI, 13533, .inl (upd flv fict.toNatClampNeg p0))), (aFh, .inl (cI, 13533, .inl (upd fhs fict.toNatClampNeg x3))), (aFd, .inl (cI, 13533, .inl (upd fdo fict.toNatClampNeg p1)))] H := hP
            have hD : va_D A [(aX, .inr (9, [.ref aS, .ref aY, .ref aP, .ref aFc, .ref aFn, .ref aFl, .ref aFh, .ref aFd, .int fict, .ref aFo])), (aS, .inr (0, [.ref aB])), (aB, .inl (cB, 202000, .inl (by_ b))), (aFc, .inl (cI, 1024, .inl fch)), (aFn, .inl (cI, 13533, .inl (upd fnx fict.toNatClampNeg (fch x4.toNatClampNeg)))), (aFl, .inl (cI, 13533, .inl (upd flv fict.toNatClampNeg p0))), (aFh, .inl (cI, 13533, .inl (upd fhs fict.toNatClampNeg x3))), (aFd, .inl (cI, 13533, .inl (upd fdo fict.toNatClampNeg p1)))] := hD
            refine lv_aload_n hx hb d_FI_remember_164 rfl (lv_at hl 0 rfl) ?_
            refine va_get (D := D) (ci := 9) (v := .ref aFc) (C := R_FI) (T := T_FI) (N := 10) hx hb hT u_FI hown hK hP 0 rfl rfl 3 (by decide) (hT _ k_288) (fun _ h9 => h9) rfl d_FI_remember_165 ?_
            refine lv_iload hx hb d_FI_remember_168 (lv_at hl 4 rfl) ?_
            refine lv_aload_n hx hb d_FI_remember_170 rfl (lv_at hl 0 rfl) ?_
            refine va_get (D := D) (ci := 9) (v := .int fict) (C := R_FI) (T := T_FI) (N := 10) hx hb hT u_FI hown hK hP 0 rfl rfl 8 (by decide) (hT _ k_293) (fun _ h9 => h9) rfl d_FI_remember_171 ?_
            refine va_iast hx hb hK hP hD hS 3 1 rfl rfl (hx4) d_FI_remember_174 (fun H locs hP hD hS => ?_)
            have hP : va_P D vwCl [(aX, .inr (9, [.ref aS, .ref aY, .ref aP, .ref aFc, .ref aFn, .ref aFl, .ref aFh, .ref aFd, .int fict, .ref aFo])), (aS, .inr (0, [.ref aB])), (aB, .inl (cB, 202000, .inl (by_ b))), (aFc, .inl (cI, 1024, .inl (upd fch x4.toNatClampNeg fict))), (aFn, .inl (cI, 13533, .inl (upd fnx fict.toNatClampNeg (fch x4.toNatClampNeg)))), (aFl, .inl (cI, 13533, .inl (upd flv fict.toNatClampNeg p0))), (aFh, .inl (cI, 13533, .inl (upd fhs fict.toNatClampNeg x3))), (aFd, .inl (cI, 13533, .inl (upd fdo fict.toNatClampNeg p1)))] H := hP
            have hD : va_D A [(aX, .inr (9, [.ref aS, .ref aY, .ref aP, .ref aFc, .ref aFn, .ref aFl, .ref aFh, .ref aFd, .int fict, .ref aFo])), (aS, .inr (0, [.ref aB])), (aB, .inl (cB, 202000, .inl (by_ b))), (aFc, .inl (cI, 1024, .inl (upd fch x4.toNatClampNeg fict))), (aFn, .inl (cI, 13533, .inl (upd fnx fict.toNatClampNeg (fch x4.toNatClampNeg)))), (aFl, .inl (cI, 13533, .inl (upd flv fict.toNatClampNeg p0))), (aFh, .inl (cI, 13533, .inl (upd fhs fict.toNatClampNeg x3))), (aFd, .inl (cI, 13533, .inl (upd fdo fict.toNatClampNeg p1)))] := hD
            refine lv_aload_n hx hb d_FI_remember_175 rfl (lv_at hl 0 rfl) ?_
            refine lv_dup hx hb d_FI_remember_176 rfl ?_
            refine va_get (D := D) (ci := 9) (v := .int fict) (C := R_FI) (T := T_FI) (N := 10) hx hb hT u_FI hown hK hP 0 rfl rfl 8 (by decide) (hT _ k_293) (fun _ h9 => h9) rfl d_FI_remember_177 ?_
            refine lv_iconst (v := 1) hx hb d_FI_remember_180 (by decide) ?_
            refine lv_iadd hx hb d_FI_remember_181 ?_
            refine va_put (D := D) (ci := 9) (v := .int (fict + 1)) (ty := .int) (C := R_FI) (T := T_FI) (N := 10) hx hb hT u_FI ty_FI tyok_FI nm_FI hown hK hP hD hS 0 rfl rfl 8 (by decide) (hT _ k_293) (fun _ h9 => h9) rfl (by decide +kernel) (rfl) (rfl) (Nat.le_of_ble_eq_true rfl) d_FI_remember_182 (fun H locs hP hD hS => ?_)
            have hP : va_P D vwCl [(aX, .inr (9, [.ref aS, .ref aY, .ref aP, .ref aFc, .ref aFn, .ref aFl, .ref aFh, .ref aFd, .int (fict + 1), .ref aFo])), (aS, .inr (0, [.ref aB])), (aB, .inl (cB, 202000, .inl (by_ b))), (aFc, .inl (cI, 1024, .inl (upd fch x4.toNatClampNeg fict))), (aFn, .inl (cI, 13533, .inl (upd fnx fict.toNatClampNeg (fch x4.toNatClampNeg)))), (aFl, .inl (cI, 13533, .inl (upd flv fict.toNatClampNeg p0))), (aFh, .inl (cI, 13533, .inl (upd fhs fict.toNatClampNeg x3))), (aFd, .inl (cI, 13533, .inl (upd fdo fict.toNatClampNeg p1)))] H := hP
            have hD : va_D A [(aX, .inr (9, [.ref aS, .ref aY, .ref aP, .ref aFc, .ref aFn, .ref aFl, .ref aFh, .ref aFd, .int (fict + 1), .ref aFo])), (aS, .inr (0, [.ref aB])), (aB, .inl (cB, 202000, .inl (by_ b))), (aFc, .inl (cI, 1024, .inl (upd fch x4.toNatClampNeg fict))), (aFn, .inl (cI, 13533, .inl (upd fnx fict.toNatClampNeg (fch x4.toNatClampNeg)))), (aFl, .inl (cI, 13533, .inl (upd flv fict.toNatClampNeg p0))), (aFh, .inl (cI, 13533, .inl (upd fhs fict.toNatClampNeg x3))), (aFd, .inl (cI, 13533, .inl (upd fdo fict.toNatClampNeg p1)))] := hD
            exact W.vret hx hb hr (fun t ht hW => ⟨⟨(fict + 1, upd fch x4.toNatClampNeg fict, upd fnx fict.toNatClampNeg (fch x4.toNatClampNeg), upd flv fict.toNatClampNeg p0, upd fhs fict.toNatClampNeg x3, upd fdo fict.toNatClampNeg p1), rfl, ⟨(by rw [hV, tw_FI_remember_h28, if_neg c_1, if_neg c_3, if_pos c_5, if_neg c_6]; first | done | rfl), (f_inc hi c_6)⟩, by rw [ht]; exact hP, hD⟩, hS.F ht⟩) hS.2.2 d_FI_remember_185
        · refine lv_aload_n hx hb d_FI_remember_51 rfl (lv_at hl 0 rfl) ?_
          refine va_get (D := D) (ci := 9) (v := .ref aFd) (C := R_FI) (T := T_FI) (N := 10) hx hb hT u_FI hown hK hP 0 rfl rfl 7 (by decide) (hT _ k_292) (fun _ h9 => h9) rfl d_FI_remember_52 ?_
          refine lv_iload hx hb d_FI_remember_55 (lv_at hl 5 rfl) ?_
          refine va_iald hx hb hK hP 7 1 rfl rfl (in_f c_3 c_5 hi) d_FI_remember_57 ?_
          refine lv_iload_n hx hb d_FI_remember_58 rfl (lv_at hl 2 rfl) ?_
          refine lv_icmp_ne (tgt := 108) hx hb d_FI_remember_59 (by decide) (fun c_7 => ?_) (fun c_7 => ?_)
          · refine lv_aload_n hx hb d_FI_remember_108 rfl (lv_at hl 0 rfl) ?_
            refine va_get (D := D) (ci := 9) (v := .int fict) (C := R_FI) (T := T_FI) (N := 10) hx hb hT u_FI hown hK hP 0 rfl rfl 8 (by decide) (hT _ k_293) (fun _ h9 => h9) rfl d_FI_remember_109 ?_
            refine lv_sipush (v := 13533) hx hb d_FI_remember_112 (by decide) ?_
            refine lv_icmp_ge (tgt := 185) hx hb d_FI_remember_115 (by decide) (fun c_8 => ?_) (fun c_8 => ?_)
            · exact W.vret hx hb hr (fun t ht hW => ⟨⟨(fict, fch, fnx, flv, fhs, fdo), rfl, ⟨(by rw [hV, tw_FI_remember_h28, if_neg c_1, if_neg c_3, if_neg c_5, if_neg c_7, if_pos c_8]; first | done | rfl), hi⟩, by rw [ht]; exact hP, hD⟩, hS.F ht⟩) hS.2.2 d_FI_remember_185
            · refine lv_aload_n hx hb d_FI_remember_118 rfl (lv_at hl 0 rfl) ?_
              refine va_get (D := D) (ci := 9) (v := .ref aFl) (C := R_FI) (T := T_FI) (N := 10) hx hb hT u_FI hown hK hP 0 rfl rfl 5 (by decide) (hT _ k_290) (fun _ h9 => h9) rfl d_FI_remember_119 ?_
              refine lv_aload_n hx hb d_FI_remember_122 rfl (lv_at hl 0 rfl) ?_
              refine va_get (D := D) (ci := 9) (v := .int fict) (C := R_FI) (T := T_FI) (N := 10) hx hb hT u_FI hown hK hP 0 rfl rfl 8 (by decide) (hT _ k_293) (fun _ h9 => h9) rfl d_FI_remember_123 ?_
              refine lv_iload_n hx hb d_FI_remember_126 rfl (lv_at hl 1 rfl) ?_
              refine va_iast hx hb hK hP hD hS 5 1 rfl rfl (in_fn hi c_8) d_FI_remember_127 (fun H locs hP hD hS => ?_)
              have hP : va_P D vwCl [(aX, .inr (9, [.ref aS, .ref aY, .ref aP, .ref aFc, .ref aFn, .ref aFl, .ref aFh, .ref aFd, .int fict, .ref aFo])), (aS, .inr (0, [.ref aB])), (aB, .inl (cB, 202000, .inl (by_ b))), (aFc, .inl (cI, 1024, .inl fch)), (aFn, .inl (cI, 13533, .inl fnx)), (aFl, .inl (cI, 13533, .inl (upd flv fict.toNatClampNeg p0))), (aFh, .inl (cI, 13533, .inl fhs)), (aFd, .inl (cI, 13533, .inl fdo))] H := hP
              have hD : va_D A [(aX, .inr (9, [.ref aS, .ref aY, .ref aP, .ref aFc, .ref aFn, .ref aFl, .ref aFh, .ref aFd, .int fict, .ref aFo])), (aS, .inr (0, [.ref aB])), (aB, .inl (cB, 202000, .inl (by_ b))), (aFc, .inl (cI, 1024, .inl fch)), (aFn, .inl (cI, 13533, .inl fnx)), (aFl, .inl (cI, 13533, .inl (upd flv fict.toNatClampNeg p0))), (aFh, .inl (cI, 13533, .inl fhs)), (aFd, .inl (cI, 13533, .inl fdo))] := hD
              refine lv_aload_n hx hb d_FI_remember_128 rfl (lv_at hl 0 rfl) ?_
              refine va_get (D := D) (ci := 9) (v := .ref aFh) (C := R_FI) (T := T_FI) (N := 10) hx hb hT u_FI hown hK hP 0 rfl rfl 6 (by decide) (hT _ k_291) (fun _ h9 => h9) rfl d_FI_remember_129 ?_
              refine lv_aload_n hx hb d_FI_remember_132 rfl (lv_at hl 0 rfl) ?_
              refine va_get (D := D) (ci := 9) (v := .int fict) (C := R_FI) (T := T_FI) (N := 10) hx hb hT u_FI hown hK hP 0 rfl rfl 8 (by decide) (hT _ k_293) (fun _ h9 => h9) rfl d_FI_remember_133 ?_
              refine lv_iload_n hx hb d_FI_remember_136 rfl (lv_at hl 3 rfl) ?_
              refine va_iast hx hb hK hP hD hS 6 1 rfl rfl (in_fn hi c_8) d_FI_remember_137 (fun H locs hP hD hS => ?_)
              have hP : va_P D vwCl [(aX, .inr (9, [.ref aS, .ref aY, .ref aP, .ref aFc, .ref aFn, .ref aFl, .ref aFh, .ref aFd, .int fict, .ref aFo])), (aS, .inr (0, [.ref aB])), (aB, .inl (cB, 202000, .inl (by_ b))), (aFc, .inl (cI, 1024, .inl fch)), (aFn, .inl (cI, 13533, .inl fnx)), (aFl, .inl (cI, 13533, .inl (upd flv fict.toNatClampNeg p0))), (aFh, .inl (cI, 13533, .inl (upd fhs fict.toNatClampNeg x3))), (aFd, .inl (cI, 13533, .inl fdo))] H := hP
              have hD : va_D A [(aX, .inr (9, [.ref aS, .ref aY, .ref aP, .ref aFc, .ref aFn, .ref aFl, .ref aFh, .ref aFd, .int fict, .ref aFo])), (aS, .inr (0, [.ref aB])), (aB, .inl (cB, 202000, .inl (by_ b))), (aFc, .inl (cI, 1024, .inl fch)), (aFn, .inl (cI, 13533, .inl fnx)), (aFl, .inl (cI, 13533, .inl (upd flv fict.toNatClampNeg p0))), (aFh, .inl (cI, 13533, .inl (upd fhs fict.toNatClampNeg x3))), (aFd, .inl (cI, 13533, .inl fdo))] := hD
              refine lv_aload_n hx hb d_FI_remember_138 rfl (lv_at hl 0 rfl) ?_
              refine va_get (D := D) (ci := 9) (v := .ref aFd) (C := R_FI) (T := T_FI) (N := 10) hx hb hT u_FI hown hK hP 0 rfl rfl 7 (by decide) (hT _ k_292) (fun _ h9 => h9) rfl d_FI_remember_139 ?_
              refine lv_aload_n hx hb d_FI_remember_142 rfl (lv_at hl 0 rfl) ?_
              refine va_get (D := D) (ci := 9) (v := .int fict) (C := R_FI) (T := T_FI) (N := 10) hx hb hT u_FI hown hK hP 0 rfl rfl 8 (by decide) (hT _ k_293) (fun _ h9 => h9) rfl d_FI_remember_143 ?_
              refine lv_iload_n hx hb d_FI_remember_146 rfl (lv_at hl 2 rfl) ?_
              refine va_iast hx hb hK hP hD hS 7 1 rfl rfl (in_fn hi c_8) d_FI_remember_147 (fun H locs hP hD hS => ?_)
              have hP : va_P D vwCl [(aX, .inr (9, [.ref aS, .ref aY, .ref aP, .ref aFc, .ref aFn, .ref aFl, .ref aFh, .ref aFd, .int fict, .ref aFo])), (aS, .inr (0, [.ref aB])), (aB, .inl (cB, 202000, .inl (by_ b))), (aFc, .inl (cI, 1024, .inl fch)), (aFn, .inl (cI, 13533, .inl fnx)), (aFl, .inl (cI, 13533, .inl (upd flv fict.toNatClampNeg p0))), (aFh, .inl (cI, 13533, .inl (upd fhs fict.toNatClampNeg x3))), (aFd, .inl (cI, 13533, .inl (upd fdo fict.toNatClampNeg p1)))] H := hP
              have hD : va_D A [(aX, .inr (9, [.ref aS, .ref aY, .ref aP, .ref aFc, .ref aFn, .ref aFl, .ref aFh, .ref aFd, .int fict, .ref aFo])), (aS, .inr (0, [.ref aB])), (aB, .inl (cB, 202000, .inl (by_ b))), (aFc, .inl (cI, 1024, .inl fch)), (aFn, .inl (cI, 13533, .inl fnx)), (aFl, .inl (cI, 13533, .inl (upd flv fict.toNatClampNeg p0))), (aFh, .inl (cI, 13533, .inl (upd fhs fict.toNatClampNeg x3))), (aFd, .inl (cI, 13533, .inl (upd fdo fict.toNatClampNeg p1)))] := hD
              refine lv_aload_n hx hb d_FI_remember_148 rfl (lv_at hl 0 rfl) ?_
              refine va_get (D := D) (ci := 9) (v := .ref aFn) (C := R_FI) (T := T_FI) (N := 10) hx hb hT u_FI hown hK hP 0 rfl rfl 4 (by decide) (hT _ k_289) (fun _ h9 => h9) rfl d_FI_remember_149 ?_
              refine lv_aload_n hx hb d_FI_remember_152 rfl (lv_at hl 0 rfl) ?_
              refine va_get (D := D) (ci := 9) (v := .int fict) (C := R_FI) (T := T_FI) (N := 10) hx hb hT u_FI hown hK hP 0 rfl rfl 8 (by decide) (hT _ k_293) (fun _ h9 => h9) rfl d_FI_remember_153 ?_
              refine lv_aload_n hx hb d_FI_remember_156 rfl (lv_at hl 0 rfl) ?_
              refine va_get (D := D) (ci := 9) (v := .ref aFc) (C := R_FI) (T := T_FI) (N := 10) hx hb hT u_FI hown hK hP 0 rfl rfl 3 (by decide) (hT _ k_288) (fun _ h9 => h9) rfl d_FI_remember_157 ?_
              refine lv_iload hx hb d_FI_remember_160 (lv_at hl 4 rfl) ?_
              refine va_iald hx hb hK hP 3 1 rfl rfl (hx4) d_FI_remember_162 ?_
              refine va_iast hx hb hK hP hD hS 4 1 rfl rfl (in_fn hi c_8) d_FI_remember_163 (fun H locs hP hD hS => ?_)
              have hP : va_P D vwCl [(aX, .inr (9, [.ref aS, .ref aY, .ref aP, .ref aFc, .ref aFn, .ref aFl, .ref aFh, .ref aFd, .int fict, .ref aFo])), (aS, .inr (0, [.ref aB])), (aB, .inl (cB, 202000, .inl (by_ b))), (aFc, .inl (cI, 1024, .inl fch)), (aFn, .inl (cI, 13533, .inl (upd fnx fict.toNatClampNeg (fch x4.toNatClampNeg)))), (aFl, .inl (cI, 13533, .inl (upd flv fict.toNatClampNeg p0))), (aFh, .inl (cI, 13533, .inl (upd fhs fict.toNatClampNeg x3))), (aFd, .inl (cI, 13533, .inl (upd fdo fict.toNatClampNeg p1)))] H := hP
              have hD : va_D A [(aX, .inr (9, [.ref aS, .ref aY, .ref aP, .ref aFc, .ref aFn, .ref aFl, .ref aFh, .ref aFd, .int fict, .ref aFo])), (aS, .inr (0, [.ref aB])), (aB, .inl (cB, 202000, .inl (by_ b))), (aFc, .inl (cI, 1024, .inl fch)), (aFn, .inl (cI, 13533, .inl (upd fnx fict.toNatClampNeg (fch x4.toNatClampNeg)))), (aFl, .inl (cI, 13533, .inl (upd flv fict.toNatClampNeg p0))), (aFh, .inl (cI, 13533, .inl (upd fhs fict.toNatClampNeg x3))), (aFd, .inl (cI, 13533, .inl (upd fdo fict.toNatClampNeg p1)))] := hD
              refine lv_aload_n hx hb d_FI_remember_164 rfl (lv_at hl 0 rfl) ?_
              refine va_get (D := D) (ci := 9) (v := .ref aFc) (C := R_FI) (T := T_FI) (N := 10) hx hb hT u_FI hown hK hP 0 rfl rfl 3 (by decide) (hT _ k_288) (fun _ h9 => h9) rfl d_FI_remember_165 ?_
              refine lv_iload hx hb d_FI_remember_168 (lv_at hl 4 rfl) ?_
              refine lv_aload_n hx hb d_FI_remember_170 rfl (lv_at hl 0 rfl) ?_
              refine va_get (D := D) (ci := 9) (v := .int fict) (C := R_FI) (T := T_FI) (N := 10) hx hb hT u_FI hown hK hP 0 rfl rfl 8 (by decide) (hT _ k_293) (fun _ h9 => h9) rfl d_FI_remember_171 ?_
              refine va_iast hx hb hK hP hD hS 3 1 rfl rfl (hx4) d_FI_remember_174 (fun H locs hP hD hS => ?_)
              have hP : va_P D vwCl [(aX, .inr (9, [.ref aS, .ref aY, .ref aP, .ref aFc, .ref aFn, .ref aFl, .ref aFh, .ref aFd, .int fict, .ref aFo])), (aS, .inr (0, [.ref aB])), (aB, .inl (cB, 202000, .inl (by_ b))), (aFc, .inl (cI, 1024, .inl (upd fch x4.toNatClampNeg fict))), (aFn, .inl (cI, 13533, .inl (upd fnx fict.toNatClampNeg (fch x4.toNatClampNeg)))), (aFl, .inl (cI, 13533, .inl (upd flv fict.toNatClampNeg p0))), (aFh, .inl (cI, 13533, .inl (upd fhs fict.toNatClampNeg x3))), (aFd, .inl (cI, 13533, .inl (upd fdo fict.toNatClampNeg p1)))] H := hP
              have hD : va_D A [(aX, .inr (9, [.ref aS, .ref aY, .ref aP, .ref aFc, .ref aFn, .ref aFl, .ref aFh, .ref aFd, .int fict, .ref aFo])), (aS, .inr (0, [.ref aB])), (aB, .inl (cB, 202000, .inl (by_ b))), (aFc, .inl (cI, 1024, .inl (upd fch x4.toNatClampNeg fict))), (aFn, .inl (cI, 13533, .inl (upd fnx fict.toNatClampNeg (fch x4.toNatClampNeg)))), (aFl, .inl (cI, 13533, .inl (upd flv fict.toNatClampNeg p0))), (aFh, .inl (cI, 13533, .inl (upd fhs fict.toNatClampNeg x3))), (aFd, .inl (cI, 13533, .inl (upd fdo fict.toNatClampNeg p1)))] := hD
              refine lv_aload_n hx hb d_FI_remember_175 rfl (lv_at hl 0 rfl) ?_
              refine lv_dup hx hb d_FI_remember_176 rfl ?_
              refine va_get (D := D) (ci := 9) (v := .int fict) (C := R_FI) (T := T_FI) (N := 10) hx hb hT u_FI hown hK hP 0 rfl rfl 8 (by decide) (hT _ k_293) (fun _ h9 => h9) rfl d_FI_remember_177 ?_
              refine lv_iconst (v := 1) hx hb d_FI_remember_180 (by decide) ?_
              refine lv_iadd hx hb d_FI_remember_181 ?_
              refine va_put (D := D) (ci := 9) (v := .int (fict + 1)) (ty := .int) (C := R_FI) (T := T_FI) (N := 10) hx hb hT u_FI ty_FI tyok_FI nm_FI hown hK hP hD hS 0 rfl rfl 8 (by decide) (hT _ k_293) (fun _ h9 => h9) rfl (by decide +kernel) (rfl) (rfl) (Nat.le_of_ble_eq_true rfl) d_FI_remember_182 (fun H locs hP hD hS => ?_)
              have hP : va_P D vwCl [(aX, .inr (9, [.ref aS, .ref aY, .ref aP, .ref aFc, .ref aFn, .ref aFl, .ref aFh, .ref aFd, .int (fict + 1), .ref aFo])), (aS, .inr (0, [.ref aB])), (aB, .inl (cB, 202000, .inl (by_ b))), (aFc, .inl (cI, 1024, .inl (upd fch x4.toNatClampNeg fict))), (aFn, .inl (cI, 13533, .inl (upd fnx fict.toNatClampNeg (fch x4.toNatClampNeg)))), (aFl, .inl (cI, 13533, .inl (upd flv fict.toNatClampNeg p0))), (aFh, .inl (cI, 13533, .inl (upd fhs fict.toNatClampNeg x3))), (aFd, .inl (cI, 13533, .inl (upd fdo fict.toNatClampNeg p1)))] H := hP
              have hD : va_D A [(aX, .inr (9, [.ref aS, .ref aY, .ref aP, .ref aFc, .ref aFn, .ref aFl, .ref aFh, .ref aFd, .int (fict + 1), .ref aFo])), (aS, .inr (0, [.ref aB])), (aB, .inl (cB, 202000, .inl (by_ b))), (aFc, .inl (cI, 1024, .inl (upd fch x4.toNatClampNeg fict))), (aFn, .inl (cI, 13533, .inl (upd fnx fict.toNatClampNeg (fch x4.toNatClampNeg)))), (aFl, .inl (cI, 13533, .inl (upd flv fict.toNatClampNeg p0))), (aFh, .inl (cI, 13533, .inl (upd fhs fict.toNatClampNeg x3))), (aFd, .inl (cI, 13533, .inl (upd fdo fict.toNatClampNeg p1)))] := hD
              exact W.vret hx hb hr (fun t ht hW => ⟨⟨(fict + 1, upd fch x4.toNatClampNeg fict, upd fnx fict.toNatClampNeg (fch x4.toNatClampNeg), upd flv fict.toNatClampNeg p0, upd fhs fict.toNatClampNeg x3, upd fdo fict.toNatClampNeg p1), rfl, ⟨(by rw [hV, tw_FI_remember_h28, if_neg c_1, if_neg c_3, if_neg c_5, if_neg c_7, if_neg c_8]; first | done | rfl), (f_inc hi c_8)⟩, by rw [ht]; exact hP, hD⟩, hS.F ht⟩) hS.2.2 d_FI_remember_185
          · refine lv_aload_n hx hb d_FI_remember_62 rfl (lv_at hl 0 rfl) ?_
            refine va_get (D := D) (ci := 9) (v := .ref aFh) (C := R_FI) (T := T_FI) (N := 10) hx hb hT u_FI hown hK hP 0 rfl rfl 6 (by decide) (hT _ k_291) (fun _ h9 => h9) rfl d_FI_remember_63 ?_
            refine lv_iload hx hb d_FI_remember_66 (lv_at hl 5 rfl) ?_
            refine va_iald hx hb hK hP 6 1 rfl rfl (in_f c_3 c_5 hi) d_FI_remember_68 ?_
            refine lv_iload_n hx hb d_FI_remember_69 rfl (lv_at hl 3 rfl) ?_
            refine lv_icmp_ne (tgt := 93) hx hb d_FI_remember_70 (by decide) (fun c_9 => ?_) (fun c_9 => ?_)
            · refine lv_aload_n hx hb d_FI_remember_93 rfl (lv_at hl 0 rfl) ?_
              refine va_get (D := D) (ci := 9) (v := .ref aFn) (C := R_FI) (T := T_FI) (N := 10) hx hb hT u_FI hown hK hP 0 rfl rfl 4 (by decide) (hT _ k_289) (fun _ h9 => h9) rfl d_FI_remember_94 ?_
              refine lv_iload hx hb d_FI_remember_97 (lv_at hl 5 rfl) ?_
              refine va_iald hx hb hK hP 4 1 rfl rfl (in_f c_3 c_5 hi) d_FI_remember_99 ?_
              refine lv_istore (lv' := [(5, .int (fnx x5.toNatClampNeg)), (0, .ref aX), (1, .int p0), (2, .int p1), (3, .int x3), (4, .int x4), (6, .int x6)]) hx hb d_FI_remember_100 hl (by decide) rfl (fun ls hl => ?_)
              refine lv_iinc (v := x6 + 1) (lv' := [(6, .int (x6 + 1)), (5, .int (fnx x5.toNatClampNeg)), (0, .ref aX), (1, .int p0), (2, .int p1), (3, .int x3), (4, .int x4)]) hx hb d_FI_remember_102 hl (k := 6) rfl rfl (by decide) rfl (fun ls hl => ?_)
              refine lv_goto (tgt := 28) hx hb d_FI_remember_105 (by decide) ?_
              exact ih (fnx x5.toNatClampNeg) (x6 + 1) fict fch fnx flv fhs fdo (lp_up hm c_1) (hi) (by rw [hV, tw_FI_remember_h28, if_neg c_1, if_neg c_3, if_neg c_5, if_pos c_7, if_neg c_9]) _ _ hP hD hS ls (lv_sub hl [2, 3, 4, 5, 6, 1, 0] rfl)
            · refine lv_aload_n hx hb d_FI_remember_73 rfl (lv_at hl 0 rfl) ?_
              refine va_get (D := D) (ci := 9) (v := .ref aS) (C := R_FI) (T := T_FI) (N := 10) hx hb hT u_FI hown hK hP 0 rfl rfl 0 (by decide) (hT _ k_285) (fun _ h9 => h9) rfl d_FI_remember_74 ?_
              refine lv_iload_n hx hb d_FI_remember_77 rfl (lv_at hl 1 rfl) ?_
              refine lv_aload_n hx hb d_FI_remember_78 rfl (lv_at hl 0 rfl) ?_
              refine va_get (D := D) (ci := 9) (v := .ref aFl) (C := R_FI) (T := T_FI) (N := 10) hx hb hT u_FI hown hK hP 0 rfl rfl 5 (by decide) (hT _ k_290) (fun _ h9 => h9) rfl d_FI_remember_79 ?_
              refine lv_iload hx hb d_FI_remember_82 (lv_at hl 5 rfl) ?_
              refine va_iald hx hb hK hP 5 1 rfl rfl (in_f c_3 c_5 hi) d_FI_remember_84 ?_
              refine lv_iconst (v := 0) hx hb d_FI_remember_85 (by decide) ?_
              refine rd_V (val := tw_ST_cmp0 b p0 (flv x5.toNatClampNeg)) (As := [.int p0, .int (flv x5.toNatClampNeg), .int 0]) (rest := []) ⟨hx, hb, hml, hown, hT⟩ (c_ST_cmp0 l D cB cI aS aB b p0 (flv x5.toNatClampNeg)) (cwV 3 hT (gV_of k_979 k_784 k_785 k_2 kc_ST_compare) rfl rfl rfl hd_ST_compare ⟨Nat.le_of_ble_eq_true rfl, Nat.le_of_ble_eq_true rfl⟩) hk (hP.sub (ws' := [(aS, .inr (0, [.ref aB])), (aB, .inl (cB, 202000, .inl (by_ b)))]) [1, 2] rfl) (q0 := 0) rfl rfl rfl rfl hl.1 rfl (Nat.le_of_ble_eq_true rfl) d_FI_remember_86 ⟨Nat.zero_le _, Nat.zero_le _⟩ ?_
              refine lv_if_ne (tgt := 93) hx hb d_FI_remember_89 (by decide) (fun c_10 => ?_) (fun c_10 => ?_)
              · refine lv_aload_n hx hb d_FI_remember_93 rfl (lv_at hl 0 rfl) ?_
                refine va_get (D := D) (ci := 9) (v := .ref aFn) (C := R_FI) (T := T_FI) (N := 10) hx hb hT u_FI hown hK hP 0 rfl rfl 4 (by decide) (hT _ k_289) (fun _ h9 => h9) rfl d_FI_remember_94 ?_
                refine lv_iload hx hb d_FI_remember_97 (lv_at hl 5 rfl) ?_
                refine va_iald hx hb hK hP 4 1 rfl rfl (in_f c_3 c_5 hi) d_FI_remember_99 ?_
                refine lv_istore (lv' := [(5, .int (fnx x5.toNatClampNeg)), (0, .ref aX), (1, .int p0), (2, .int p1), (3, .int x3), (4, .int x4), (6, .int x6)]) hx hb d_FI_remember_100 hl (by decide) rfl (fun ls hl => ?_)
                refine lv_iinc (v := x6 + 1) (lv' := [(6, .int (x6 + 1)), (5, .int (fnx x5.toNatClampNeg)), (0, .ref aX), (1, .int p0), (2, .int p1), (3, .int x3), (4, .int x4)]) hx hb d_FI_remember_102 hl (k := 6) rfl rfl (by decide) rfl (fun ls hl => ?_)
                refine lv_goto (tgt := 28) hx hb d_FI_remember_105 (by decide) ?_
                exact ih (fnx x5.toNatClampNeg) (x6 + 1) fict fch fnx flv fhs fdo (lp_up hm c_1) (hi) (by rw [hV, tw_FI_remember_h28, if_neg c_1, if_neg c_3, if_neg c_5, if_pos c_7, if_pos c_9, if_neg c_10]) _ _ hP hD hS ls (lv_sub hl [2, 3, 4, 5, 6, 1, 0] rfl)
              · exact W.vret hx hb hr (fun t ht hW => ⟨⟨(fict, fch, fnx, flv, fhs, fdo), rfl, ⟨(by rw [hV, tw_FI_remember_h28, if_neg c_1, if_neg c_3, if_neg c_5, if_pos c_7, if_pos c_9, if_pos c_10]; first | done | rfl), hi⟩, by rw [ht]; exact hP, hD⟩, hS.F ht⟩) hS.2.2 d_FI_remember_92
set_option maxHeartbeats 4000000 in
set_option maxRecDepth 100000 in
theorem c_FI_remember (l : Launch) (D : va_G) (cB cI : ClassId) (aX aS aY aP aFc aFn aFl aFh aFd aFo aB : Nat) (b : Nat → UInt8) (sz : Nat) (fict : Int32) (fch : Nat → Int32) (fnx : Nat → Int32) (flv : Nat → Int32) (fhs : Nat → Int32) (fdo : Nat → Int32) (p0 : Int32) (p1 : Int32) (hi : f_ok fict) : Met l y_FI_remember mw_FI_remember { frames := 416, cells := 0, slots := 0, locals := 9984 } (va_Pc [.ref aX, .int p0, .int p1] (mt_P D cB cI (wd_FI_remember aX aS aY aP aFc aFn aFl aFh aFd aFo aB cB cI b fict fch fnx flv fhs fdo) sz)) (va_Qv (fun (u : Int32 × (Nat → Int32) × (Nat → Int32) × (Nat → Int32) × (Nat → Int32) × (Nat → Int32)) => u = tw_FI_remember b fict fch fnx flv fhs fdo p0 p1 ∧ f_ok u.1) (mt_B D (va_A (wd_FI_remember aX aS aY aP aFc aFn aFl aFh aFd aFo aB cB cI b fict fch fnx flv fhs fdo) sz) (fun u => wd_FI_remember aX aS aY aP aFc aFn aFl aFh aFd aFo aB cB cI b u.1 u.2.1 u.2.2.1 u.2.2.2.1 u.2.2.2.2.1 u.2.2.2.2.2)) (va_A (wd_FI_remember aX aS aY aP aFc aFn aFl aFh aFd aFo aB cB cI b fict fch fnx flv fhs fdo) sz)) 0 0 (va_A (wd_FI_remember aX aS aY aP aFc aFn aFl aFh aFd aFo aB cB cI b fict fch fnx flv fhs fdo) sz) := by
  refine Met.ofW (cc := b_FI_remember) (maxL := 7) (ret := none) (by decide) rfl ?_
  intro p e s m args below meth c s₁ B0 hml hv
  obtain ⟨rfl, hsz, hP, hk, hD0⟩ := hv
  have hK := hk.1
  have hN := hk.2.1
  have hx := B0.exec
  have hb := B0.bytes
  have hr := B0.returns
  have hT : ∀ w ∈ lw_g, w.before _ s = true := fun w h => atoms_spec (ws := mw_FI_remember) B0.pre w (List.mem_cons_of_mem _ h)
  have hown : s.vm.findClass R_FI = some m.cls := findClass_of_methodNamed B0.named
  have hlocks := B0.notSynchronized
  subst hsz
  have hD := hD0.self (sz := s.heap.size)
  generalize hAe : va_A [(aX, .inr (9, [.ref aS, .ref aY, .ref aP, .ref aFc, .ref aFn, .ref aFl, .ref aFh, .ref aFd, .int fict, .ref aFo])), (aS, .inr (0, [.ref aB])), (aB, .inl (cB, 202000, .inl (by_ b))), (aFc, .inl (cI, 1024, .inl fch)), (aFn, .inl (cI, 13533, .inl fnx)), (aFl, .inl (cI, 13533, .inl flv)), (aFh, .inl (cI, 13533, .inl fhs)), (aFd, .inl (cI, 13533, .inl fdo))] s.heap.size = A at hD ⊢
  have hA : ∀ q : Nat, s.heap.size ≤ q → A q := fun q h => by rw [← hAe]; exact Or.inr h
  have hS : va_S A s.heap s.heap [] := va_S.rf
  have hl := lv_entry ([.ref aX, .int p0, .int p1]) (n := 7) (Nat.le_of_ble_eq_true rfl)
  rw [lg_entry_eq]
  generalize (lg_sl ([.ref aX, .int p0, .int p1]) ++ List.replicate (7 - (lg_sl ([.ref aX, .int p0, .int p1])).length) Slot.unset).toArray = ls at hl ⊢
  have hl : lv_has ls 7 [(0, .ref aX), (1, .int p0), (2, .int p1)] := hl
  have C0 : lc_C p s m meth c _ b_FI_remember 7 none R_FI lw_g := ⟨hx, hb, hml, hr, hown, hlocks, hT⟩
  refine lv_aload_n hx hb d_FI_remember_0 rfl (lv_at hl 0 rfl) ?_
  refine va_get (D := D) (ci := 9) (v := .ref aS) (C := R_FI) (T := T_FI) (N := 10) hx hb hT u_FI hown hK hP 0 rfl rfl 0 (by decide) (hT _ k_285) (fun _ h9 => h9) rfl d_FI_remember_1 ?_
  refine lv_iload_n hx hb d_FI_remember_4 rfl (lv_at hl 1 rfl) ?_
  refine lv_iconst (v := 0) hx hb d_FI_remember_5 (by decide) ?_
  refine rd_V (val := tw_ST_hsh0 b p0) (As := [.int p0, .int 0]) (rest := []) ⟨hx, hb, hml, hown, hT⟩ (c_ST_hsh0 l D cB cI aS aB b p0) (cwV 2 hT (gV_of k_975 k_757 k_758 k_2 kc_ST_hash) rfl rfl rfl hd_ST_hash ⟨Nat.le_of_ble_eq_true rfl, Nat.le_of_ble_eq_true rfl⟩) hk (hP.sub (ws' := [(aS, .inr (0, [.ref aB])), (aB, .inl (cB, 202000, .inl (by_ b)))]) [1, 2] rfl) (q0 := 0) rfl rfl rfl rfl hl.1 rfl (Nat.le_of_ble_eq_true rfl) d_FI_remember_6 ⟨Nat.zero_le _, Nat.zero_le _⟩ ?_
  refine lv_istore_n (lv' := [(3, .int (tw_ST_hsh0 b p0)), (0, .ref aX), (1, .int p0), (2, .int p1)]) hx hb d_FI_remember_9 rfl hl (by decide) rfl (fun ls hl => ?_)
  refine lv_iload_n hx hb d_FI_remember_10 rfl (lv_at hl 0 rfl) ?_
  refine rd_S (val := tw_FI_chainOf (tw_ST_hsh0 b p0)) (As := [.int (tw_ST_hsh0 b p0)]) (rest := []) ⟨hx, hb, hml, hown, hT⟩ (c_FI_chainOf l D cB cI (tw_ST_hsh0 b p0)) (va_cwS 1 hT (gS_of k_976 k_977 k_11 kc_FI_chainOf) rfl rfl rfl hd_FI_chainOf ⟨Nat.le_of_ble_eq_true rfl, Nat.le_of_ble_eq_true rfl⟩) hk (va_P_nil) rfl hl.1 rfl (Nat.le_of_ble_eq_true rfl) d_FI_remember_11 ⟨Nat.zero_le _, Nat.zero_le _⟩ ?_
  refine lv_istore (lv' := [(4, .int (tw_FI_chainOf (tw_ST_hsh0 b p0))), (3, .int (tw_ST_hsh0 b p0)), (0, .ref aX), (1, .int p0), (2, .int p1)]) hx hb d_FI_remember_14 hl (by decide) rfl (fun ls hl => ?_)
  refine lv_aload_n hx hb d_FI_remember_16 rfl (lv_at hl 2 rfl) ?_
  refine va_get (D := D) (ci := 9) (v := .ref aFc) (C := R_FI) (T := T_FI) (N := 10) hx hb hT u_FI hown hK hP 0 rfl rfl 3 (by decide) (hT _ k_288) (fun _ h9 => h9) rfl d_FI_remember_17 ?_
  refine lv_iload hx hb d_FI_remember_20 (lv_at hl 0 rfl) ?_
  refine va_iald hx hb hK hP 3 1 rfl rfl (ch_in _) d_FI_remember_22 ?_
  refine lv_istore (lv' := [(5, .int (fch (tw_FI_chainOf (tw_ST_hsh0 b p0)).toNatClampNeg)), (4, .int (tw_FI_chainOf (tw_ST_hsh0 b p0))), (3, .int (tw_ST_hsh0 b p0)), (0, .ref aX), (1, .int p0), (2, .int p1)]) hx hb d_FI_remember_23 hl (by decide) rfl (fun ls hl => ?_)
  refine lv_iconst (v := 0) hx hb d_FI_remember_25 (by decide) ?_
  refine lv_istore (lv' := [(6, .int 0), (5, .int (fch (tw_FI_chainOf (tw_ST_hsh0 b p0)).toNatClampNeg)), (4, .int (tw_FI_chainOf (tw_ST_hsh0 b p0))), (3, .int (tw_ST_hsh0 b p0)), (0, .ref aX), (1, .int p0), (2, .int p1)]) hx hb d_FI_remember_26 hl (by decide) rfl (fun ls hl => ?_)
  exact l_FI_remember_h28 C0 l D cB cI aX aS aY aP aFc aFn aFl aFh aFd aFo aB b hk hA p0 p1 (tw_ST_hsh0 b p0) (tw_FI_chainOf (tw_ST_hsh0 b p0)) (ch_in _) (((fict.toInt - (0 : Int32).toInt).toNat) + 1) (fch (tw_FI_chainOf (tw_ST_hsh0 b p0)).toNatClampNeg) 0 fict fch fnx flv fhs fdo (Nat.lt_succ_self _) (hi) (by rw [tw_FI_remember]) _ _ hP hD hS ls (lv_sub hl [4, 5, 6, 3, 2, 1, 0] rfl)
abbrev wd_FI_match (aX aS aY aP aFc aFn aFl aFh aFd aFo aB : Nat) (cB cI : ClassId) (fict : Int32) (b : Nat → UInt8) (fch : Nat → Int32) (fnx : Nat → Int32) (flv : Nat → Int32) (fhs : Nat → Int32) (fdo : Nat → Int32) (fow : Nat → Int32) : va_W := [(aX, .inr (9, [.ref aS, .ref aY, .ref aP, .ref aFc, .ref aFn, .ref aFl, .ref aFh, .ref aFd, .int fict, .ref aFo])), (aS, .inr (0, [.ref aB])), (aB, .inl (cB, 202000, .inl (by_ b))), (aFc, .inl (cI, 1024, .inl fch)), (aFn, .inl (cI, 13533, .inl fnx)), (aFl, .inl (cI, 13533, .inl flv)), (aFh, .inl (cI, 13533, .inl fhs)), (aFd, .inl (cI, 13533, .inl fdo)), (aFo, .inl (cI, 200, .inl fow))]
set_option maxHeartbeats 4000000 in
set_option maxRecDepth 100000 in
theorem l_FI_match_h24 {p : Program} {e : Env} {s : State} {m : MethodId} {args : Array Value} {below : List Frame} {meth : Method} {c : Code} {V : (Nat → Int32)} (C0 : lc_C p s m meth c args b_FI_match 8 none R_FI lw_g) (l : Launch) (D : va_G) (cB cI : ClassId) (aX aS aY aP aFc aFn aFl aFh aFd aFo aB : Nat) (fict : Int32) (b : Nat → UInt8) (fch : Nat → Int32) (fnx : Nat → Int32) (flv : Nat → Int32) (fhs : Nat → Int32) (fdo : Nat → Int32) {A : Nat → Prop} (hk : hk_ D cB cI s) (hA : ∀ q : Nat, s.heap.size ≤ q → A q) (p0 : Int32) (p1 : Int32) (x3 : Int32) (hi : f_ok fict) : ∀ (n : Nat) (x4 : Int32) (x5 : Int32) (fow : Nat → Int32), (fict.toInt - x5.toInt).toNat < n → V = tw_FI_match_h24 fict b fch fnx flv fhs fdo p0 p1 x3 n x4 x5 fow → ∀ (H : Heap) (locs : List Loc), va_P D vwCl [(aX, .inr (9, [.ref aS, .ref aY, .ref aP, .ref aFc, .ref aFn, .ref aFl, .ref aFh, .ref aFd, .int fict, .ref aFo])), (aS, .inr (0, [.ref aB])), (aB, .inl (cB, 202000, .inl (by_ b))), (aFc, .inl (cI, 1024, .inl fch)), (aFn, .inl (cI, 13533, .inl fnx)), (aFl, .inl (cI, 13533, .inl flv)), (aFh, .inl (cI, 13533, .inl fhs)), (aFd, .inl (cI, 13533, .inl fdo)), (aFo, .inl (cI, 200, .inl fow))] H → va_D A [(aX, .inr (9, [.ref aS, .ref aY, .ref aP, .ref aFc, .ref aFn, .ref aFl, .ref aFh, .ref aFd, .int fict, .ref aFo])), (aS, .inr (0, [.ref aB])), (aB, .inl (cB, 202000, .inl (by_ b))), (aFc, .inl (cI, 1024, .inl fch)), (aFn, .inl (cI, 13533, .inl fnx)), (aFl, .inl (cI, 13533, .inl flv)), (aFh, .inl (cI, 13533, .inl fhs)), (aFd, .inl (cI, 13533, .inl fdo)), (aFo, .inl (cI, 200, .inl fow))] → va_S A s.heap H locs → ∀ ls : Array Slot, lv_has ls 8 [(0, .ref aX), (1, .int p0), (2, .int p1), (3, .int x3), (4, .int x4), (5, .int x5)] → W p l e ({ frames := 416, cells := 0, slots := 0, locals := 9984 }) s m args below meth c H locs 0 0 (MQ below (va_Qv (fun (u : (Nat → Int32)) => u = V) (mt_B D A (fun u => wd_FI_match aX aS aY aP aFc aFn aFl aFh aFd aFo aB cB cI fict b fch fnx flv fhs fdo u)) A) args s 0 0 A) (F0 m 24 ls []) := by
  obtain ⟨hx, hb, hml, hr, hown, hlocks, hT⟩ := id C0
  have hK := hk.1
  have hN := hk.2.1
  intro n
  induction n with
  | zero =>
    intro x4 x5 fow hm
    exact absurd hm (Nat.not_lt_zero _)
  | succ n ih =>
    intro x4 x5 fow hm hV H locs hP hD hS ls hl
    refine lv_iload hx hb d_FI_match_24 (lv_at hl 5 rfl) ?_
    refine lv_aload_n hx hb d_FI_match_26 rfl (lv_at hl 0 rfl) ?_
    refine va_get (D := D) (ci := 9) (v := .int fict) (C := R_FI) (T := T_FI) (N := 10) hx hb hT u_FI hown hK hP 0 rfl rfl 8 (by decide) (hT _ k_293) (fun _ h9 => h9) rfl d_FI_match_27 ?_
    refine lv_icmp_ge (tgt := 145) hx hb d_FI_match_30 (by decide) (fun c_1 => ?_) (fun c_1 => ?_)
    · exact W.vret hx hb hr (fun t ht hW => ⟨⟨fow, rfl, (by rw [hV, tw_FI_match_h24, if_pos c_1]; first | done | rfl), by rw [ht]; exact hP, hD⟩, hS.F ht⟩) hS.2.2 d_FI_match_145
    · refine lv_iload hx hb d_FI_match_33 (lv_at hl 4 rfl) ?_
      refine lv_if_lt (tgt := 145) hx hb d_FI_match_35 (by decide) (fun c_2 => ?_) (fun c_2 => ?_)
      · exact W.vret hx hb hr (fun t ht hW => ⟨⟨fow, rfl, (by rw [hV, tw_FI_match_h24, if_neg c_1, if_pos c_2]; first | done | rfl), by rw [ht]; exact hP, hD⟩, hS.F ht⟩) hS.2.2 d_FI_match_145
      · refine lv_iload hx hb d_FI_match_38 (lv_at hl 4 rfl) ?_
        refine lv_aload_n hx hb d_FI_match_40 rfl (lv_at hl 0 rfl) ?_
        refine va_get (D := D) (ci := 9) (v := .int fict) (C := R_FI) (T := T_FI) (N := 10) hx hb hT u_FI hown hK hP 0 rfl rfl 8 (by decide) (hT _ k_293) (fun _ h9 => h9) rfl d_FI_match_41 ?_
        refine lv_icmp_ge (tgt := 145) hx hb d_FI_match_44 (by decide) (fun c_3 => ?_) (fun c_3 => ?_)
        · exact W.vret hx hb hr (fun t ht hW => ⟨⟨fow, rfl, (by rw [hV, tw_FI_match_h24, if_neg c_1, if_neg c_2, if_pos c_3]; first | done | rfl), by rw [ht]; exact hP, hD⟩, hS.F ht⟩) hS.2.2 d_FI_match_145
        · refine lv_aload_n hx hb d_FI_match_47 rfl (lv_at hl 0 rfl) ?_
          refine va_get (D := D) (ci := 9) (v := .ref aFd) (C := R_FI) (T := T_FI) (N := 10) hx hb hT u_FI hown hK hP 0 rfl rfl 7 (by decide) (hT _ k_292) (fun _ h9 => h9) rfl d_FI_match_48 ?_
          refine lv_iload hx hb d_FI_match_51 (lv_at hl 4 rfl) ?_
          refine va_iald hx hb hK hP 7 1 rfl rfl (in_f c_2 c_3 hi) d_FI_match_53 ?_
          refine lv_istore (lv' := [(6, .int (fdo x4.toNatClampNeg)), (0, .ref aX), (1, .int p0), (2, .int p1), (3, .int x3), (4, .int x4), (5, .int x5)]) hx hb d_FI_match_54 hl (by decide) rfl (fun ls hl => ?_)
          refine lv_aload_n hx hb d_FI_match_56 rfl (lv_at hl 1 rfl) ?_
          refine va_get (D := D) (ci := 9) (v := .ref aFh) (C := R_FI) (T := T_FI) (N := 10) hx hb hT u_FI hown hK hP 0 rfl rfl 6 (by decide) (hT _ k_291) (fun _ h9 => h9) rfl d_FI_match_57 ?_
          refine lv_iload hx hb d_FI_match_60 (lv_at hl 5 rfl) ?_
          refine va_iald hx hb hK hP 6 1 rfl rfl (in_f c_2 c_3 hi) d_FI_match_62 ?_
          refine lv_iload_n hx hb d_FI_match_63 rfl (lv_at hl 4 rfl) ?_
          refine lv_icmp_ne (tgt := 95) hx hb d_FI_match_64 (by decide) (fun c_4 => ?_) (fun c_4 => ?_)
          · refine lv_iconst (v := 0) hx hb d_FI_match_95 (by decide) ?_
            refine lv_istore (lv' := [(7, .int 0), (6, .int (fdo x4.toNatClampNeg)), (0, .ref aX), (1, .int p0), (2, .int p1), (3, .int x3), (4, .int x4), (5, .int x5)]) hx hb d_FI_match_96 hl (by decide) rfl (fun ls hl => ?_)
            refine lv_iload hx hb d_FI_match_98 (lv_at hl 0 rfl) ?_
            refine lv_if_eq (tgt := 130) hx hb d_FI_match_100 (by decide) (fun c_5 => ?_) (fun c_5 => ?_)
            · refine lv_aload_n hx hb d_FI_match_130 rfl (lv_at hl 2 rfl) ?_
              refine va_get (D := D) (ci := 9) (v := .ref aFn) (C := R_FI) (T := T_FI) (N := 10) hx hb hT u_FI hown hK hP 0 rfl rfl 4 (by decide) (hT _ k_289) (fun _ h9 => h9) rfl d_FI_match_131 ?_
              refine lv_iload hx hb d_FI_match_134 (lv_at hl 6 rfl) ?_
              refine va_iald hx hb hK hP 4 1 rfl rfl (in_f c_2 c_3 hi) d_FI_match_136 ?_
              refine lv_istore (lv' := [(4, .int (fnx x4.toNatClampNeg)), (7, .int 0), (6, .int (fdo x4.toNatClampNeg)), (0, .ref aX), (1, .int p0), (2, .int p1), (3, .int x3), (5, .int x5)]) hx hb d_FI_match_137 hl (by decide) rfl (fun ls hl => ?_)
              refine lv_iinc (v := x5 + 1) (lv' := [(5, .int (x5 + 1)), (4, .int (fnx x4.toNatClampNeg)), (7, .int 0), (6, .int (fdo x4.toNatClampNeg)), (0, .ref aX), (1, .int p0), (2, .int p1), (3, .int x3)]) hx hb d_FI_match_139 hl (k := 7) rfl rfl (by decide) rfl (fun ls hl => ?_)
              refine lv_goto (tgt := 24) hx hb d_FI_match_142 (by decide) ?_
              exact ih (fnx x4.toNatClampNeg) (x5 + 1) fow (lp_up hm c_1) (by rw [hV, tw_FI_match_h24, if_neg c_1, if_neg c_2, if_neg c_3, if_neg c_4]) _ _ hP hD hS ls (lv_sub hl [4, 5, 6, 7, 1, 0] rfl)
            · exact absurd c_5 (by decide)
          · refine lv_iload hx hb d_FI_match_67 (lv_at hl 0 rfl) ?_
            refine lv_if_lt (tgt := 95) hx hb d_FI_match_69 (by decide) (fun c_6 => ?_) (fun c_6 => ?_)
            · refine lv_iconst (v := 0) hx hb d_FI_match_95 (by decide) ?_
              refine lv_istore (lv' := [(7, .int 0), (6, .int (fdo x4.toNatClampNeg)), (0, .ref aX), (1, .int p0), (2, .int p1), (3, .int x3), (4, .int x4), (5, .int x5)]) hx hb d_FI_match_96 hl (by decide) rfl (fun ls hl => ?_)
              refine lv_iload hx hb d_FI_match_98 (lv_at hl 0 rfl) ?_
              refine lv_if_eq (tgt := 130) hx hb d_FI_match_100 (by decide) (fun c_7 => ?_) (fun c_7 => ?_)
              · refine lv_aload_n hx hb d_FI_match_130 rfl (lv_at hl 2 rfl) ?_
                refine va_get (D := D) (ci := 9) (v := .ref aFn) (C := R_FI) (T := T_FI) (N := 10) hx hb hT u_FI hown hK hP 0 rfl rfl 4 (by decide) (hT _ k_289) (fun _ h9 => h9) rfl d_FI_match_131 ?_
                refine lv_iload hx hb d_FI_match_134 (lv_at hl 6 rfl) ?_
                refine va_iald hx hb hK hP 4 1 rfl rfl (in_f c_2 c_3 hi) d_FI_match_136 ?_
                refine lv_istore (lv' := [(4, .int (fnx x4.toNatClampNeg)), (7, .int 0), (6, .int (fdo x4.toNatClampNeg)), (0, .ref aX), (1, .int p0), (2, .int p1), (3, .int x3), (5, .int x5)]) hx hb d_FI_match_137 hl (by decide) rfl (fun ls hl => ?_)
                refine lv_iinc (v := x5 + 1) (lv' := [(5, .int (x5 + 1)), (4, .int (fnx x4.toNatClampNeg)), (7, .int 0), (6, .int (fdo x4.toNatClampNeg)), (0, .ref aX), (1, .int p0), (2, .int p1), (3, .int x3)]) hx hb d_FI_match_139 hl (k := 7) rfl rfl (by decide) rfl (fun ls hl => ?_)
                refine lv_goto (tgt := 24) hx hb d_FI_match_142 (by decide) ?_
                exact ih (fnx x4.toNatClampNeg) (x5 + 1) fow (lp_up hm c_1) (by rw [hV, tw_FI_match_h24, if_neg c_1, if_neg c_2, if_neg c_3, if_pos c_4, if_pos c_6]) _ _ hP hD hS ls (lv_sub hl [4, 5, 6, 7, 1, 0] rfl)
              · exact absurd c_7 (by decide)
            · refine lv_iload hx hb d_FI_match_72 (lv_at hl 0 rfl) ?_
              refine lv_sipush (v := 200) hx hb d_FI_match_74 (by decide) ?_
              refine lv_icmp_ge (tgt := 95) hx hb d_FI_match_77 (by decide) (fun c_8 => ?_) (fun c_8 => ?_)
              · refine lv_iconst (v := 0) hx hb d_FI_match_95 (by decide) ?_
                refine lv_istore (lv' := [(7, .int 0), (6, .int (fdo x4.toNatClampNeg)), (0, .ref aX), (1, .int p0), (2, .int p1), (3, .int x3), (4, .int x4), (5, .int x5)]) hx hb d_FI_match_96 hl (by decide) rfl (fun ls hl => ?_)
                refine lv_iload hx hb d_FI_match_98 (lv_at hl 0 rfl) ?_
                refine lv_if_eq (tgt := 130) hx hb d_FI_match_100 (by decide) (fun c_9 => ?_) (fun c_9 => ?_)
                · refine lv_aload_n hx hb d_FI_match_130 rfl (lv_at hl 2 rfl) ?_
                  refine va_get (D := D) (ci := 9) (v := .ref aFn) (C := R_FI) (T := T_FI) (N := 10) hx hb hT u_FI hown hK hP 0 rfl rfl 4 (by decide) (hT _ k_289) (fun _ h9 => h9) rfl d_FI_match_131 ?_
                  refine lv_iload hx hb d_FI_match_134 (lv_at hl 6 rfl) ?_
                  refine va_iald hx hb hK hP 4 1 rfl rfl (in_f c_2 c_3 hi) d_FI_match_136 ?_
                  refine lv_istore (lv' := [(4, .int (fnx x4.toNatClampNeg)), (7, .int 0), (6, .int (fdo x4.toNatClampNeg)), (0, .ref aX), (1, .int p0), (2, .int p1), (3, .int x3), (5, .int x5)]) hx hb d_FI_match_137 hl (by decide) rfl (fun ls hl => ?_)
                  refine lv_iinc (v := x5 + 1) (lv' := [(5, .int (x5 + 1)), (4, .int (fnx x4.toNatClampNeg)), (7, .int 0), (6, .int (fdo x4.toNatClampNeg)), (0, .ref aX), (1, .int p0), (2, .int p1), (3, .int x3)]) hx hb d_FI_match_139 hl (k := 7) rfl rfl (by decide) rfl (fun ls hl => ?_)
                  refine lv_goto (tgt := 24) hx hb d_FI_match_142 (by decide) ?_
                  exact ih (fnx x4.toNatClampNeg) (x5 + 1) fow (lp_up hm c_1) (by rw [hV, tw_FI_match_h24, if_neg c_1, if_neg c_2, if_neg c_3, if_pos c_4, if_neg c_6, if_pos c_8]) _ _ hP hD hS ls (lv_sub hl [4, 5, 6, 7, 1, 0] rfl)
                · exact absurd c_9 (by decide)
              · refine lv_aload_n hx hb d_FI_match_80 rfl (lv_at hl 1 rfl) ?_
                refine va_get (D := D) (ci := 9) (v := .ref aFo) (C := R_FI) (T := T_FI) (N := 10) hx hb hT u_FI hown hK hP 0 rfl rfl 9 (by decide) (hT _ k_294) (fun _ h9 => h9) rfl d_FI_match_81 ?_
                refine lv_iload hx hb d_FI_match_84 (lv_at hl 0 rfl) ?_
                refine va_iald hx hb hK hP 8 1 rfl rfl (in_nn c_6 c_8 rfl) d_FI_match_86 ?_
                refine lv_iload_n hx hb d_FI_match_87 rfl (lv_at hl 3 rfl) ?_
                refine lv_icmp_eq (tgt := 95) hx hb d_FI_match_88 (by decide) (fun c_10 => ?_) (fun c_10 => ?_)
                · refine lv_iconst (v := 0) hx hb d_FI_match_95 (by decide) ?_
                  refine lv_istore (lv' := [(7, .int 0), (6, .int (fdo x4.toNatClampNeg)), (0, .ref aX), (1, .int p0), (2, .int p1), (3, .int x3), (4, .int x4), (5, .int x5)]) hx hb d_FI_match_96 hl (by decide) rfl (fun ls hl => ?_)
                  refine lv_iload hx hb d_FI_match_98 (lv_at hl 0 rfl) ?_
                  refine lv_if_eq (tgt := 130) hx hb d_FI_match_100 (by decide) (fun c_11 => ?_) (fun c_11 => ?_)
                  · refine lv_aload_n hx hb d_FI_match_130 rfl (lv_at hl 2 rfl) ?_
                    refine va_get (D := D) (ci := 9) (v := .ref aFn) (C := R_FI) (T := T_FI) (N := 10) hx hb hT u_FI hown hK hP 0 rfl rfl 4 (by decide) (hT _ k_289) (fun _ h9 => h9) rfl d_FI_match_131 ?_
                    refine lv_iload hx hb d_FI_match_134 (lv_at hl 6 rfl) ?_
                    refine va_iald hx hb hK hP 4 1 rfl rfl (in_f c_2 c_3 hi) d_FI_match_136 ?_
                    refine lv_istore (lv' := [(4, .int (fnx x4.toNatClampNeg)), (7, .int 0), (6, .int (fdo x4.toNatClampNeg)), (0, .ref aX), (1, .int p0), (2, .int p1), (3, .int x3), (5, .int x5)]) hx hb d_FI_match_137 hl (by decide) rfl (fun ls hl => ?_)
                    refine lv_iinc (v := x5 + 1) (lv' := [(5, .int (x5 + 1)), (4, .int (fnx x4.toNatClampNeg)), (7, .int 0), (6, .int (fdo x4.toNatClampNeg)), (0, .ref aX), (1, .int p0), (2, .int p1), (3, .int x3)]) hx hb d_FI_match_139 hl (k := 7) rfl rfl (by decide) rfl (fun ls hl => ?_)
                    refine lv_goto (tgt := 24) hx hb d_FI_match_142 (by decide) ?_
                    exact ih (fnx x4.toNatClampNeg) (x5 + 1) fow (lp_up hm c_1) (by rw [hV, tw_FI_match_h24, if_neg c_1, if_neg c_2, if_neg c_3, if_pos c_4, if_neg c_6, if_neg c_8, if_pos c_10]) _ _ hP hD hS ls (lv_sub hl [4, 5, 6, 7, 1, 0] rfl)
                  · exact absurd c_11 (by decide)
                · refine lv_iconst (v := 1) hx hb d_FI_match_91 (by decide) ?_
                  refine lv_goto (tgt := 96) hx hb d_FI_match_92 (by decide) ?_
                  refine lv_istore (lv' := [(7, .int 1), (6, .int (fdo x4.toNatClampNeg)), (0, .ref aX), (1, .int p0), (2, .int p1), (3, .int x3), (4, .int x4), (5, .int x5)]) hx hb d_FI_match_96 hl (by decide) rfl (fun ls hl => ?_)
                  refine lv_iload hx hb d_FI_match_98 (lv_at hl 0 rfl) ?_
                  refine lv_if_eq (tgt := 130) hx hb d_FI_match_100 (by decide) (fun c_12 => ?_) (fun c_12 => ?_)
                  · exact absurd c_12 (by decide)
                  · refine lv_aload_n hx hb d_FI_match_103 rfl (lv_at hl 2 rfl) ?_
                    refine va_get (D := D) (ci := 9) (v := .ref aS) (C := R_FI) (T := T_FI) (N := 10) hx hb hT u_FI hown hK hP 0 rfl rfl 0 (by decide) (hT _ k_285) (fun _ h9 => h9) rfl d_FI_match_104 ?_
                    refine lv_iload_n hx hb d_FI_match_107 rfl (lv_at hl 3 rfl) ?_
                    refine lv_aload_n hx hb d_FI_match_108 rfl (lv_at hl 2 rfl) ?_
                    refine va_get (D := D) (ci := 9) (v := .ref aFl) (C := R_FI) (T := T_FI) (N := 10) hx hb hT u_FI hown hK hP 0 rfl rfl 5 (by decide) (hT _ k_290) (fun _ h9 => h9) rfl d_FI_match_109 ?_
                    refine lv_iload hx hb d_FI_match_112 (lv_at hl 6 rfl) ?_
                    refine va_iald hx hb hK hP 5 1 rfl rfl (in_f c_2 c_3 hi) d_FI_match_114 ?_
                    refine lv_iconst (v := 0) hx hb d_FI_match_115 (by decide) ?_
                    refine rd_V (val := tw_ST_cmp0 b p0 (flv x4.toNatClampNeg)) (As := [.int p0, .int (flv x4.toNatClampNeg), .int 0]) (rest := []) ⟨hx, hb, hml, hown, hT⟩ (c_ST_cmp0 l D cB cI aS aB b p0 (flv x4.toNatClampNeg)) (cwV 3 hT (gV_of k_979 k_784 k_785 k_2 kc_ST_compare) rfl rfl rfl hd_ST_compare ⟨Nat.le_of_ble_eq_true rfl, Nat.le_of_ble_eq_true rfl⟩) hk (hP.sub (ws' := [(aS, .inr (0, [.ref aB])), (aB, .inl (cB, 202000, .inl (by_ b)))]) [1, 2] rfl) (q0 := 0) rfl rfl rfl rfl hl.1 rfl (Nat.le_of_ble_eq_true rfl) d_FI_match_116 ⟨Nat.zero_le _, Nat.zero_le _⟩ ?_
                    refine lv_if_ne (tgt := 130) hx hb d_FI_match_119 (by decide) (fun c_13 => ?_) (fun c_13 => ?_)
                    · refine lv_aload_n hx hb d_FI_match_130 rfl (lv_at hl 2 rfl) ?_
                      refine va_get (D := D) (ci := 9) (v := .ref aFn) (C := R_FI) (T := T_FI) (N := 10) hx hb hT u_FI hown hK hP 0 rfl rfl 4 (by decide) (hT _ k_289) (fun _ h9 => h9) rfl d_FI_match_131 ?_
                      refine lv_iload hx hb d_FI_match_134 (lv_at hl 6 rfl) ?_
                      refine va_iald hx hb hK hP 4 1 rfl rfl (in_f c_2 c_3 hi) d_FI_match_136 ?_
                      refine lv_istore (lv' := [(4, .int (fnx x4.toNatClampNeg)), (7, .int 1), (6, .int (fdo x4.toNatClampNeg)), (0, .ref aX), (1, .int p0), (2, .int p1), (3, .int x3), (5, .int x5)]) hx hb d_FI_match_137 hl (by decide) rfl (fun ls hl => ?_)
                      refine lv_iinc (v := x5 + 1) (lv' := [(5, .int (x5 + 1)), (4, .int (fnx x4.toNatClampNeg)), (7, .int 1), (6, .int (fdo x4.toNatClampNeg)), (0, .ref aX), (1, .int p0), (2, .int p1), (3, .int x3)]) hx hb d_FI_match_139 hl (k := 7) rfl rfl (by decide) rfl (fun ls hl => ?_)
                      refine lv_goto (tgt := 24) hx hb d_FI_match_142 (by decide) ?_
                      exact ih (fnx x4.toNatClampNeg) (x5 + 1) fow (lp_up hm c_1) (by rw [hV, tw_FI_match_h24, if_neg c_1, if_neg c_2, if_neg c_3, if_pos c_4, if_neg c_6, if_neg c_8, if_neg c_10, if_neg c_13]) _ _ hP hD hS ls (lv_sub hl [4, 5, 6, 7, 1, 0] rfl)
                    · refine lv_aload_n hx hb d_FI_match_122 rfl (lv_at hl 2 rfl) ?_
                      refine va_get (D := D) (ci := 9) (v := .ref aFo) (C := R_FI) (T := T_FI) (N := 10) hx hb hT u_FI hown hK hP 0 rfl rfl 9 (by decide) (hT _ k_294) (fun _ h9 => h9) rfl d_FI_match_123 ?_
                      refine lv_iload hx hb d_FI_match_126 (lv_at hl 1 rfl) ?_
                      refine lv_iload_n hx hb d_FI_match_128 rfl (lv_at hl 4 rfl) ?_
                      refine va_iast hx hb hK hP hD hS 8 1 rfl rfl (in_nn c_6 c_8 rfl) d_FI_match_129 (fun H locs hP hD hS => ?_)
                      have hP : va_P D vwCl [(aX, .inr (9, [.ref aS, .ref aY, .ref aP, .ref aFc, .ref aFn, .ref aFl, .ref aFh, .ref aFd, .int fict, .ref aFo])), (aS, .inr (0, [.ref aB])), (aB, .inl (cB, 202000, .inl (by_ b))), (aFc, .inl (cI, 1024, .inl fch)), (aFn, .inl (cI, 13533, .inl fnx)), (aFl, .inl (cI, 13533, .inl flv)), (aFh, .inl (cI, 13533, .inl fhs)), (aFd, .inl (cI, 13533, .inl fdo)), (aFo, .inl (cI, 200, .inl (upd fow (fdo x4.toNatClampNeg).toNatClampNeg p1)))] H := hP
                      have hD : va_D A [(aX, .inr (9, [.ref aS, .ref aY, .ref aP, .ref aFc, .ref aFn, .ref aFl, .ref aFh, .ref aFd, .int fict, .ref aFo])), (aS, .inr (0, [.ref aB])), (aB, .inl (cB, 202000, .inl (by_ b))), (aFc, .inl (cI, 1024, .inl fch)), (aFn, .inl (cI, 13533, .inl fnx)), (aFl, .inl (cI, 13533, .inl flv)), (aFh, .inl (cI, 13533, .inl fhs)), (aFd, .inl (cI, 13533, .inl fdo)), (aFo, .inl (cI, 200, .inl (upd fow (fdo x4.toNatClampNeg).toNatClampNeg p1)))] := hD
                      refine lv_aload_n hx hb d_FI_match_130 rfl (lv_at hl 2 rfl) ?_
                      refine va_get (D := D) (ci := 9) (v := .ref aFn) (C := R_FI) (T := T_FI) (N := 10) hx hb hT u_FI hown hK hP 0 rfl rfl 4 (by decide) (hT _ k_289) (fun _ h9 => h9) rfl d_FI_match_131 ?_
                      refine lv_iload hx hb d_FI_match_134 (lv_at hl 6 rfl) ?_
                      refine va_iald hx hb hK hP 4 1 rfl rfl (in_f c_2 c_3 hi) d_FI_match_136 ?_
                      refine lv_istore (lv' := [(4, .int (fnx x4.toNatClampNeg)), (7, .int 1), (6, .int (fdo x4.toNatClampNeg)), (0, .ref aX), (1, .int p0), (2, .int p1), (3, .int x3), (5, .int x5)]) hx hb d_FI_match_137 hl (by decide) rfl (fun ls hl => ?_)
                      refine lv_iinc (v := x5 + 1) (lv' := [(5, .int (x5 + 1)), (4, .int (fnx x4.toNatClampNeg)), (7, .int 1), (6, .int (fdo x4.toNatClampNeg)), (0, .ref aX), (1, .int p0), (2, .int p1), (3, .int x3)]) hx hb d_FI_match_139 hl (k := 7) rfl rfl (by decide) rfl (fun ls hl => ?_)
                      refine lv_goto (tgt := 24) hx hb d_FI_match_142 (by decide) ?_
                      exact ih (fnx x4.toNatClampNeg) (x5 + 1) (upd fow (fdo x4.toNatClampNeg).toNatClampNeg p1) (lp_up hm c_1) (by rw [hV, tw_FI_match_h24, if_neg c_1, if_neg c_2, if_neg c_3, if_pos c_4, if_neg c_6, if_neg c_8, if_neg c_10, if_pos c_13]) _ _ hP hD hS ls (lv_sub hl [4, 5, 6, 7, 1, 0] rfl)
set_option maxHeartbeats 4000000 in
set_option maxRecDepth 100000 in
theorem c_FI_match (l : Launch) (D : va_G) (cB cI : ClassId) (aX aS aY aP aFc aFn aFl aFh aFd aFo aB : Nat) (fict : Int32) (b : Nat → UInt8) (fch : Nat → Int32) (fnx : Nat → Int32) (flv : Nat → Int32) (fhs : Nat → Int32) (fdo : Nat → Int32) (sz : Nat) (fow : Nat → Int32) (p0 : Int32) (p1 : Int32) (hi : f_ok fict) : Met l y_FI_match mw_FI_match { frames := 416, cells := 0, slots := 0, locals := 9984 } (va_Pc [.ref aX, .int p0, .int p1] (mt_P D cB cI (wd_FI_match aX aS aY aP aFc aFn aFl aFh aFd aFo aB cB cI fict b fch fnx flv fhs fdo fow) sz)) (va_Qv (fun (u : (Nat → Int32)) => u = tw_FI_match fict b fch fnx flv fhs fdo fow p0 p1) (mt_B D (va_A (wd_FI_match aX aS aY aP aFc aFn aFl aFh aFd aFo aB cB cI fict b fch fnx flv fhs fdo fow) sz) (fun u => wd_FI_match aX aS aY aP aFc aFn aFl aFh aFd aFo aB cB cI fict b fch fnx flv fhs fdo u)) (va_A (wd_FI_match aX aS aY aP aFc aFn aFl aFh aFd aFo aB cB cI fict b fch fnx flv fhs fdo fow) sz)) 0 0 (va_A (wd_FI_match aX aS aY aP aFc aFn aFl aFh aFd aFo aB cB cI fict b fch fnx flv fhs fdo fow) sz) := by
  refine Met.ofW (cc := b_FI_match) (maxL := 8) (ret := none) (by decide) rfl ?_
  intro p e s m args below meth c s₁ B0 hml hv
  obtain ⟨rfl, hsz, hP, hk, hD0⟩ := hv
  have hK := hk.1
  have hN := hk.2.1
  have hx := B0.exec
  have hb := B0.bytes
  have hr := B0.returns
  have hT : ∀ w ∈ lw_g, w.before _ s = true := fun w h => atoms_spec (ws := mw_FI_match) B0.pre w (List.mem_cons_of_mem _ h)
  have hown : s.vm.findClass R_FI = some m.cls := findClass_of_methodNamed B0.named
  have hlocks := B0.notSynchronized
  subst hsz
  have hD := hD0.self (sz := s.heap.size)
  generalize hAe : va_A [(aX, .inr (9, [.ref aS, .ref aY, .ref aP, .ref aFc, .ref aFn, .ref aFl, .ref aFh, .ref aFd, .int fict, .ref aFo])), (aS, .inr (0, [.ref aB])), (aB, .inl (cB, 202000, .inl (by_ b))), (aFc, .inl (cI, 1024, .inl fch)), (aFn, .inl (cI, 13533, .inl fnx)), (aFl, .inl (cI, 13533, .inl flv)), (aFh, .inl (cI, 13533, .inl fhs)), (aFd, .inl (cI, 13533, .inl fdo)), (aFo, .inl (cI, 200, .inl fow))] s.heap.size = A at hD ⊢
  have hA : ∀ q : Nat, s.heap.size ≤ q → A q := fun q h => by rw [← hAe]; exact Or.inr h
  have hS : va_S A s.heap s.heap [] := va_S.rf
  have hl := lv_entry ([.ref aX, .int p0, .int p1]) (n := 8) (Nat.le_of_ble_eq_true rfl)
  rw [lg_entry_eq]
  generalize (lg_sl ([.ref aX, .int p0, .int p1]) ++ List.replicate (8 - (lg_sl ([.ref aX, .int p0, .int p1])).length) Slot.unset).toArray = ls at hl ⊢
  have hl : lv_has ls 8 [(0, .ref aX), (1, .int p0), (2, .int p1)] := hl
  have C0 : lc_C p s m meth c _ b_FI_match 8 none R_FI lw_g := ⟨hx, hb, hml, hr, hown, hlocks, hT⟩
  refine lv_aload_n hx hb d_FI_match_0 rfl (lv_at hl 0 rfl) ?_
  refine va_get (D := D) (ci := 9) (v := .ref aS) (C := R_FI) (T := T_FI) (N := 10) hx hb hT u_FI hown hK hP 0 rfl rfl 0 (by decide) (hT _ k_285) (fun _ h9 => h9) rfl d_FI_match_1 ?_
  refine lv_iload_n hx hb d_FI_match_4 rfl (lv_at hl 1 rfl) ?_
  refine lv_iconst (v := 0) hx hb d_FI_match_5 (by decide) ?_
  refine rd_V (val := tw_ST_hsh0 b p0) (As := [.int p0, .int 0]) (rest := []) ⟨hx, hb, hml, hown, hT⟩ (c_ST_hsh0 l D cB cI aS aB b p0) (cwV 2 hT (gV_of k_975 k_757 k_758 k_2 kc_ST_hash) rfl rfl rfl hd_ST_hash ⟨Nat.le_of_ble_eq_true rfl, Nat.le_of_ble_eq_true rfl⟩) hk (hP.sub (ws' := [(aS, .inr (0, [.ref aB])), (aB, .inl (cB, 202000, .inl (by_ b)))]) [1, 2] rfl) (q0 := 0) rfl rfl rfl rfl hl.1 rfl (Nat.le_of_ble_eq_true rfl) d_FI_match_6 ⟨Nat.zero_le _, Nat.zero_le _⟩ ?_
  refine lv_istore_n (lv' := [(3, .int (tw_ST_hsh0 b p0)), (0, .ref aX), (1, .int p0), (2, .int p1)]) hx hb d_FI_match_9 rfl hl (by decide) rfl (fun ls hl => ?_)
  refine lv_aload_n hx hb d_FI_match_10 rfl (lv_at hl 1 rfl) ?_
  refine va_get (D := D) (ci := 9) (v := .ref aFc) (C := R_FI) (T := T_FI) (N := 10) hx hb hT u_FI hown hK hP 0 rfl rfl 3 (by decide) (hT _ k_288) (fun _ h9 => h9) rfl d_FI_match_11 ?_
  refine lv_iload_n hx hb d_FI_match_14 rfl (lv_at hl 0 rfl) ?_
  refine rd_S (val := tw_FI_chainOf (tw_ST_hsh0 b p0)) (As := [.int (tw_ST_hsh0 b p0)]) (rest := [.ref aFc]) ⟨hx, hb, hml, hown, hT⟩ (c_FI_chainOf l D cB cI (tw_ST_hsh0 b p0)) (va_cwS 1 hT (gS_of k_976 k_977 k_11 kc_FI_chainOf) rfl rfl rfl hd_FI_chainOf ⟨Nat.le_of_ble_eq_true rfl, Nat.le_of_ble_eq_true rfl⟩) hk (va_P_nil) rfl hl.1 rfl (Nat.le_of_ble_eq_true rfl) d_FI_match_15 ⟨Nat.zero_le _, Nat.zero_le _⟩ ?_
  refine va_iald hx hb hK hP 3 1 rfl rfl (ch_in _) d_FI_match_18 ?_
  refine lv_istore (lv' := [(4, .int (fch (tw_FI_chainOf (tw_ST_hsh0 b p0)).toNatClampNeg)), (3, .int (tw_ST_hsh0 b p0)), (0, .ref aX), (1, .int p0), (2, .int p1)]) hx hb d_FI_match_19 hl (by decide) rfl (fun ls hl => ?_)
  refine lv_iconst (v := 0) hx hb d_FI_match_21 (by decide) ?_
  refine lv_istore (lv' := [(5, .int 0), (4, .int (fch (tw_FI_chainOf (tw_ST_hsh0 b p0)).toNatClampNeg)), (3, .int (tw_ST_hsh0 b p0)), (0, .ref aX), (1, .int p0), (2, .int p1)]) hx hb d_FI_match_22 hl (by decide) rfl (fun ls hl => ?_)
  exact l_FI_match_h24 C0 l D cB cI aX aS aY aP aFc aFn aFl aFh aFd aFo aB fict b fch fnx flv fhs fdo hk hA p0 p1 (tw_ST_hsh0 b p0) hi (((fict.toInt - (0 : Int32).toInt).toNat) + 1) (fch (tw_FI_chainOf (tw_ST_hsh0 b p0)).toNatClampNeg) 0 fow (Nat.lt_succ_self _) (by rw [tw_FI_match]) _ _ hP hD hS ls (lv_sub hl [3, 4, 5, 2, 1, 0] rfl)
abbrev wd_FI_writeRow (aX aS aY aP aFc aFn aFl aFh aFd aFo aW aF aK aN aB aKs : Nat) (cB cI : ClassId) (kbase : Int32) (fict : Int32) (kcnt : Int32) (ksts : Nat → Int32) (fow : Nat → Int32) (place : Int32) (limit : Int32) (full : Bool) (b : Nat → UInt8) : va_W := [(aX, .inr (9, [.ref aS, .ref aY, .ref aP, .ref aFc, .ref aFn, .ref aFl, .ref aFh, .ref aFd, .int fict, .ref aFo])), (aY, .inr (3, [.ref aS, .ref aW, .ref aF, .ref aK, .ref aN])), (aW, .inr (1, [.ref aS, .int place, .int limit, .int (b2i full)])), (aS, .inr (0, [.ref aB])), (aB, .inl (cB, 202000, .inl (by_ b))), (aK, .inr (2, [.int kbase, .ref aKs, .int kcnt])), (aKs, .inl (cI, 201, .inl ksts)), (aFo, .inl (cI, 200, .inl fow))]
set_option maxHeartbeats 4000000 in
set_option maxRecDepth 100000 in
theorem l_FI_writeRow_h11 {p : Program} {e : Env} {s : State} {m : MethodId} {args : Array Value} {below : List Frame} {meth : Method} {c : Code} {V : Int32 × Int32 × Bool × (Nat → UInt8)} (C0 : lc_C p s m meth c args b_FI_writeRow 6 none R_FI lw_g) (l : Launch) (D : va_G) (cB cI : ClassId) (aX aS aY aP aFc aFn aFl aFh aFd aFo aW aF aK aN aB aKs : Nat) (L9 : Int32) (U9 : Bool) (A9 : Int32) (kbase : Int32) (fict : Int32) (kcnt : Int32) (ksts : Nat → Int32) (fow : Nat → Int32) {A : Nat → Prop} (hk : hk_ D cB cI s) (hA : ∀ q : Nat, s.heap.size ≤ q → A q) (p1 : Int32) (x3 : Int32) (hbk : ∀ j : Int32, 0 ≤ (tw_BE_start kbase kcnt ksts j).toInt ∧ (tw_BE_start kbase kcnt ksts j).toInt ≤ 202000) : ∀ (n : Nat) (x4 : Int32) (x5 : Int32) (place : Int32) (limit : Int32) (full : Bool) (b : Nat → UInt8), ((200 : Int32).toInt - x5.toInt).toNat < n → ¬ x5 < 0 → w_okr L9 U9 A9 place limit full → V = tw_FI_writeRow_h11 kbase kcnt ksts fow p1 x3 n x4 x5 place limit full b → ∀ (H : Heap) (locs : List Loc), va_P D vwCl [(aX, .inr (9, [.ref aS, .ref aY, .ref aP, .ref aFc, .ref aFn, .ref aFl, .ref aFh, .ref aFd, .int fict, .ref aFo])), (aY, .inr (3, [.ref aS, .ref aW, .ref aF, .ref aK, .ref aN])), (aW, .inr (1, [.ref aS, .int place, .int limit, .int (b2i full)])), (aS, .inr (0, [.ref aB])), (aB, .inl (cB, 202000, .inl (by_ b))), (aK, .inr (2, [.int kbase, .ref aKs, .int kcnt])), (aKs, .inl (cI, 201, .inl ksts)), (aFo, .inl (cI, 200, .inl fow))] H → va_D A [(aX, .inr (9, [.ref aS, .ref aY, .ref aP, .ref aFc, .ref aFn, .ref aFl, .ref aFh, .ref aFd, .int fict, .ref aFo])), (aY, .inr (3, [.ref aS, .ref aW, .ref aF, .ref aK, .ref aN])), (aW, .inr (1, [.ref aS, .int place, .int limit, .int (b2i full)])), (aS, .inr (0, [.ref aB])), (aB, .inl (cB, 202000, .inl (by_ b))), (aK, .inr (2, [.int kbase, .ref aKs, .int kcnt])), (aKs, .inl (cI, 201, .inl ksts)), (aFo, .inl (cI, 200, .inl fow))] → va_S A s.heap H locs → ∀ ls : Array Slot, lv_has ls 6 [(0, .ref aX), (1, .ref aW), (2, .int p1), (3, .int x3), (4, .int x4), (5, .int x5)] → W p l e ({ frames := 2, cells := 0, slots := 0, locals := 83 }) s m args below meth c H locs 0 0 (MQ below (va_Qv (fun (u : Int32 × Int32 × Bool × (Nat → UInt8)) => u = V ∧ w_okr L9 U9 A9 u.1 u.2.1 u.2.2.1) (mt_B D A (fun u => wd_FI_writeRow aX aS aY aP aFc aFn aFl aFh aFd aFo aW aF aK aN aB aKs cB cI kbase fict kcnt ksts fow u.1 u.2.1 u.2.2.1 u.2.2.2)) A) args s 0 0 A) (F0 m 11 ls []) := by
  obtain ⟨hx, hb, hml, hr, hown, hlocks, hT⟩ := id C0
  have hK := hk.1
  have hN := hk.2.1
  intro n
  induction n with
  | zero =>
    intro x4 x5 place limit full b hm
    exact absurd hm (Nat.not_lt_zero _)
  | succ n ih =>
    intro x4 x5 place limit full b hm hv1 hi hV H locs hP hD hS ls hl
    refine lv_iload hx hb d_FI_writeRow_11 (lv_at hl 5 rfl) ?_
    refine lv_aload_n hx hb d_FI_writeRow_13 rfl (lv_at hl 0 rfl) ?_
    refine va_get (D := D) (ci := 9) (v := .ref aY) (C := R_FI) (T := T_FI) (N := 10) hx hb hT u_FI hown hK hP 0 rfl rfl 1 (by decide) (hT _ k_286) (fun _ h9 => h9) rfl d_FI_writeRow_14 ?_
    refine va_getN (D := D) (ci := 3) (v := .ref aK) (C := R_BS) (T := T_BS) (N := 5) hx hb hT u_BS hown hK hP 1 rfl rfl 3 (by decide) (va_Nw.use rfl (hN ("PipelineBelt$Finder", 99, "PipelineBelt$Belts", "back", "LPipelineBelt$Belt;", "PipelineBelt") (by decide))) (fun _ h9 => h9) rfl d_FI_writeRow_17 ?_
    refine va_getN (D := D) (ci := 2) (v := .int kcnt) (C := R_BE) (T := T_BE) (N := 3) hx hb hT u_BE hown hK hP 5 rfl rfl 2 (by decide) (va_Nw.use rfl (hN ("PipelineBelt$Finder", 105, "PipelineBelt$Belt", "count", "I", "PipelineBelt") (by decide))) (fun _ h9 => h9) rfl d_FI_writeRow_20 ?_
    refine lv_icmp_ge (tgt := 98) hx hb d_FI_writeRow_23 (by decide) (fun c_2 => ?_) (fun c_2 => ?_)
    · refine lv_aload_n hx hb d_FI_writeRow_98 rfl (lv_at hl 1 rfl) ?_
      refine lv_iload_n hx hb d_FI_writeRow_99 rfl (lv_at hl 3 rfl) ?_
      refine mt_Vv (As := [.int x3]) (rest := []) (wr := [(aX, .inr (9, [.ref aS, .ref aY, .ref aP, .ref aFc, .ref aFn, .ref aFl, .ref aFh, .ref aFd, .int fict, .ref aFo])), (aY, .inr (3, [.ref aS, .ref aW, .ref aF, .ref aK, .ref aN])), (aK, .inr (2, [.int kbase, .ref aKs, .int kcnt])), (aKs, .inl (cI, 201, .inl ksts)), (aFo, .inl (cI, 200, .inl fow))]) ⟨hx, hb, hml, hown, hT⟩ (c_WR_close l D cB cI aW aS aB L9 U9 A9 _ place limit full b x3 hi) (cwV 1 hT (gV_of k_1003 k_643 k_644 k_5 kc_WR_close) rfl rfl rfl hd_WR_close ⟨Nat.le_of_ble_eq_true rfl, Nat.le_of_ble_eq_true rfl⟩) hk hP hD hS hA [2, 3, 4] [0, 1, 5, 6, 7] rfl rfl rfl (by decide) (by decide) (by decide) (q0 := 0) rfl rfl rfl rfl hl.1 rfl (Nat.le_of_ble_eq_true rfl) d_FI_writeRow_100 ⟨Nat.zero_le _, Nat.zero_le _⟩ (fun u_3 H locs hw_3 hP hD hS => ?_)
      obtain ⟨place_3, limit_3, full_3, b_3⟩ := u_3
      obtain ⟨hw_3, hi_3⟩ := hw_3
      have hP : va_P D vwCl [(aX, .inr (9, [.ref aS, .ref aY, .ref aP, .ref aFc, .ref aFn, .ref aFl, .ref aFh, .ref aFd, .int fict, .ref aFo])), (aY, .inr (3, [.ref aS, .ref aW, .ref aF, .ref aK, .ref aN])), (aW, .inr (1, [.ref aS, .int place_3, .int limit_3, .int (b2i full_3)])), (aS, .inr (0, [.ref aB])), (aB, .inl (cB, 202000, .inl (by_ b_3))), (aK, .inr (2, [.int kbase, .ref aKs, .int kcnt])), (aKs, .inl (cI, 201, .inl ksts)), (aFo, .inl (cI, 200, .inl fow))] H := hP.sub [0, 1, 5, 6, 7, 2, 3, 4] rfl
      have hD : va_D A [(aX, .inr (9, [.ref aS, .ref aY, .ref aP, .ref aFc, .ref aFn, .ref aFl, .ref aFh, .ref aFd, .int fict, .ref aFo])), (aY, .inr (3, [.ref aS, .ref aW, .ref aF, .ref aK, .ref aN])), (aW, .inr (1, [.ref aS, .int place_3, .int limit_3, .int (b2i full_3)])), (aS, .inr (0, [.ref aB])), (aB, .inl (cB, 202000, .inl (by_ b_3))), (aK, .inr (2, [.int kbase, .ref aKs, .int kcnt])), (aKs, .inl (cI, 201, .inl ksts)), (aFo, .inl (cI, 200, .inl fow))] := hD.sub [0, 1, 5, 6, 7, 2, 3, 4] (by decide) rfl
      exact W.vret hx hb hr (fun t ht hW => ⟨⟨(place_3, limit_3, full_3, b_3), rfl, ⟨(by rw [hV, tw_FI_writeRow_h11, if_pos c_2, ← hw_3, tp4_mk]; first | done | rfl), hi_3⟩, by rw [ht]; exact hP, hD⟩, hS.F ht⟩) hS.2.2 d_FI_writeRow_103
    · refine lv_iload hx hb d_FI_writeRow_26 (lv_at hl 5 rfl) ?_
      refine lv_sipush (v := 200) hx hb d_FI_writeRow_28 (by decide) ?_
      refine lv_icmp_ge (tgt := 98) hx hb d_FI_writeRow_31 (by decide) (fun c_4 => ?_) (fun c_4 => ?_)
      · refine lv_aload_n hx hb d_FI_writeRow_98 rfl (lv_at hl 1 rfl) ?_
        refine lv_iload_n hx hb d_FI_writeRow_99 rfl (lv_at hl 3 rfl) ?_
        refine mt_Vv (As := [.int x3]) (rest := []) (wr := [(aX, .inr (9, [.ref aS, .ref aY, .ref aP, .ref aFc, .ref aFn, .ref aFl, .ref aFh, .ref aFd, .int fict, .ref aFo])), (aY, .inr (3, [.ref aS, .ref aW, .ref aF, .ref aK, .ref aN])), (aK, .inr (2, [.int kbase, .ref aKs, .int kcnt])), (aKs, .inl (cI, 201, .inl ksts)), (aFo, .inl (cI, 200, .inl fow))]) ⟨hx, hb, hml, hown, hT⟩ (c_WR_close l D cB cI aW aS aB L9 U9 A9 _ place limit full b x3 hi) (cwV 1 hT (gV_of k_1003 k_643 k_644 k_5 kc_WR_close) rfl rfl rfl hd_WR_close ⟨Nat.le_of_ble_eq_true rfl, Nat.le_of_ble_eq_true rfl⟩) hk hP hD hS hA [2, 3, 4] [0, 1, 5, 6, 7] rfl rfl rfl (by decide) (by decide) (by decide) (q0 := 0) rfl rfl rfl rfl hl.1 rfl (Nat.le_of_ble_eq_true rfl) d_FI_writeRow_100 ⟨Nat.zero_le _, Nat.zero_le _⟩ (fun u_5 H locs hw_5 hP hD hS => ?_)
        obtain ⟨place_5, limit_5, full_5, b_5⟩ := u_5
        obtain ⟨hw_5, hi_5⟩ := hw_5
        have hP : va_P D vwCl [(aX, .inr (9, [.ref aS, .ref aY, .ref aP, .ref aFc, .ref aFn, .ref aFl, .ref aFh, .ref aFd, .int fict, .ref aFo])), (aY, .inr (3, [.ref aS, .ref aW, .ref aF, .ref aK, .ref aN])), (aW, .inr (1, [.ref aS, .int place_5, .int limit_5, .int (b2i full_5)])), (aS, .inr (0, [.ref aB])), (aB, .inl (cB, 202000, .inl (by_ b_5))), (aK, .inr (2, [.int kbase, .ref aKs, .int kcnt])), (aKs, .inl (cI, 201, .inl ksts)), (aFo, .inl (cI, 200, .inl fow))] H := hP.sub [0, 1, 5, 6, 7, 2, 3, 4] rfl
        have hD : va_D A [(aX, .inr (9, [.ref aS, .ref aY, .ref aP, .ref aFc, .ref aFn, .ref aFl, .ref aFh, .ref aFd, .int fict, .ref aFo])), (aY, .inr (3, [.ref aS, .ref aW, .ref aF, .ref aK, .ref aN])), (aW, .inr (1, [.ref aS, .int place_5, .int limit_5, .int (b2i full_5)])), (aS, .inr (0, [.ref aB])), (aB, .inl (cB, 202000, .inl (by_ b_5))), (aK, .inr (2, [.int kbase, .ref aKs, .int kcnt])), (aKs, .inl (cI, 201, .inl ksts)), (aFo, .inl (cI, 200, .inl fow))] := hD.sub [0, 1, 5, 6, 7, 2, 3, 4] (by decide) rfl
        exact W.vret hx hb hr (fun t ht hW => ⟨⟨(place_5, limit_5, full_5, b_5), rfl, ⟨(by rw [hV, tw_FI_writeRow_h11, if_neg c_2, if_pos c_4, ← hw_5, tp4_mk]; first | done | rfl), hi_5⟩, by rw [ht]; exact hP, hD⟩, hS.F ht⟩) hS.2.2 d_FI_writeRow_103
      · refine lv_aload_n hx hb d_FI_writeRow_34 rfl (lv_at hl 1 rfl) ?_
        refine va_getN (D := D) (ci := 1) (v := .int (b2i full)) (C := R_WR) (T := T_WR) (N := 4) hx hb hT u_WR hown hK hP 2 rfl rfl 3 (by decide) (va_Nw.use rfl (hN ("PipelineBelt$Finder", 193, "PipelineBelt$Writer", "full", "Z", "PipelineBelt") (by decide))) (fun _ h9 => h9) rfl d_FI_writeRow_35 ?_
        refine lv_if_ne (tgt := 98) hx hb d_FI_writeRow_38 (by decide) (fun c_6 => ?_) (fun c_6 => ?_)
        · refine lv_aload_n hx hb d_FI_writeRow_98 rfl (lv_at hl 1 rfl) ?_
          refine lv_iload_n hx hb d_FI_writeRow_99 rfl (lv_at hl 3 rfl) ?_
          refine mt_Vv (As := [.int x3]) (rest := []) (wr := [(aX, .inr (9, [.ref aS, .ref aY, .ref aP, .ref aFc, .ref aFn, .ref aFl, .ref aFh, .ref aFd, .int fict, .ref aFo])), (aY, .inr (3, [.ref aS, .ref aW, .ref aF, .ref aK, .ref aN])), (aK, .inr (2, [.int kbase, .ref aKs, .int kcnt])), (aKs, .inl (cI, 201, .inl ksts)), (aFo, .inl (cI, 200, .inl fow))]) ⟨hx, hb, hml, hown, hT⟩ (c_WR_close l D cB cI aW aS aB L9 U9 A9 _ place limit full b x3 hi) (cwV 1 hT (gV_of k_1003 k_643 k_644 k_5 kc_WR_close) rfl rfl rfl hd_WR_close ⟨Nat.le_of_ble_eq_true rfl, Nat.le_of_ble_eq_true rfl⟩) hk hP hD hS hA [2, 3, 4] [0, 1, 5, 6, 7] rfl rfl rfl (by decide) (by decide) (by decide) (q0 := 0) rfl rfl rfl rfl hl.1 rfl (Nat.le_of_ble_eq_true rfl) d_FI_writeRow_100 ⟨Nat.zero_le _, Nat.zero_le _⟩ (fun u_7 H locs hw_7 hP hD hS => ?_)
          obtain ⟨place_7, limit_7, full_7, b_7⟩ := u_7
          obtain ⟨hw_7, hi_7⟩ := hw_7
          have hP : va_P D vwCl [(aX, .inr (9, [.ref aS, .ref aY, .ref aP, .ref aFc, .ref aFn, .ref aFl, .ref aFh, .ref aFd, .int fict, .ref aFo])), (aY, .inr (3, [.ref aS, .ref aW, .ref aF, .ref aK, .ref aN])), (aW, .inr (1, [.ref aS, .int place_7, .int limit_7, .int (b2i full_7)])), (aS, .inr (0, [.ref aB])), (aB, .inl (cB, 202000, .inl (by_ b_7))), (aK, .inr (2, [.int kbase, .ref aKs, .int kcnt])), (aKs, .inl (cI, 201, .inl ksts)), (aFo, .inl (cI, 200, .inl fow))] H := hP.sub [0, 1, 5, 6, 7, 2, 3, 4] rfl
          have hD : va_D A [(aX, .inr (9, [.ref aS, .ref aY, .ref aP, .ref aFc, .ref aFn, .ref aFl, .ref aFh, .ref aFd, .int fict, .ref aFo])), (aY, .inr (3, [.ref aS, .ref aW, .ref aF, .ref aK, .ref aN])), (aW, .inr (1, [.ref aS, .int place_7, .int limit_7, .int (b2i full_7)])), (aS, .inr (0, [.ref aB])), (aB, .inl (cB, 202000, .inl (by_ b_7))), (aK, .inr (2, [.int kbase, .ref aKs, .int kcnt])), (aKs, .inl (cI, 201, .inl ksts)), (aFo, .inl (cI, 200, .inl fow))] := hD.sub [0, 1, 5, 6, 7, 2, 3, 4] (by decide) rfl
          exact W.vret hx hb hr (fun t ht hW => ⟨⟨(place_7, limit_7, full_7, b_7), rfl, ⟨(by rw [hV, tw_FI_writeRow_h11, if_neg c_2, if_neg c_4, if_neg c_6, ← hw_7, tp4_mk]; first | done | rfl), hi_7⟩, by rw [ht]; exact hP, hD⟩, hS.F ht⟩) hS.2.2 d_FI_writeRow_103
        · refine lv_aload_n hx hb d_FI_writeRow_41 rfl (lv_at hl 0 rfl) ?_
          refine va_get (D := D) (ci := 9) (v := .ref aFo) (C := R_FI) (T := T_FI) (N := 10) hx hb hT u_FI hown hK hP 0 rfl rfl 9 (by decide) (hT _ k_294) (fun _ h9 => h9) rfl d_FI_writeRow_42 ?_
          refine lv_iload hx hb d_FI_writeRow_45 (lv_at hl 5 rfl) ?_
          refine va_iald hx hb hK hP 7 1 rfl rfl (in_nn hv1 c_4 rfl) d_FI_writeRow_47 ?_
          refine lv_iload_n hx hb d_FI_writeRow_48 rfl (lv_at hl 2 rfl) ?_
          refine lv_icmp_ne (tgt := 92) hx hb d_FI_writeRow_49 (by decide) (fun c_8 => ?_) (fun c_8 => ?_)
          · refine lv_iinc (v := x5 + 1) (lv' := [(5, .int (x5 + 1)), (0, .ref aX), (1, .ref aW), (2, .int p1), (3, .int x3), (4, .int x4)]) hx hb d_FI_writeRow_92 hl (k := 5) rfl rfl (by decide) rfl (fun ls hl => ?_)
            refine lv_goto (tgt := 11) hx hb d_FI_writeRow_95 (by decide) ?_
            exact ih x4 (x5 + 1) place limit full b (lp_up hm c_4) (i_upn hv1 c_4) (hi) (by rw [hV, tw_FI_writeRow_h11, if_neg c_2, if_neg c_4, if_pos c_6, if_neg c_8]) _ _ hP hD hS ls (lv_sub hl [1, 2, 3, 4, 5, 0] rfl)
          · refine lv_aload_n hx hb d_FI_writeRow_52 rfl (lv_at hl 1 rfl) ?_
            refine lv_iconst (v := 3) hx hb d_FI_writeRow_53 (by decide) ?_
            refine lv_iload hx hb d_FI_writeRow_54 (lv_at hl 4 rfl) ?_
            refine mt_Vv (As := [.int 3, .int x4]) (rest := []) (wr := [(aX, .inr (9, [.ref aS, .ref aY, .ref aP, .ref aFc, .ref aFn, .ref aFl, .ref aFh, .ref aFd, .int fict, .ref aFo])), (aY, .inr (3, [.ref aS, .ref aW, .ref aF, .ref aK, .ref aN])), (aK, .inr (2, [.int kbase, .ref aKs, .int kcnt])), (aKs, .inl (cI, 201, .inl ksts)), (aFo, .inl (cI, 200, .inl fow))]) ⟨hx, hb, hml, hown, hT⟩ (c_WR_index l D cB cI aW aS aB L9 U9 A9 _ place limit full b 3 x4 hi) (cwV 2 hT (gV_of k_1002 k_636 k_637 k_5 kc_WR_index) rfl rfl rfl hd_WR_index ⟨Nat.le_of_ble_eq_true rfl, Nat.le_of_ble_eq_true rfl⟩) hk hP hD hS hA [2, 3, 4] [0, 1, 5, 6, 7] rfl rfl rfl (by decide) (by decide) (by decide) (q0 := 0) rfl rfl rfl rfl hl.1 rfl (Nat.le_of_ble_eq_true rfl) d_FI_writeRow_56 ⟨Nat.zero_le _, Nat.zero_le _⟩ (fun u_9 H locs hw_9 hP hD hS => ?_)
            obtain ⟨place_9, limit_9, full_9, b_9⟩ := u_9
            obtain ⟨hw_9, hi_9⟩ := hw_9
            have hP : va_P D vwCl [(aX, .inr (9, [.ref aS, .ref aY, .ref aP, .ref aFc, .ref aFn, .ref aFl, .ref aFh, .ref aFd, .int fict, .ref aFo])), (aY, .inr (3, [.ref aS, .ref aW, .ref aF, .ref aK, .ref aN])), (aW, .inr (1, [.ref aS, .int place_9, .int limit_9, .int (b2i full_9)])), (aS, .inr (0, [.ref aB])), (aB, .inl (cB, 202000, .inl (by_ b_9))), (aK, .inr (2, [.int kbase, .ref aKs, .int kcnt])), (aKs, .inl (cI, 201, .inl ksts)), (aFo, .inl (cI, 200, .inl fow))] H := hP.sub [0, 1, 5, 6, 7, 2, 3, 4] rfl
            have hD : va_D A [(aX, .inr (9, [.ref aS, .ref aY, .ref aP, .ref aFc, .ref aFn, .ref aFl, .ref aFh, .ref aFd, .int fict, .ref aFo])), (aY, .inr (3, [.ref aS, .ref aW, .ref aF, .ref aK, .ref aN])), (aW, .inr (1, [.ref aS, .int place_9, .int limit_9, .int (b2i full_9)])), (aS, .inr (0, [.ref aB])), (aB, .inl (cB, 202000, .inl (by_ b_9))), (aK, .inr (2, [.int kbase, .ref aKs, .int kcnt])), (aKs, .inl (cI, 201, .inl ksts)), (aFo, .inl (cI, 200, .inl fow))] := hD.sub [0, 1, 5, 6, 7, 2, 3, 4] (by decide) rfl
            refine lv_aload_n hx hb d_FI_writeRow_59 rfl (lv_at hl 1 rfl) ?_
            refine lv_aload_n hx hb d_FI_writeRow_60 rfl (lv_at hl 0 rfl) ?_
            refine va_get (D := D) (ci := 9) (v := .ref aY) (C := R_FI) (T := T_FI) (N := 10) hx hb hT u_FI hown hK hP 0 rfl rfl 1 (by decide) (hT _ k_286) (fun _ h9 => h9) rfl d_FI_writeRow_61 ?_
            refine va_getN (D := D) (ci := 3) (v := .ref aK) (C := R_BS) (T := T_BS) (N := 5) hx hb hT u_BS hown hK hP 1 rfl rfl 3 (by decide) (va_Nw.use rfl (hN ("PipelineBelt$Finder", 99, "PipelineBelt$Belts", "back", "LPipelineBelt$Belt;", "PipelineBelt") (by decide))) (fun _ h9 => h9) rfl d_FI_writeRow_64 ?_
            refine lv_iload hx hb d_FI_writeRow_67 (lv_at hl 5 rfl) ?_
            refine rd_V (val := tw_BE_start kbase kcnt ksts x5) (As := [.int x5]) (rest := [.ref aW]) ⟨hx, hb, hml, hown, hT⟩ (c_BE_start l D cB cI aK aKs kbase kcnt ksts x5) (cwV 1 hT (gV_of k_958 k_440 k_441 k_6 kc_BE_start) rfl rfl rfl hd_BE_start ⟨Nat.le_of_ble_eq_true rfl, Nat.le_of_ble_eq_true rfl⟩) hk (hP.sub (ws' := [(aK, .inr (2, [.int kbase, .ref aKs, .int kcnt])), (aKs, .inl (cI, 201, .inl ksts))]) [5, 6] rfl) (q0 := 0) rfl rfl rfl rfl hl.1 rfl (Nat.le_of_ble_eq_true rfl) d_FI_writeRow_69 ⟨Nat.zero_le _, Nat.zero_le _⟩ ?_
            refine lv_aload_n hx hb d_FI_writeRow_72 rfl (lv_at hl 0 rfl) ?_
            refine va_get (D := D) (ci := 9) (v := .ref aY) (C := R_FI) (T := T_FI) (N := 10) hx hb hT u_FI hown hK hP 0 rfl rfl 1 (by decide) (hT _ k_286) (fun _ h9 => h9) rfl d_FI_writeRow_73 ?_
            refine va_getN (D := D) (ci := 3) (v := .ref aK) (C := R_BS) (T := T_BS) (N := 5) hx hb hT u_BS hown hK hP 1 rfl rfl 3 (by decide) (va_Nw.use rfl (hN ("PipelineBelt$Finder", 99, "PipelineBelt$Belts", "back", "LPipelineBelt$Belt;", "PipelineBelt") (by decide))) (fun _ h9 => h9) rfl d_FI_writeRow_76 ?_
            refine lv_iload hx hb d_FI_writeRow_79 (lv_at hl 5 rfl) ?_
            refine lv_iconst (v := 1) hx hb d_FI_writeRow_81 (by decide) ?_
            refine lv_iadd hx hb d_FI_writeRow_82 ?_
            refine rd_V (val := tw_BE_start kbase kcnt ksts (x5 + 1)) (As := [.int (x5 + 1)]) (rest := [.int (tw_BE_start kbase kcnt ksts x5), .ref aW]) ⟨hx, hb, hml, hown, hT⟩ (c_BE_start l D cB cI aK aKs kbase kcnt ksts (x5 + 1)) (cwV 1 hT (gV_of k_958 k_440 k_441 k_6 kc_BE_start) rfl rfl rfl hd_BE_start ⟨Nat.le_of_ble_eq_true rfl, Nat.le_of_ble_eq_true rfl⟩) hk (hP.sub (ws' := [(aK, .inr (2, [.int kbase, .ref aKs, .int kcnt])), (aKs, .inl (cI, 201, .inl ksts))]) [5, 6] rfl) (q0 := 0) rfl rfl rfl rfl hl.1 rfl (Nat.le_of_ble_eq_true rfl) d_FI_writeRow_83 ⟨Nat.zero_le _, Nat.zero_le _⟩ ?_
            refine mt_Vv (As := [.int (tw_BE_start kbase kcnt ksts x5), .int (tw_BE_start kbase kcnt ksts (x5 + 1))]) (rest := []) (wr := [(aX, .inr (9, [.ref aS, .ref aY, .ref aP, .ref aFc, .ref aFn, .ref aFl, .ref aFh, .ref aFd, .int fict, .ref aFo])), (aY, .inr (3, [.ref aS, .ref aW, .ref aF, .ref aK, .ref aN])), (aK, .inr (2, [.int kbase, .ref aKs, .int kcnt])), (aKs, .inl (cI, 201, .inl ksts)), (aFo, .inl (cI, 200, .inl fow))]) ⟨hx, hb, hml, hown, hT⟩ (c_WR_copy l D cB cI aW aS aB L9 U9 A9 _ place_9 limit_9 full_9 b_9 (tw_BE_start kbase kcnt ksts x5) (tw_BE_start kbase kcnt ksts (x5 + 1)) (Or.inl (le30 (hbk _).2)) hi_9) (cwV 2 hT (gV_of k_996 k_451 k_452 k_5 kc_WR_copy) rfl rfl rfl hd_WR_copy ⟨Nat.le_of_ble_eq_true rfl, Nat.le_of_ble_eq_true rfl⟩) hk hP hD hS hA [2, 3, 4] [0, 1, 5, 6, 7] rfl rfl rfl (by decide) (by decide) (by decide) (q0 := 0) rfl rfl rfl rfl hl.1 rfl (Nat.le_of_ble_eq_true rfl) d_FI_writeRow_86 ⟨Nat.zero_le _, Nat.zero_le _⟩ (fun u_10 H locs hw_10 hP hD hS => ?_)
            obtain ⟨place_10, limit_10, full_10, b_10⟩ := u_10
            obtain ⟨hw_10, hi_10⟩ := hw_10
            have hP : va_P D vwCl [(aX, .inr (9, [.ref aS, .ref aY, .ref aP, .ref aFc, .ref aFn, .ref aFl, .ref aFh, .ref aFd, .int fict, .ref aFo])), (aY, .inr (3, [.ref aS, .ref aW, .ref aF, .ref aK, .ref aN])), (aW, .inr (1, [.ref aS, .int place_10, .int limit_10, .int (b2i full_10)])), (aS, .inr (0, [.ref aB])), (aB, .inl (cB, 202000, .inl (by_ b_10))), (aK, .inr (2, [.int kbase, .ref aKs, .int kcnt])), (aKs, .inl (cI, 201, .inl ksts)), (aFo, .inl (cI, 200, .inl fow))] H := hP.sub [0, 1, 5, 6, 7, 2, 3, 4] rfl
            have hD : va_D A [(aX, .inr (9, [.ref aS, .ref aY, .ref aP, .ref aFc, .ref aFn, .ref aFl, .ref aFh, .ref aFd, .int fict, .ref aFo])), (aY, .inr (3, [.ref aS, .ref aW, .ref aF, .ref aK, .ref aN])), (aW, .inr (1, [.ref aS, .int place_10, .int limit_10, .int (b2i full_10)])), (aS, .inr (0, [.ref aB])), (aB, .inl (cB, 202000, .inl (by_ b_10))), (aK, .inr (2, [.int kbase, .ref aKs, .int kcnt])), (aKs, .inl (cI, 201, .inl ksts)), (aFo, .inl (cI, 200, .inl fow))] := hD.sub [0, 1, 5, 6, 7, 2, 3, 4] (by decide) rfl
            refine lv_iinc (v := x4 + 1) (lv' := [(4, .int (x4 + 1)), (0, .ref aX), (1, .ref aW), (2, .int p1), (3, .int x3), (5, .int x5)]) hx hb d_FI_writeRow_89 hl (k := 4) rfl rfl (by decide) rfl (fun ls hl => ?_)
            refine lv_iinc (v := x5 + 1) (lv' := [(5, .int (x5 + 1)), (4, .int (x4 + 1)), (0, .ref aX), (1, .ref aW), (2, .int p1), (3, .int x3)]) hx hb d_FI_writeRow_92 hl (k := 5) rfl rfl (by decide) rfl (fun ls hl => ?_)
            refine lv_goto (tgt := 11) hx hb d_FI_writeRow_95 (by decide) ?_
            exact ih (x4 + 1) (x5 + 1) place_10 limit_10 full_10 b_10 (lp_up hm c_4) (i_upn hv1 c_4) (hi_10) (by rw [hV, tw_FI_writeRow_h11, if_neg c_2, if_neg c_4, if_pos c_6, if_pos c_8, ← hw_9, tp4_mk, ← hw_10, tp4_mk]) _ _ hP hD hS ls (lv_sub hl [2, 3, 4, 5, 1, 0] rfl)
set_option maxHeartbeats 4000000 in
set_option maxRecDepth 100000 in
theorem c_FI_writeRow (l : Launch) (D : va_G) (cB cI : ClassId) (aX aS aY aP aFc aFn aFl aFh aFd aFo aW aF aK aN aB aKs : Nat) (L9 : Int32) (U9 : Bool) (A9 : Int32) (kbase : Int32) (fict : Int32) (kcnt : Int32) (ksts : Nat → Int32) (fow : Nat → Int32) (sz : Nat) (place : Int32) (limit : Int32) (full : Bool) (b : Nat → UInt8) (p1 : Int32) (hbk : ∀ j : Int32, 0 ≤ (tw_BE_start kbase kcnt ksts j).toInt ∧ (tw_BE_start kbase kcnt ksts j).toInt ≤ 202000) (hi : w_okr L9 U9 A9 place limit full) : Met l y_FI_writeRow mw_FI_writeRow { frames := 2, cells := 0, slots := 0, locals := 83 } (va_Pc [.ref aX, .ref aW, .int p1] (mt_P D cB cI (wd_FI_writeRow aX aS aY aP aFc aFn aFl aFh aFd aFo aW aF aK aN aB aKs cB cI kbase fict kcnt ksts fow place limit full b) sz)) (va_Qv (fun (u : Int32 × Int32 × Bool × (Nat → UInt8)) => u = tw_FI_writeRow kbase kcnt ksts fow place limit full b p1 ∧ w_okr L9 U9 A9 u.1 u.2.1 u.2.2.1) (mt_B D (va_A (wd_FI_writeRow aX aS aY aP aFc aFn aFl aFh aFd aFo aW aF aK aN aB aKs cB cI kbase fict kcnt ksts fow place limit full b) sz) (fun u => wd_FI_writeRow aX aS aY aP aFc aFn aFl aFh aFd aFo aW aF aK aN aB aKs cB cI kbase fict kcnt ksts fow u.1 u.2.1 u.2.2.1 u.2.2.2)) (va_A (wd_FI_writeRow aX aS aY aP aFc aFn aFl aFh aFd aFo aW aF aK aN aB aKs cB cI kbase fict kcnt ksts fow place limit full b) sz)) 0 0 (va_A (wd_FI_writeRow aX aS aY aP aFc aFn aFl aFh aFd aFo aW aF aK aN aB aKs cB cI kbase fict kcnt ksts fow place limit full b) sz) := by
  refine Met.ofW (cc := b_FI_writeRow) (maxL := 6) (ret := none) (by decide) rfl ?_
  intro p e s m args below meth c s₁ B0 hml hv
  obtain ⟨rfl, hsz, hP, hk, hD0⟩ := hv
  have hK := hk.1
  have hN := hk.2.1
  have hx := B0.exec
  have hb := B0.bytes
  have hr := B0.returns
  have hT : ∀ w ∈ lw_g, w.before _ s = true := fun w h => atoms_spec (ws := mw_FI_writeRow) B0.pre w (List.mem_cons_of_mem _ h)
  have hown : s.vm.findClass R_FI = some m.cls := findClass_of_methodNamed B0.named
  have hlocks := B0.notSynchronized
  subst hsz
  have hD := hD0.self (sz := s.heap.size)
  generalize hAe : va_A [(aX, .inr (9, [.ref aS, .ref aY, .ref aP, .ref aFc, .ref aFn, .ref aFl, .ref aFh, .ref aFd, .int fict, .ref aFo])), (aY, .inr (3, [.ref aS, .ref aW, .ref aF, .ref aK, .ref aN])), (aW, .inr (1, [.ref aS, .int place, .int limit, .int (b2i full)])), (aS, .inr (0, [.ref aB])), (aB, .inl (cB, 202000, .inl (by_ b))), (aK, .inr (2, [.int kbase, .ref aKs, .int kcnt])), (aKs, .inl (cI, 201, .inl ksts)), (aFo, .inl (cI, 200, .inl fow))] s.heap.size = A at hD ⊢
  have hA : ∀ q : Nat, s.heap.size ≤ q → A q := fun q h => by rw [← hAe]; exact Or.inr h
  have hS : va_S A s.heap s.heap [] := va_S.rf
  have hl := lv_entry ([.ref aX, .ref aW, .int p1]) (n := 6) (Nat.le_of_ble_eq_true rfl)
  rw [lg_entry_eq]
  generalize (lg_sl ([.ref aX, .ref aW, .int p1]) ++ List.replicate (6 - (lg_sl ([.ref aX, .ref aW, .int p1])).length) Slot.unset).toArray = ls at hl ⊢
  have hl : lv_has ls 6 [(0, .ref aX), (1, .ref aW), (2, .int p1)] := hl
  have C0 : lc_C p s m meth c _ b_FI_writeRow 6 none R_FI lw_g := ⟨hx, hb, hml, hr, hown, hlocks, hT⟩
  refine lv_aload_n hx hb d_FI_writeRow_0 rfl (lv_at hl 1 rfl) ?_
  refine mt_Vi (As := []) (rest := []) (wr := [(aX, .inr (9, [.ref aS, .ref aY, .ref aP, .ref aFc, .ref aFn, .ref aFl, .ref aFh, .ref aFd, .int fict, .ref aFo])), (aY, .inr (3, [.ref aS, .ref aW, .ref aF, .ref aK, .ref aN])), (aK, .inr (2, [.int kbase, .ref aKs, .int kcnt])), (aKs, .inl (cI, 201, .inl ksts)), (aFo, .inl (cI, 200, .inl fow))]) ⟨hx, hb, hml, hown, hT⟩ (c_WR_open l D cB cI aW aS aB L9 U9 A9 _ place limit full b hi) (cwV 0 hT (gV_of k_994 k_598 k_599 k_5 kc_WR_open) rfl rfl rfl hd_WR_open ⟨Nat.le_of_ble_eq_true rfl, Nat.le_of_ble_eq_true rfl⟩) hk hP hD hS hA [2, 3, 4] [0, 1, 5, 6, 7] rfl rfl rfl (by decide) (by decide) (by decide) (q0 := 0) rfl rfl rfl rfl hl.1 rfl (Nat.le_of_ble_eq_true rfl) d_FI_writeRow_1 ⟨Nat.zero_le _, Nat.zero_le _⟩ (fun r_1 u_1 H locs hw_1 hP hD hS => ?_)
  obtain ⟨place_1, limit_1, full_1, b_1⟩ := u_1
  obtain ⟨hw_1, hi_1⟩ := hw_1
  have hP : va_P D vwCl [(aX, .inr (9, [.ref aS, .ref aY, .ref aP, .ref aFc, .ref aFn, .ref aFl, .ref aFh, .ref aFd, .int fict, .ref aFo])), (aY, .inr (3, [.ref aS, .ref aW, .ref aF, .ref aK, .ref aN])), (aW, .inr (1, [.ref aS, .int place_1, .int limit_1, .int (b2i full_1)])), (aS, .inr (0, [.ref aB])), (aB, .inl (cB, 202000, .inl (by_ b_1))), (aK, .inr (2, [.int kbase, .ref aKs, .int kcnt])), (aKs, .inl (cI, 201, .inl ksts)), (aFo, .inl (cI, 200, .inl fow))] H := hP.sub [0, 1, 5, 6, 7, 2, 3, 4] rfl
  have hD : va_D A [(aX, .inr (9, [.ref aS, .ref aY, .ref aP, .ref aFc, .ref aFn, .ref aFl, .ref aFh, .ref aFd, .int fict, .ref aFo])), (aY, .inr (3, [.ref aS, .ref aW, .ref aF, .ref aK, .ref aN])), (aW, .inr (1, [.ref aS, .int place_1, .int limit_1, .int (b2i full_1)])), (aS, .inr (0, [.ref aB])), (aB, .inl (cB, 202000, .inl (by_ b_1))), (aK, .inr (2, [.int kbase, .ref aKs, .int kcnt])), (aKs, .inl (cI, 201, .inl ksts)), (aFo, .inl (cI, 200, .inl fow))] := hD.sub [0, 1, 5, 6, 7, 2, 3, 4] (by decide) rfl
  refine lv_istore_n (lv' := [(3, .int r_1), (0, .ref aX), (1, .ref aW), (2, .int p1)]) hx hb d_FI_writeRow_4 rfl hl (by decide) rfl (fun ls hl => ?_)
  refine lv_iconst (v := 0) hx hb d_FI_writeRow_5 (by decide) ?_
  refine lv_istore (lv' := [(4, .int 0), (3, .int r_1), (0, .ref aX), (1, .ref aW), (2, .int p1)]) hx hb d_FI_writeRow_6 hl (by decide) rfl (fun ls hl => ?_)
  refine lv_iconst (v := 0) hx hb d_FI_writeRow_8 (by decide) ?_
  refine lv_istore (lv' := [(5, .int 0), (4, .int 0), (3, .int r_1), (0, .ref aX), (1, .ref aW), (2, .int p1)]) hx hb d_FI_writeRow_9 hl (by decide) rfl (fun ls hl => ?_)
  exact l_FI_writeRow_h11 C0 l D cB cI aX aS aY aP aFc aFn aFl aFh aFd aFo aW aF aK aN aB aKs L9 U9 A9 kbase fict kcnt ksts fow hk hA p1 r_1 hbk ((((200 : Int32).toInt - (0 : Int32).toInt).toNat) + 1) 0 0 place_1 limit_1 full_1 b_1 (Nat.lt_succ_self _) (by decide) (hi_1) (by rw [tw_FI_writeRow, ← hw_1, tp5_mk]) _ _ hP hD hS ls (lv_sub hl [3, 4, 5, 2, 1, 0] rfl)
abbrev wd_FI_gather (aX aS aY aP aFc aFn aFl aFh aFd aFo aW aF aK aN aKs aB aV aPs aPe aPi aPh aPl aPn : Nat) (cB cI : ClassId) (kbase : Int32) (kcnt : Int32) (ksts : Nat → Int32) (b : Nat → UInt8) (pcnt : Int32) (pfix : Bool) (pown : Int32) (pst : Nat → Int32) (pen : Nat → Int32) (pix : Nat → Int32) (fict : Int32) (plc : Int32) (psr : Int32) (pbs : Int32) (pms : Bool) (plv : Nat → Int32) (psn : Nat → Int32) (fch : Nat → Int32) (fnx : Nat → Int32) (flv : Nat → Int32) (fhs : Nat → Int32) (fdo : Nat → Int32) (fow : Nat → Int32) : va_W := [(aX, .inr (9, [.ref aS, .ref aY, .ref aP, .ref aFc, .ref aFn, .ref aFl, .ref aFh, .ref aFd, .int fict, .ref aFo])), (aY, .inr (3, [.ref aS, .ref aW, .ref aF, .ref aK, .ref aN])), (aK, .inr (2, [.int kbase, .ref aKs, .int kcnt])), (aKs, .inl (cI, 201, .inl ksts)), (aS, .inr (0, [.ref aB])), (aB, .inl (cB, 202000, .inl (by_ b))), (aP, .inr (5, [.ref aS, .ref aV, .ref aPs, .ref aPe, .ref aPi, .ref aPh, .int pcnt, .int (b2i pfix), .int pown, .ref aPl, .ref aPn, .int plc, .int psr, .int pbs, .int (b2i pms)])), (aPs, .inl (cI, 8, .inl pst)), (aPe, .inl (cI, 8, .inl pen)), (aPi, .inl (cI, 8, .inl pix)), (aPl, .inl (cI, 1001, .inl plv)), (aPn, .inl (cI, 2000, .inl psn)), (aFc, .inl (cI, 1024, .inl fch)), (aFn, .inl (cI, 13533, .inl fnx)), (aFl, .inl (cI, 13533, .inl flv)), (aFh, .inl (cI, 13533, .inl fhs)), (aFd, .inl (cI, 13533, .inl fdo)), (aFo, .inl (cI, 200, .inl fow))]
set_option maxHeartbeats 4000000 in
set_option maxRecDepth 100000 in
theorem l_FI_gather_h68 {p : Program} {e : Env} {s : State} {m : MethodId} {args : Array Value} {below : List Frame} {meth : Method} {c : Code} {V : Int32 × Int32 × Int32 × Int32 × Bool × (Nat → Int32) × (Nat → Int32) × (Nat → Int32) × (Nat → Int32) × (Nat → Int32) × (Nat → Int32) × (Nat → Int32) × (Nat → Int32)} (C0 : lc_C p s m meth c args b_FI_gather 3 none R_FI lw_g) (l : Launch) (D : va_G) (cB cI : ClassId) (aX aS aY aP aFc aFn aFl aFh aFd aFo aW aF aK aN aKs aB aV aPs aPe aPi aPh aPl aPn : Nat) (kbase : Int32) (kcnt : Int32) (ksts : Nat → Int32) (b : Nat → UInt8) (pcnt : Int32) (pfix : Bool) (pown : Int32) (pst : Nat → Int32) (pen : Nat → Int32) (pix : Nat → Int32) {A : Nat → Prop} (hk : hk_ D cB cI s) (hA : ∀ q : Nat, s.heap.size ≤ q → A q) (x1 : Int32) {K : Int32 → Int32 → Int32 → Int32 → Int32 → Bool → (Nat → Int32) → (Nat → Int32) → (Nat → Int32) → (Nat → Int32) → (Nat → Int32) → (Nat → Int32) → (Nat → Int32) → (Nat → Int32) → Int32 × Int32 × Int32 × Int32 × Bool × (Nat → Int32) × (Nat → Int32) × (Nat → Int32) × (Nat → Int32) × (Nat → Int32) × (Nat → Int32) × (Nat → Int32) × (Nat → Int32)} (hKx : ∀ (x2 : Int32) (fict : Int32) (plc : Int32) (psr : Int32) (pbs : Int32) (pms : Bool) (plv : Nat → Int32) (psn : Nat → Int32) (fch : Nat → Int32) (fnx : Nat → Int32) (flv : Nat → Int32) (fhs : Nat → Int32) (fdo : Nat → Int32) (fow : Nat → Int32), f_ok fict → V = K x2 fict plc psr pbs pms plv psn fch fnx flv fhs fdo fow → ∀ (H : Heap) (locs : List Loc), va_P D vwCl [(aX, .inr (9, [.ref aS, .ref aY, .ref aP, .ref aFc, .ref aFn, .ref aFl, .ref aFh, .ref aFd, .int fict, .ref aFo])), (aY, .inr (3, [.ref aS, .ref aW, .ref aF, .ref aK, .ref aN])), (aK, .inr (2, [.int kbase, .ref aKs, .int kcnt])), (aKs, .inl (cI, 201, .inl ksts)), (aS, .inr (0, [.ref aB])), (aB, .inl (cB, 202000, .inl (by_ b))), (aP, .inr (5, [.ref aS, .ref aV, .ref aPs, .ref aPe, .ref aPi, .ref aPh, .int pcnt, .int (b2i pfix), .int pown, .ref aPl, .ref aPn, .int plc, .int psr, .int pbs, .int (b2i pms)])), (aPs, .inl (cI, 8, .inl pst)), (aPe, .inl (cI, 8, .inl pen)), (aPi, .inl (cI, 8, .inl pix)), (aPl, .inl (cI, 1001, .inl plv)), (aPn, .inl (cI, 2000, .inl psn)), (aFc, .inl (cI, 1024, .inl fch)), (aFn, .inl (cI, 13533, .inl fnx)), (aFl, .inl (cI, 13533, .inl flv)), (aFh, .inl (cI, 13533, .inl fhs)), (aFd, .inl (cI, 13533, .inl fdo)), (aFo, .inl (cI, 200, .inl fow))] H → va_D A [(aX, .inr (9, [.ref aS, .ref aY, .ref aP, .ref aFc, .ref aFn, .ref aFl, .ref aFh, .ref aFd, .int fict, .ref aFo])), (aY, .inr (3, [.ref aS, .ref aW, .ref aF, .ref aK, .ref aN])), (aK, .inr (2, [.int kbase, .ref aKs, .int kcnt])), (aKs, .inl (cI, 201, .inl ksts)), (aS, .inr (0, [.ref aB])), (aB, .inl (cB, 202000, .inl (by_ b))), (aP, .inr (5, [.ref aS, .ref aV, .ref aPs, .ref aPe, .ref aPi, .ref aPh, .int pcnt, .int (b2i pfix), .int pown, .ref aPl, .ref aPn, .int plc, .int psr, .int pbs, .int (b2i pms)])), (aPs, .inl (cI, 8, .inl pst)), (aPe, .inl (cI, 8, .inl pen)), (aPi, .inl (cI, 8, .inl pix)), (aPl, .inl (cI, 1001, .inl plv)), (aPn, .inl (cI, 2000, .inl psn)), (aFc, .inl (cI, 1024, .inl fch)), (aFn, .inl (cI, 13533, .inl fnx)), (aFl, .inl (cI, 13533, .inl flv)), (aFh, .inl (cI, 13533, .inl fhs)), (aFd, .inl (cI, 13533, .inl fdo)), (aFo, .inl (cI, 200, .inl fow))] → va_S A s.heap H locs → ∀ ls : Array Slot, lv_has ls 3 [(0, .ref aX), (1, .int x1)] → W p l e ({ frames := 417, cells := 0, slots := 0, locals := 10010 }) s m args below meth c H locs 0 0 (MQ below (va_Qv (fun (u : Int32 × Int32 × Int32 × Int32 × Bool × (Nat → Int32) × (Nat → Int32) × (Nat → Int32) × (Nat → Int32) × (Nat → Int32) × (Nat → Int32) × (Nat → Int32) × (Nat → Int32)) => u = V ∧ f_ok u.1) (mt_B D A (fun u => wd_FI_gather aX aS aY aP aFc aFn aFl aFh aFd aFo aW aF aK aN aKs aB aV aPs aPe aPi aPh aPl aPn cB cI kbase kcnt ksts b pcnt pfix pown pst pen pix u.1 u.2.1 u.2.2.1 u.2.2.2.1 u.2.2.2.2.1 u.2.2.2.2.2.1 u.2.2.2.2.2.2.1 u.2.2.2.2.2.2.2.1 u.2.2.2.2.2.2.2.2.1 u.2.2.2.2.2.2.2.2.2.1 u.2.2.2.2.2.2.2.2.2.2.1 u.2.2.2.2.2.2.2.2.2.2.2.1 u.2.2.2.2.2.2.2.2.2.2.2.2)) A) args s 0 0 A) (F0 m 92 ls [])) : ∀ (n : Nat) (x2 : Int32) (fict : Int32) (plc : Int32) (psr : Int32) (pbs : Int32) (pms : Bool) (plv : Nat → Int32) (psn : Nat → Int32) (fch : Nat → Int32) (fnx : Nat → Int32) (flv : Nat → Int32) (fhs : Nat → Int32) (fdo : Nat → Int32) (fow : Nat → Int32), ((tw_FI_leavesToTake plc).toInt - x2.toInt).toNat < n → f_ok fict → V = tw_FI_gather_h68 kbase kcnt ksts b pcnt pst pen pix K x1 n x2 fict plc psr pbs pms plv psn fch fnx flv fhs fdo fow → ∀ (H : Heap) (locs : List Loc), va_P D vwCl [(aX, .inr (9, [.ref aS, .ref aY, .ref aP, .ref aFc, .ref aFn, .ref aFl, .ref aFh, .ref aFd, .int fict, .ref aFo])), (aY, .inr (3, [.ref aS, .ref aW, .ref aF, .ref aK, .ref aN])), (aK, .inr (2, [.int kbase, .ref aKs, .int kcnt])), (aKs, .inl (cI, 201, .inl ksts)), (aS, .inr (0, [.ref aB])), (aB, .inl (cB, 202000, .inl (by_ b))), (aP, .inr (5, [.ref aS, .ref aV, .ref aPs, .ref aPe, .ref aPi, .ref aPh, .int pcnt, .int (b2i pfix), .int pown, .ref aPl, .ref aPn, .int plc, .int psr, .int pbs, .int (b2i pms)])), (aPs, .inl (cI, 8, .inl pst)), (aPe, .inl (cI, 8, .inl pen)), (aPi, .inl (cI, 8, .inl pix)), (aPl, .inl (cI, 1001, .inl plv)), (aPn, .inl (cI, 2000, .inl psn)), (aFc, .inl (cI, 1024, .inl fch)), (aFn, .inl (cI, 13533, .inl fnx)), (aFl, .inl (cI, 13533, .inl flv)), (aFh, .inl (cI, 13533, .inl fhs)), (aFd, .inl (cI, 13533, .inl fdo)), (aFo, .inl (cI, 200, .inl fow))] H → va_D A [(aX, .inr (9, [.ref aS, .ref aY, .ref aP, .ref aFc, .ref aFn, .ref aFl, .ref aFh, .ref aFd, .int fict, .ref aFo])), (aY, .inr (3, [.ref aS, .ref aW, .ref aF, .ref aK, .ref aN])), (aK, .inr (2, [.int kbase, .ref aKs, .int kcnt])), (aKs, .inl (cI, 201, .inl ksts)), (aS, .inr (0, [.ref aB])), (aB, .inl (cB, 202000, .inl (by_ b))), (aP, .inr (5, [.ref aS, .ref aV, .ref aPs, .ref aPe, .ref aPi, .ref aPh, .int pcnt, .int (b2i pfix), .int pown, .ref aPl, .ref aPn, .int plc, .int psr, .int pbs, .int (b2i pms)])), (aPs, .inl (cI, 8, .inl pst)), (aPe, .inl (cI, 8, .inl pen)), (aPi, .inl (cI, 8, .inl pix)), (aPl, .inl (cI, 1001, .inl plv)), (aPn, .inl (cI, 2000, .inl psn)), (aFc, .inl (cI, 1024, .inl fch)), (aFn, .inl (cI, 13533, .inl fnx)), (aFl, .inl (cI, 13533, .inl flv)), (aFh, .inl (cI, 13533, .inl fhs)), (aFd, .inl (cI, 13533, .inl fdo)), (aFo, .inl (cI, 200, .inl fow))] → va_S A s.heap H locs → ∀ ls : Array Slot, lv_has ls 3 [(0, .ref aX), (1, .int x1), (2, .int x2)] → W p l e ({ frames := 417, cells := 0, slots := 0, locals := 10010 }) s m args below meth c H locs 0 0 (MQ below (va_Qv (fun (u : Int32 × Int32 × Int32 × Int32 × Bool × (Nat → Int32) × (Nat → Int32) × (Nat → Int32) × (Nat → Int32) × (Nat → Int32) × (Nat → Int32) × (Nat → Int32) × (Nat → Int32)) => u = V ∧ f_ok u.1) (mt_B D A (fun u => wd_FI_gather aX aS aY aP aFc aFn aFl aFh aFd aFo aW aF aK aN aKs aB aV aPs aPe aPi aPh aPl aPn cB cI kbase kcnt ksts b pcnt pfix pown pst pen pix u.1 u.2.1 u.2.2.1 u.2.2.2.1 u.2.2.2.2.1 u.2.2.2.2.2.1 u.2.2.2.2.2.2.1 u.2.2.2.2.2.2.2.1 u.2.2.2.2.2.2.2.2.1 u.2.2.2.2.2.2.2.2.2.1 u.2.2.2.2.2.2.2.2.2.2.1 u.2.2.2.2.2.2.2.2.2.2.2.1 u.2.2.2.2.2.2.2.2.2.2.2.2)) A) args s 0 0 A) (F0 m 68 ls []) := by
  obtain ⟨hx, hb, hml, hr, hown, hlocks, hT⟩ := id C0
  have hK := hk.1
  have hN := hk.2.1
  intro n
  induction n with
  | zero =>
    intro x2 fict plc psr pbs pms plv psn fch fnx flv fhs fdo fow hm
    exact absurd hm (Nat.not_lt_zero _)
  | succ n ih =>
    intro x2 fict plc psr pbs pms plv psn fch fnx flv fhs fdo fow hm hi hV H locs hP hD hS ls hl
    refine lv_iload_n hx hb d_FI_gather_68 rfl (lv_at hl 2 rfl) ?_
    refine lv_aload_n hx hb d_FI_gather_69 rfl (lv_at hl 0 rfl) ?_
    refine rd_V (val := tw_FI_leavesToTake plc) (As := []) (rest := [.int x2]) ⟨hx, hb, hml, hown, hT⟩ (c_FI_leavesToTake l D cB cI aX aS aY aP aFc aFn aFl aFh aFd aFo aV aPs aPe aPi aPh aPl aPn fict pcnt pfix pown plc psr pbs pms) (cwV 0 hT (gV_of k_961 k_963 kp_FI_leavesToTake k_11 kc_FI_leavesToTake) rfl rfl rfl hd_FI_leavesToTake ⟨Nat.le_of_ble_eq_true rfl, Nat.le_of_ble_eq_true rfl⟩) hk (hP.sub (ws' := [(aX, .inr (9, [.ref aS, .ref aY, .ref aP, .ref aFc, .ref aFn, .ref aFl, .ref aFh, .ref aFd, .int fict, .ref aFo])), (aP, .inr (5, [.ref aS, .ref aV, .ref aPs, .ref aPe, .ref aPi, .ref aPh, .int pcnt, .int (b2i pfix), .int pown, .ref aPl, .ref aPn, .int plc, .int psr, .int pbs, .int (b2i pms)]))]) [0, 6] rfl) (q0 := 0) rfl rfl rfl rfl hl.1 rfl (Nat.le_of_ble_eq_true rfl) d_FI_gather_70 ⟨Nat.zero_le _, Nat.zero_le _⟩ ?_
    refine lv_icmp_ge (tgt := 92) hx hb d_FI_gather_73 (by decide) (fun c_6 => ?_) (fun c_6 => ?_)
    · exact hKx x2 fict plc psr pbs pms plv psn fch fnx flv fhs fdo fow (hi) (by rw [hV, tw_FI_gather_h68, if_pos c_6]) _ _ hP hD hS ls (lv_sub hl [0, 1] rfl)
    · refine lv_aload_n hx hb d_FI_gather_76 rfl (lv_at hl 0 rfl) ?_
      refine lv_aload_n hx hb d_FI_gather_77 rfl (lv_at hl 0 rfl) ?_
      refine lv_iload_n hx hb d_FI_gather_78 rfl (lv_at hl 2 rfl) ?_
      refine rd_V (val := tw_FI_leafToTake plc plv x2) (As := [.int x2]) (rest := [.ref aX]) ⟨hx, hb, hml, hown, hT⟩ (c_FI_leafToTake l D cB cI aX aS aY aP aFc aFn aFl aFh aFd aFo aV aPs aPe aPi aPh aPl aPn fict pcnt pfix pown plc psr pbs pms plv x2) (cwV 1 hT (gV_of k_966 k_968 kp_FI_leafToTake k_11 kc_FI_leafToTake) rfl rfl rfl hd_FI_leafToTake ⟨Nat.le_of_ble_eq_true rfl, Nat.le_of_ble_eq_true rfl⟩) hk (hP.sub (ws' := [(aX, .inr (9, [.ref aS, .ref aY, .ref aP, .ref aFc, .ref aFn, .ref aFl, .ref aFh, .ref aFd, .int fict, .ref aFo])), (aP, .inr (5, [.ref aS, .ref aV, .ref aPs, .ref aPe, .ref aPi, .ref aPh, .int pcnt, .int (b2i pfix), .int pown, .ref aPl, .ref aPn, .int plc, .int psr, .int pbs, .int (b2i pms)])), (aPl, .inl (cI, 1001, .inl plv))]) [0, 6, 10] rfl) (q0 := 0) rfl rfl rfl rfl hl.1 rfl (Nat.le_of_ble_eq_true rfl) d_FI_gather_79 ⟨Nat.zero_le _, Nat.zero_le _⟩ ?_
      refine lv_iload_n hx hb d_FI_gather_82 rfl (lv_at hl 1 rfl) ?_
      refine mt_Vv (As := [.int (tw_FI_leafToTake plc plv x2), .int x1]) (rest := []) (wr := [(aY, .inr (3, [.ref aS, .ref aW, .ref aF, .ref aK, .ref aN])), (aK, .inr (2, [.int kbase, .ref aKs, .int kcnt])), (aKs, .inl (cI, 201, .inl ksts)), (aP, .inr (5, [.ref aS, .ref aV, .ref aPs, .ref aPe, .ref aPi, .ref aPh, .int pcnt, .int (b2i pfix), .int pown, .ref aPl, .ref aPn, .int plc, .int psr, .int pbs, .int (b2i pms)])), (aPs, .inl (cI, 8, .inl pst)), (aPe, .inl (cI, 8, .inl pen)), (aPi, .inl (cI, 8, .inl pix)), (aPl, .inl (cI, 1001, .inl plv)), (aPn, .inl (cI, 2000, .inl psn)), (aFo, .inl (cI, 200, .inl fow))]) ⟨hx, hb, hml, hown, hT⟩ (c_FI_remember l D cB cI aX aS aY aP aFc aFn aFl aFh aFd aFo aB b _ fict fch fnx flv fhs fdo (tw_FI_leafToTake plc plv x2) x1 hi) (cwV 2 hT (gV_of k_971 k_973 kp_FI_remember k_11 kc_FI_remember) rfl rfl rfl hd_FI_remember ⟨Nat.le_of_ble_eq_true rfl, Nat.le_of_ble_eq_true rfl⟩) hk hP hD hS hA [0, 4, 5, 12, 13, 14, 15, 16] [1, 2, 3, 6, 7, 8, 9, 10, 11, 17] rfl rfl rfl (by decide) (by decide) (by decide) (q0 := 0) rfl rfl rfl rfl hl.1 rfl (Nat.le_of_ble_eq_true rfl) d_FI_gather_83 ⟨Nat.zero_le _, Nat.zero_le _⟩ (fun u_7 H locs hw_7 hP hD hS => ?_)
      obtain ⟨fict_7, fch_7, fnx_7, flv_7, fhs_7, fdo_7⟩ := u_7
      obtain ⟨hw_7, hi_7⟩ := hw_7
      have hP : va_P D vwCl [(aX, .inr (9, [.ref aS, .ref aY, .ref aP, .ref aFc, .ref aFn, .ref aFl, .ref aFh, .ref aFd, .int fict_7, .ref aFo])), (aY, .inr (3, [.ref aS, .ref aW, .ref aF, .ref aK, .ref aN])), (aK, .inr (2, [.int kbase, .ref aKs, .int kcnt])), (aKs, .inl (cI, 201, .inl ksts)), (aS, .inr (0, [.ref aB])), (aB, .inl (cB, 202000, .inl (by_ b))), (aP, .inr (5, [.ref aS, .ref aV, .ref aPs, .ref aPe, .ref aPi, .ref aPh, .int pcnt, .int (b2i pfix), .int pown, .ref aPl, .ref aPn, .int plc, .int psr, .int pbs, .int (b2i pms)])), (aPs, .inl (cI, 8, .inl pst)), (aPe, .inl (cI, 8, .inl pen)), (aPi, .inl (cI, 8, .inl pix)), (aPl, .inl (cI, 1001, .inl plv)), (aPn, .inl (cI, 2000, .inl psn)), (aFc, .inl (cI, 1024, .inl fch_7)), (aFn, .inl (cI, 13533, .inl fnx_7)), (aFl, .inl (cI, 13533, .inl flv_7)), (aFh, .inl (cI, 13533, .inl fhs_7)), (aFd, .inl (cI, 13533, .inl fdo_7)), (aFo, .inl (cI, 200, .inl fow))] H := hP.sub [10, 0, 1, 2, 11, 12, 3, 4, 5, 6, 7, 8, 13, 14, 15, 16, 17, 9] rfl
      have hD : va_D A [(aX, .inr (9, [.ref aS, .ref aY, .ref aP, .ref aFc, .ref aFn, .ref aFl, .ref aFh, .ref aFd, .int fict_7, .ref aFo])), (aY, .inr (3, [.ref aS, .ref aW, .ref aF, .ref aK, .ref aN])), (aK, .inr (2, [.int kbase, .ref aKs, .int kcnt])), (aKs, .inl (cI, 201, .inl ksts)), (aS, .inr (0, [.ref aB])), (aB, .inl (cB, 202000, .inl (by_ b))), (aP, .inr (5, [.ref aS, .ref aV, .ref aPs, .ref aPe, .ref aPi, .ref aPh, .int pcnt, .int (b2i pfix), .int pown, .ref aPl, .ref aPn, .int plc, .int psr, .int pbs, .int (b2i pms)])), (aPs, .inl (cI, 8, .inl pst)), (aPe, .inl (cI, 8, .inl pen)), (aPi, .inl (cI, 8, .inl pix)), (aPl, .inl (cI, 1001, .inl plv)), (aPn, .inl (cI, 2000, .inl psn)), (aFc, .inl (cI, 1024, .inl fch_7)), (aFn, .inl (cI, 13533, .inl fnx_7)), (aFl, .inl (cI, 13533, .inl flv_7)), (aFh, .inl (cI, 13533, .inl fhs_7)), (aFd, .inl (cI, 13533, .inl fdo_7)), (aFo, .inl (cI, 200, .inl fow))] := hD.sub [10, 0, 1, 2, 11, 12, 3, 4, 5, 6, 7, 8, 13, 14, 15, 16, 17, 9] (by decide) rfl
      refine lv_iinc (v := x2 + 1) (lv' := [(2, .int (x2 + 1)), (0, .ref aX), (1, .int x1)]) hx hb d_FI_gather_86 hl (k := 2) rfl rfl (by decide) rfl (fun ls hl => ?_)
      refine lv_goto (tgt := 68) hx hb d_FI_gather_89 (by decide) ?_
      exact ih (x2 + 1) fict_7 plc psr pbs pms plv psn fch_7 fnx_7 flv_7 fhs_7 fdo_7 fow (lp_up hm c_6) (hi_7) (by rw [hV, tw_FI_gather_h68, if_neg c_6, ← hw_7, tp6_mk]) _ _ hP hD hS ls (lv_sub hl [1, 2, 0] rfl)
set_option maxHeartbeats 4000000 in
set_option maxRecDepth 100000 in
theorem l_FI_gather_h23 {p : Program} {e : Env} {s : State} {m : MethodId} {args : Array Value} {below : List Frame} {meth : Method} {c : Code} {V : Int32 × Int32 × Int32 × Int32 × Bool × (Nat → Int32) × (Nat → Int32) × (Nat → Int32) × (Nat → Int32) × (Nat → Int32) × (Nat → Int32) × (Nat → Int32) × (Nat → Int32)} (C0 : lc_C p s m meth c args b_FI_gather 3 none R_FI lw_g) (l : Launch) (D : va_G) (cB cI : ClassId) (aX aS aY aP aFc aFn aFl aFh aFd aFo aW aF aK aN aKs aB aV aPs aPe aPi aPh aPl aPn : Nat) (kbase : Int32) (kcnt : Int32) (ksts : Nat → Int32) (b : Nat → UInt8) (pcnt : Int32) (pfix : Bool) (pown : Int32) (pst : Nat → Int32) (pen : Nat → Int32) (pix : Nat → Int32) {A : Nat → Prop} (hk : hk_ D cB cI s) (hA : ∀ q : Nat, s.heap.size ≤ q → A q)  : ∀ (n : Nat) (x1 : Int32) (fict : Int32) (plc : Int32) (psr : Int32) (pbs : Int32) (pms : Bool) (plv : Nat → Int32) (psn : Nat → Int32) (fch : Nat → Int32) (fnx : Nat → Int32) (flv : Nat → Int32) (fhs : Nat → Int32) (fdo : Nat → Int32) (fow : Nat → Int32), ((200 : Int32).toInt - x1.toInt).toNat < n → f_ok fict → V = tw_FI_gather_h23 kbase kcnt ksts b pcnt pst pen pix n x1 fict plc psr pbs pms plv psn fch fnx flv fhs fdo fow → ∀ (H : Heap) (locs : List Loc), va_P D vwCl [(aX, .inr (9, [.ref aS, .ref aY, .ref aP, .ref aFc, .ref aFn, .ref aFl, .ref aFh, .ref aFd, .int fict, .ref aFo])), (aY, .inr (3, [.ref aS, .ref aW, .ref aF, .ref aK, .ref aN])), (aK, .inr (2, [.int kbase, .ref aKs, .int kcnt])), (aKs, .inl (cI, 201, .inl ksts)), (aS, .inr (0, [.ref aB])), (aB, .inl (cB, 202000, .inl (by_ b))), (aP, .inr (5, [.ref aS, .ref aV, .ref aPs, .ref aPe, .ref aPi, .ref aPh, .int pcnt, .int (b2i pfix), .int pown, .ref aPl, .ref aPn, .int plc, .int psr, .int pbs, .int (b2i pms)])), (aPs, .inl (cI, 8, .inl pst)), (aPe, .inl (cI, 8, .inl pen)), (aPi, .inl (cI, 8, .inl pix)), (aPl, .inl (cI, 1001, .inl plv)), (aPn, .inl (cI, 2000, .inl psn)), (aFc, .inl (cI, 1024, .inl fch)), (aFn, .inl (cI, 13533, .inl fnx)), (aFl, .inl (cI, 13533, .inl flv)), (aFh, .inl (cI, 13533, .inl fhs)), (aFd, .inl (cI, 13533, .inl fdo)), (aFo, .inl (cI, 200, .inl fow))] H → va_D A [(aX, .inr (9, [.ref aS, .ref aY, .ref aP, .ref aFc, .ref aFn, .ref aFl, .ref aFh, .ref aFd, .int fict, .ref aFo])), (aY, .inr (3, [.ref aS, .ref aW, .ref aF, .ref aK, .ref aN])), (aK, .inr (2, [.int kbase, .ref aKs, .int kcnt])), (aKs, .inl (cI, 201, .inl ksts)), (aS, .inr (0, [.ref aB])), (aB, .inl (cB, 202000, .inl (by_ b))), (aP, .inr (5, [.ref aS, .ref aV, .ref aPs, .ref aPe, .ref aPi, .ref aPh, .int pcnt, .int (b2i pfix), .int pown, .ref aPl, .ref aPn, .int plc, .int psr, .int pbs, .int (b2i pms)])), (aPs, .inl (cI, 8, .inl pst)), (aPe, .inl (cI, 8, .inl pen)), (aPi, .inl (cI, 8, .inl pix)), (aPl, .inl (cI, 1001, .inl plv)), (aPn, .inl (cI, 2000, .inl psn)), (aFc, .inl (cI, 1024, .inl fch)), (aFn, .inl (cI, 13533, .inl fnx)), (aFl, .inl (cI, 13533, .inl flv)), (aFh, .inl (cI, 13533, .inl fhs)), (aFd, .inl (cI, 13533, .inl fdo)), (aFo, .inl (cI, 200, .inl fow))] → va_S A s.heap H locs → ∀ ls : Array Slot, lv_has ls 3 [(0, .ref aX), (1, .int x1)] → W p l e ({ frames := 417, cells := 0, slots := 0, locals := 10010 }) s m args below meth c H locs 0 0 (MQ below (va_Qv (fun (u : Int32 × Int32 × Int32 × Int32 × Bool × (Nat → Int32) × (Nat → Int32) × (Nat → Int32) × (Nat → Int32) × (Nat → Int32) × (Nat → Int32) × (Nat → Int32) × (Nat → Int32)) => u = V ∧ f_ok u.1) (mt_B D A (fun u => wd_FI_gather aX aS aY aP aFc aFn aFl aFh aFd aFo aW aF aK aN aKs aB aV aPs aPe aPi aPh aPl aPn cB cI kbase kcnt ksts b pcnt pfix pown pst pen pix u.1 u.2.1 u.2.2.1 u.2.2.2.1 u.2.2.2.2.1 u.2.2.2.2.2.1 u.2.2.2.2.2.2.1 u.2.2.2.2.2.2.2.1 u.2.2.2.2.2.2.2.2.1 u.2.2.2.2.2.2.2.2.2.1 u.2.2.2.2.2.2.2.2.2.2.1 u.2.2.2.2.2.2.2.2.2.2.2.1 u.2.2.2.2.2.2.2.2.2.2.2.2)) A) args s 0 0 A) (F0 m 23 ls []) := by
  obtain ⟨hx, hb, hml, hr, hown, hlocks, hT⟩ := id C0
  have hK := hk.1
  have hN := hk.2.1
  intro n
  induction n with
  | zero =>
    intro x1 fict plc psr pbs pms plv psn fch fnx flv fhs fdo fow hm
    exact absurd hm (Nat.not_lt_zero _)
  | succ n ih =>
    intro x1 fict plc psr pbs pms plv psn fch fnx flv fhs fdo fow hm hi hV H locs hP hD hS ls hl
    refine lv_iload_n hx hb d_FI_gather_23 rfl (lv_at hl 1 rfl) ?_
    refine lv_aload_n hx hb d_FI_gather_24 rfl (lv_at hl 0 rfl) ?_
    refine va_get (D := D) (ci := 9) (v := .ref aY) (C := R_FI) (T := T_FI) (N := 10) hx hb hT u_FI hown hK hP 0 rfl rfl 1 (by decide) (hT _ k_286) (fun _ h9 => h9) rfl d_FI_gather_25 ?_
    refine va_getN (D := D) (ci := 3) (v := .ref aK) (C := R_BS) (T := T_BS) (N := 5) hx hb hT u_BS hown hK hP 1 rfl rfl 3 (by decide) (va_Nw.use rfl (hN ("PipelineBelt$Finder", 99, "PipelineBelt$Belts", "back", "LPipelineBelt$Belt;", "PipelineBelt") (by decide))) (fun _ h9 => h9) rfl d_FI_gather_28 ?_
    refine va_getN (D := D) (ci := 2) (v := .int kcnt) (C := R_BE) (T := T_BE) (N := 3) hx hb hT u_BE hown hK hP 2 rfl rfl 2 (by decide) (va_Nw.use rfl (hN ("PipelineBelt$Finder", 105, "PipelineBelt$Belt", "count", "I", "PipelineBelt") (by decide))) (fun _ h9 => h9) rfl d_FI_gather_31 ?_
    refine lv_icmp_ge (tgt := 98) hx hb d_FI_gather_34 (by decide) (fun c_3 => ?_) (fun c_3 => ?_)
    · exact W.vret hx hb hr (fun t ht hW => ⟨⟨(fict, plc, psr, pbs, pms, plv, psn, fch, fnx, flv, fhs, fdo, fow), rfl, ⟨(by rw [hV, tw_FI_gather_h23, if_pos c_3]; first | done | rfl), hi⟩, by rw [ht]; exact hP, hD⟩, hS.F ht⟩) hS.2.2 d_FI_gather_98
    · refine lv_iload_n hx hb d_FI_gather_37 rfl (lv_at hl 1 rfl) ?_
      refine lv_sipush (v := 200) hx hb d_FI_gather_38 (by decide) ?_
      refine lv_icmp_ge (tgt := 98) hx hb d_FI_gather_41 (by decide) (fun c_4 => ?_) (fun c_4 => ?_)
      · exact W.vret hx hb hr (fun t ht hW => ⟨⟨(fict, plc, psr, pbs, pms, plv, psn, fch, fnx, flv, fhs, fdo, fow), rfl, ⟨(by rw [hV, tw_FI_gather_h23, if_neg c_3, if_pos c_4]; first | done | rfl), hi⟩, by rw [ht]; exact hP, hD⟩, hS.F ht⟩) hS.2.2 d_FI_gather_98
      · refine lv_aload_n hx hb d_FI_gather_44 rfl (lv_at hl 0 rfl) ?_
        refine va_get (D := D) (ci := 9) (v := .ref aP) (C := R_FI) (T := T_FI) (N := 10) hx hb hT u_FI hown hK hP 0 rfl rfl 2 (by decide) (hT _ k_287) (fun _ h9 => h9) rfl d_FI_gather_45 ?_
        refine lv_iconst (v := 3) hx hb d_FI_gather_48 (by decide) ?_
        refine lv_aload_n hx hb d_FI_gather_49 rfl (lv_at hl 0 rfl) ?_
        refine va_get (D := D) (ci := 9) (v := .ref aY) (C := R_FI) (T := T_FI) (N := 10) hx hb hT u_FI hown hK hP 0 rfl rfl 1 (by decide) (hT _ k_286) (fun _ h9 => h9) rfl d_FI_gather_50 ?_
        refine va_getN (D := D) (ci := 3) (v := .ref aK) (C := R_BS) (T := T_BS) (N := 5) hx hb hT u_BS hown hK hP 1 rfl rfl 3 (by decide) (va_Nw.use rfl (hN ("PipelineBelt$Finder", 99, "PipelineBelt$Belts", "back", "LPipelineBelt$Belt;", "PipelineBelt") (by decide))) (fun _ h9 => h9) rfl d_FI_gather_53 ?_
        refine lv_iload_n hx hb d_FI_gather_56 rfl (lv_at hl 1 rfl) ?_
        refine rd_V (val := tw_BE_start kbase kcnt ksts x1) (As := [.int x1]) (rest := [.int 3, .ref aP]) ⟨hx, hb, hml, hown, hT⟩ (c_BE_start l D cB cI aK aKs kbase kcnt ksts x1) (cwV 1 hT (gV_of k_958 k_440 k_441 k_6 kc_BE_start) rfl rfl rfl hd_BE_start ⟨Nat.le_of_ble_eq_true rfl, Nat.le_of_ble_eq_true rfl⟩) hk (hP.sub (ws' := [(aK, .inr (2, [.int kbase, .ref aKs, .int kcnt])), (aKs, .inl (cI, 201, .inl ksts))]) [2, 3] rfl) (q0 := 0) rfl rfl rfl rfl hl.1 rfl (Nat.le_of_ble_eq_true rfl) d_FI_gather_57 ⟨Nat.zero_le _, Nat.zero_le _⟩ ?_
        refine rd_S (val := tw_ST_ref 3 (tw_BE_start kbase kcnt ksts x1)) (As := [.int 3, .int (tw_BE_start kbase kcnt ksts x1)]) (rest := [.ref aP]) ⟨hx, hb, hml, hown, hT⟩ (c_ST_ref l D cB cI 3 (tw_BE_start kbase kcnt ksts x1)) (va_cwS 2 hT (gS_of k_959 k_477 k_2 kc_ST_ref) rfl rfl rfl hd_ST_ref ⟨Nat.le_of_ble_eq_true rfl, Nat.le_of_ble_eq_true rfl⟩) hk (va_P_nil) rfl hl.1 rfl (Nat.le_of_ble_eq_true rfl) d_FI_gather_60 ⟨Nat.zero_le _, Nat.zero_le _⟩ ?_
        refine mt_Vv (As := [.int (tw_ST_ref 3 (tw_BE_start kbase kcnt ksts x1))]) (rest := []) (wr := [(aX, .inr (9, [.ref aS, .ref aY, .ref aP, .ref aFc, .ref aFn, .ref aFl, .ref aFh, .ref aFd, .int fict, .ref aFo])), (aY, .inr (3, [.ref aS, .ref aW, .ref aF, .ref aK, .ref aN])), (aK, .inr (2, [.int kbase, .ref aKs, .int kcnt])), (aKs, .inl (cI, 201, .inl ksts)), (aFc, .inl (cI, 1024, .inl fch)), (aFn, .inl (cI, 13533, .inl fnx)), (aFl, .inl (cI, 13533, .inl flv)), (aFh, .inl (cI, 13533, .inl fhs)), (aFd, .inl (cI, 13533, .inl fdo)), (aFo, .inl (cI, 200, .inl fow))]) ⟨hx, hb, hml, hown, hT⟩ (c_PA_findLeaves l D cB cI aP aS aV aPs aPe aPi aPh aPl aPn aB pcnt pfix pown b pst pen pix _ plc psr pbs pms plv psn (tw_ST_ref 3 (tw_BE_start kbase kcnt ksts x1))) (cwV 1 hT (gV_of k_960 k_872 k_873 k_7 kc_PA_findLeaves) rfl rfl rfl hd_PA_findLeaves ⟨Nat.le_of_ble_eq_true rfl, Nat.le_of_ble_eq_true rfl⟩) hk hP hD hS hA [6, 4, 5, 7, 8, 9, 10, 11] [0, 1, 2, 3, 12, 13, 14, 15, 16, 17] rfl rfl rfl (by decide) (by decide) (by decide) (q0 := 0) rfl rfl rfl rfl hl.1 rfl (Nat.le_of_ble_eq_true rfl) d_FI_gather_63 ⟨Nat.zero_le _, Nat.zero_le _⟩ (fun u_5 H locs hw_5 hP hD hS => ?_)
        obtain ⟨plc_5, psr_5, pbs_5, pms_5, plv_5, psn_5⟩ := u_5
        obtain ⟨hw_5, hi_5⟩ := hw_5
        have hP : va_P D vwCl [(aX, .inr (9, [.ref aS, .ref aY, .ref aP, .ref aFc, .ref aFn, .ref aFl, .ref aFh, .ref aFd, .int fict, .ref aFo])), (aY, .inr (3, [.ref aS, .ref aW, .ref aF, .ref aK, .ref aN])), (aK, .inr (2, [.int kbase, .ref aKs, .int kcnt])), (aKs, .inl (cI, 201, .inl ksts)), (aS, .inr (0, [.ref aB])), (aB, .inl (cB, 202000, .inl (by_ b))), (aP, .inr (5, [.ref aS, .ref aV, .ref aPs, .ref aPe, .ref aPi, .ref aPh, .int pcnt, .int (b2i pfix), .int pown, .ref aPl, .ref aPn, .int plc_5, .int psr_5, .int pbs_5, .int (b2i pms_5)])), (aPs, .inl (cI, 8, .inl pst)), (aPe, .inl (cI, 8, .inl pen)), (aPi, .inl (cI, 8, .inl pix)), (aPl, .inl (cI, 1001, .inl plv_5)), (aPn, .inl (cI, 2000, .inl psn_5)), (aFc, .inl (cI, 1024, .inl fch)), (aFn, .inl (cI, 13533, .inl fnx)), (aFl, .inl (cI, 13533, .inl flv)), (aFh, .inl (cI, 13533, .inl fhs)), (aFd, .inl (cI, 13533, .inl fdo)), (aFo, .inl (cI, 200, .inl fow))] H := hP.sub [0, 1, 2, 3, 11, 12, 10, 13, 14, 15, 16, 17, 4, 5, 6, 7, 8, 9] rfl
        have hD : va_D A [(aX, .inr (9, [.ref aS, .ref aY, .ref aP, .ref aFc, .ref aFn, .ref aFl, .ref aFh, .ref aFd, .int fict, .ref aFo])), (aY, .inr (3, [.ref aS, .ref aW, .ref aF, .ref aK, .ref aN])), (aK, .inr (2, [.int kbase, .ref aKs, .int kcnt])), (aKs, .inl (cI, 201, .inl ksts)), (aS, .inr (0, [.ref aB])), (aB, .inl (cB, 202000, .inl (by_ b))), (aP, .inr (5, [.ref aS, .ref aV, .ref aPs, .ref aPe, .ref aPi, .ref aPh, .int pcnt, .int (b2i pfix), .int pown, .ref aPl, .ref aPn, .int plc_5, .int psr_5, .int pbs_5, .int (b2i pms_5)])), (aPs, .inl (cI, 8, .inl pst)), (aPe, .inl (cI, 8, .inl pen)), (aPi, .inl (cI, 8, .inl pix)), (aPl, .inl (cI, 1001, .inl plv_5)), (aPn, .inl (cI, 2000, .inl psn_5)), (aFc, .inl (cI, 1024, .inl fch)), (aFn, .inl (cI, 13533, .inl fnx)), (aFl, .inl (cI, 13533, .inl flv)), (aFh, .inl (cI, 13533, .inl fhs)), (aFd, .inl (cI, 13533, .inl fdo)), (aFo, .inl (cI, 200, .inl fow))] := hD.sub [0, 1, 2, 3, 11, 12, 10, 13, 14, 15, 16, 17, 4, 5, 6, 7, 8, 9] (by decide) rfl
        refine lv_iconst (v := 0) hx hb d_FI_gather_66 (by decide) ?_
        refine lv_istore_n (lv' := [(2, .int 0), (0, .ref aX), (1, .int x1)]) hx hb d_FI_gather_67 rfl hl (by decide) rfl (fun ls hl => ?_)
        refine l_FI_gather_h68 C0 l D cB cI aX aS aY aP aFc aFn aFl aFh aFd aFo aW aF aK aN aKs aB aV aPs aPe aPi aPh aPl aPn kbase kcnt ksts b pcnt pfix pown pst pen pix hk hA x1  (K := (fun (x2_8 : Int32) (fict_8 : Int32) (plc_8 : Int32) (psr_8 : Int32) (pbs_8 : Int32) (pms_8 : Bool) (plv_8 : Nat → Int32) (psn_8 : Nat → Int32) (fch_8 : Nat → Int32) (fnx_8 : Nat → Int32) (flv_8 : Nat → Int32) (fhs_8 : Nat → Int32) (fdo_8 : Nat → Int32) (fow_8 : Nat → Int32) =>
            tw_FI_gather_h23 kbase kcnt ksts b pcnt pst pen pix n (x1 + 1) fict_8 plc_8 psr_8 pbs_8 pms_8 plv_8 psn_8 fch_8 fnx_8 flv_8 fhs_8 fdo_8 fow_8)) ?_ ((((tw_FI_leavesToTake plc_5).toInt - (0 : Int32).toInt).toNat) + 1) 0 fict plc_5 psr_5 pbs_5 pms_5 plv_5 psn_5 fch fnx flv fhs fdo fow (Nat.lt_succ_self _) (hi) (by rw [hV, tw_FI_gather_h23, if_neg c_3, if_neg c_4, ← hw_5, tp6_mk]) _ _ hP hD hS ls (lv_sub hl [1, 2, 0] rfl)
        intro x2_8 fict_8 plc_8 psr_8 pbs_8 pms_8 plv_8 psn_8 fch_8 fnx_8 flv_8 fhs_8 fdo_8 fow_8 hfk_8 hV_8 H locs hP hD hS ls hl
        refine lv_iinc (v := x1 + 1) (lv' := [(1, .int (x1 + 1)), (0, .ref aX)]) hx hb d_FI_gather_92 hl (k := 1) rfl rfl (by decide) rfl (fun ls hl => ?_)
        refine lv_goto (tgt := 23) hx hb d_FI_gather_95 (by decide) ?_
        exact ih (x1 + 1) fict_8 plc_8 psr_8 pbs_8 pms_8 plv_8 psn_8 fch_8 fnx_8 flv_8 fhs_8 fdo_8 fow_8 (lp_up hm c_4) (hfk_8) (by rw [hV_8]) _ _ hP hD hS ls (lv_sub hl [1, 0] rfl)
set_option maxHeartbeats 4000000 in
set_option maxRecDepth 100000 in
theorem c_FI_gather (l : Launch) (D : va_G) (cB cI : ClassId) (aX aS aY aP aFc aFn aFl aFh aFd aFo aW aF aK aN aKs aB aV aPs aPe aPi aPh aPl aPn : Nat) (kbase : Int32) (kcnt : Int32) (ksts : Nat → Int32) (b : Nat → UInt8) (pcnt : Int32) (pfix : Bool) (pown : Int32) (pst : Nat → Int32) (pen : Nat → Int32) (pix : Nat → Int32) (sz : Nat) (fict : Int32) (plc : Int32) (psr : Int32) (pbs : Int32) (pms : Bool) (plv : Nat → Int32) (psn : Nat → Int32) (fch : Nat → Int32) (fnx : Nat → Int32) (flv : Nat → Int32) (fhs : Nat → Int32) (fdo : Nat → Int32) (fow : Nat → Int32) : Met l y_FI_gather mw_FI_gather { frames := 417, cells := 0, slots := 0, locals := 10010 } (va_Pc [.ref aX] (mt_P D cB cI (wd_FI_gather aX aS aY aP aFc aFn aFl aFh aFd aFo aW aF aK aN aKs aB aV aPs aPe aPi aPh aPl aPn cB cI kbase kcnt ksts b pcnt pfix pown pst pen pix fict plc psr pbs pms plv psn fch fnx flv fhs fdo fow) sz)) (va_Qv (fun (u : Int32 × Int32 × Int32 × Int32 × Bool × (Nat → Int32) × (Nat → Int32) × (Nat → Int32) × (Nat → Int32) × (Nat → Int32) × (Nat → Int32) × (Nat → Int32) × (Nat → Int32)) => u = tw_FI_gather kbase kcnt ksts b pcnt pst pen pix fict plc psr pbs pms plv psn fch fnx flv fhs fdo fow ∧ f_ok u.1) (mt_B D (va_A (wd_FI_gather aX aS aY aP aFc aFn aFl aFh aFd aFo aW aF aK aN aKs aB aV aPs aPe aPi aPh aPl aPn cB cI kbase kcnt ksts b pcnt pfix pown pst pen pix fict plc psr pbs pms plv psn fch fnx flv fhs fdo fow) sz) (fun u => wd_FI_gather aX aS aY aP aFc aFn aFl aFh aFd aFo aW aF aK aN aKs aB aV aPs aPe aPi aPh aPl aPn cB cI kbase kcnt ksts b pcnt pfix pown pst pen pix u.1 u.2.1 u.2.2.1 u.2.2.2.1 u.2.2.2.2.1 u.2.2.2.2.2.1 u.2.2.2.2.2.2.1 u.2.2.2.2.2.2.2.1 u.2.2.2.2.2.2.2.2.1 u.2.2.2.2.2.2.2.2.2.1 u.2.2.2.2.2.2.2.2.2.2.1 u.2.2.2.2.2.2.2.2.2.2.2.1 u.2.2.2.2.2.2.2.2.2.2.2.2)) (va_A (wd_FI_gather aX aS aY aP aFc aFn aFl aFh aFd aFo aW aF aK aN aKs aB aV aPs aPe aPi aPh aPl aPn cB cI kbase kcnt ksts b pcnt pfix pown pst pen pix fict plc psr pbs pms plv psn fch fnx flv fhs fdo fow) sz)) 0 0 (va_A (wd_FI_gather aX aS aY aP aFc aFn aFl aFh aFd aFo aW aF aK aN aKs aB aV aPs aPe aPi aPh aPl aPn cB cI kbase kcnt ksts b pcnt pfix pown pst pen pix fict plc psr pbs pms plv psn fch fnx flv fhs fdo fow) sz) := by
  refine Met.ofW (cc := b_FI_gather) (maxL := 3) (ret := none) (by decide) rfl ?_
  intro p e s m args below meth c s₁ B0 hml hv
  obtain ⟨rfl, hsz, hP, hk, hD0⟩ := hv
  have hK := hk.1
  have hN := hk.2.1
  have hx := B0.exec
  have hb := B0.bytes
  have hr := B0.returns
  have hT : ∀ w ∈ lw_g, w.before _ s = true := fun w h => atoms_spec (ws := mw_FI_gather) B0.pre w (List.mem_cons_of_mem _ h)
  have hown : s.vm.findClass R_FI = some m.cls := findClass_of_methodNamed B0.named
  have hlocks := B0.notSynchronized
  subst hsz
  have hD := hD0.self (sz := s.heap.size)
  generalize hAe : va_A [(aX, .inr (9, [.ref aS, .ref aY, .ref aP, .ref aFc, .ref aFn, .ref aFl, .ref aFh, .ref aFd, .int fict, .ref aFo])), (aY, .inr (3, [.ref aS, .ref aW, .ref aF, .ref aK, .ref aN])), (aK, .inr (2, [.int kbase, .ref aKs, .int kcnt])), (aKs, .inl (cI, 201, .inl ksts)), (aS, .inr (0, [.ref aB])), (aB, .inl (cB, 202000, .inl (by_ b))), (aP, .inr (5, [.ref aS, .ref aV, .ref aPs, .ref aPe, .ref aPi, .ref aPh, .int pcnt, .int (b2i pfix), .int pown, .ref aPl, .ref aPn, .int plc, .int psr, .int pbs, .int (b2i pms)])), (aPs, .inl (cI, 8, .inl pst)), (aPe, .inl (cI, 8, .inl pen)), (aPi, .inl (cI, 8, .inl pix)), (aPl, .inl (cI, 1001, .inl plv)), (aPn, .inl (cI, 2000, .inl psn)), (aFc, .inl (cI, 1024, .inl fch)), (aFn, .inl (cI, 13533, .inl fnx)), (aFl, .inl (cI, 13533, .inl flv)), (aFh, .inl (cI, 13533, .inl fhs)), (aFd, .inl (cI, 13533, .inl fdo)), (aFo, .inl (cI, 200, .inl fow))] s.heap.size = A at hD ⊢
  have hA : ∀ q : Nat, s.heap.size ≤ q → A q := fun q h => by rw [← hAe]; exact Or.inr h
  have hS : va_S A s.heap s.heap [] := va_S.rf
  have hl := lv_entry ([.ref aX]) (n := 3) (Nat.le_of_ble_eq_true rfl)
  rw [lg_entry_eq]
  generalize (lg_sl ([.ref aX]) ++ List.replicate (3 - (lg_sl ([.ref aX])).length) Slot.unset).toArray = ls at hl ⊢
  have hl : lv_has ls 3 [(0, .ref aX)] := hl
  have C0 : lc_C p s m meth c _ b_FI_gather 3 none R_FI lw_g := ⟨hx, hb, hml, hr, hown, hlocks, hT⟩
  refine lv_aload_n hx hb d_FI_gather_0 rfl (lv_at hl 0 rfl) ?_
  refine lv_iconst (v := 0) hx hb d_FI_gather_1 (by decide) ?_
  refine va_put (D := D) (ci := 9) (v := .int 0) (ty := .int) (C := R_FI) (T := T_FI) (N := 10) hx hb hT u_FI ty_FI tyok_FI nm_FI hown hK hP hD hS 0 rfl rfl 8 (by decide) (hT _ k_293) (fun _ h9 => h9) rfl (by decide +kernel) (rfl) (rfl) (Nat.le_of_ble_eq_true rfl) d_FI_gather_2 (fun H locs hP hD hS => ?_)
  have hP : va_P D vwCl [(aX, .inr (9, [.ref aS, .ref aY, .ref aP, .ref aFc, .ref aFn, .ref aFl, .ref aFh, .ref aFd, .int 0, .ref aFo])), (aY, .inr (3, [.ref aS, .ref aW, .ref aF, .ref aK, .ref aN])), (aK, .inr (2, [.int kbase, .ref aKs, .int kcnt])), (aKs, .inl (cI, 201, .inl ksts)), (aS, .inr (0, [.ref aB])), (aB, .inl (cB, 202000, .inl (by_ b))), (aP, .inr (5, [.ref aS, .ref aV, .ref aPs, .ref aPe, .ref aPi, .ref aPh, .int pcnt, .int (b2i pfix), .int pown, .ref aPl, .ref aPn, .int plc, .int psr, .int pbs, .int (b2i pms)])), (aPs, .inl (cI, 8, .inl pst)), (aPe, .inl (cI, 8, .inl pen)), (aPi, .inl (cI, 8, .inl pix)), (aPl, .inl (cI, 1001, .inl plv)), (aPn, .inl (cI, 2000, .inl psn)), (aFc, .inl (cI, 1024, .inl fch)), (aFn, .inl (cI, 13533, .inl fnx)), (aFl, .inl (cI, 13533, .inl flv)), (aFh, .inl (cI, 13533, .inl fhs)), (aFd, .inl (cI, 13533, .inl fdo)), (aFo, .inl (cI, 200, .inl fow))] H := hP
  have hD : va_D A [(aX, .inr (9, [.ref aS, .ref aY, .ref aP, .ref aFc, .ref aFn, .ref aFl, .ref aFh, .ref aFd, .int 0, .ref aFo])), (aY, .inr (3, [.ref aS, .ref aW, .ref aF, .ref aK, .ref aN])), (aK, .inr (2, [.int kbase, .ref aKs, .int kcnt])), (aKs, .inl (cI, 201, .inl ksts)), (aS, .inr (0, [.ref aB])), (aB, .inl (cB, 202000, .inl (by_ b))), (aP, .inr (5, [.ref aS, .ref aV, .ref aPs, .ref aPe, .ref aPi, .ref aPh, .int pcnt, .int (b2i pfix), .int pown, .ref aPl, .ref aPn, .int plc, .int psr, .int pbs, .int (b2i pms)])), (aPs, .inl (cI, 8, .inl pst)), (aPe, .inl (cI, 8, .inl pen)), (aPi, .inl (cI, 8, .inl pix)), (aPl, .inl (cI, 1001, .inl plv)), (aPn, .inl (cI, 2000, .inl psn)), (aFc, .inl (cI, 1024, .inl fch)), (aFn, .inl (cI, 13533, .inl fnx)), (aFl, .inl (cI, 13533, .inl flv)), (aFh, .inl (cI, 13533, .inl fhs)), (aFd, .inl (cI, 13533, .inl fdo)), (aFo, .inl (cI, 200, .inl fow))] := hD
  refine lv_aload_n hx hb d_FI_gather_5 rfl (lv_at hl 0 rfl) ?_
  refine va_get (D := D) (ci := 9) (v := .ref aFc) (C := R_FI) (T := T_FI) (N := 10) hx hb hT u_FI hown hK hP 0 rfl rfl 3 (by decide) (hT _ k_288) (fun _ h9 => h9) rfl d_FI_gather_6 ?_
  refine lv_iconst (v := -1) hx hb d_FI_gather_9 (by decide) ?_
  refine mt_Sv (As := [.ref aFc, .int (-1)]) (rest := []) (wr := [(aX, .inr (9, [.ref aS, .ref aY, .ref aP, .ref aFc, .ref aFn, .ref aFl, .ref aFh, .ref aFd, .int 0, .ref aFo])), (aY, .inr (3, [.ref aS, .ref aW, .ref aF, .ref aK, .ref aN])), (aK, .inr (2, [.int kbase, .ref aKs, .int kcnt])), (aKs, .inl (cI, 201, .inl ksts)), (aS, .inr (0, [.ref aB])), (aB, .inl (cB, 202000, .inl (by_ b))), (aP, .inr (5, [.ref aS, .ref aV, .ref aPs, .ref aPe, .ref aPi, .ref aPh, .int pcnt, .int (b2i pfix), .int pown, .ref aPl, .ref aPn, .int plc, .int psr, .int pbs, .int (b2i pms)])), (aPs, .inl (cI, 8, .inl pst)), (aPe, .inl (cI, 8, .inl pen)), (aPi, .inl (cI, 8, .inl pix)), (aPl, .inl (cI, 1001, .inl plv)), (aPn, .inl (cI, 2000, .inl psn)), (aFn, .inl (cI, 13533, .inl fnx)), (aFl, .inl (cI, 13533, .inl flv)), (aFh, .inl (cI, 13533, .inl fhs)), (aFd, .inl (cI, 13533, .inl fdo)), (aFo, .inl (cI, 200, .inl fow))]) ⟨hx, hb, hml, hown, hT⟩ (c_JA_fill1024 l D cB cI aFc _ fch (-1)) (va_cwS 2 hT (gS_of k_955 k_956 k_21 kc_JA_fill) rfl rfl rfl hd_JA_fill ⟨Nat.le_of_ble_eq_true rfl, Nat.le_of_ble_eq_true rfl⟩) hk hP hD hS hA [12] [0, 1, 2, 3, 4, 5, 6, 7, 8, 9, 10, 11, 13, 14, 15, 16, 17] rfl rfl rfl (by decide) (by decide) (by decide) rfl hl.1 rfl (Nat.le_of_ble_eq_true rfl) d_FI_gather_10 ⟨Nat.zero_le _, Nat.zero_le _⟩ (fun u_1 H locs hw_1 hP hD hS => ?_)
  obtain ⟨fch_1, rfl⟩ : ∃ z, z = u_1 := ⟨_, rfl⟩
  have hP : va_P D vwCl [(aX, .inr (9, [.ref aS, .ref aY, .ref aP, .ref aFc, .ref aFn, .ref aFl, .ref aFh, .ref aFd, .int 0, .ref aFo])), (aY, .inr (3, [.ref aS, .ref aW, .ref aF, .ref aK, .ref aN])), (aK, .inr (2, [.int kbase, .ref aKs, .int kcnt])), (aKs, .inl (cI, 201, .inl ksts)), (aS, .inr (0, [.ref aB])), (aB, .inl (cB, 202000, .inl (by_ b))), (aP, .inr (5, [.ref aS, .ref aV, .ref aPs, .ref aPe, .ref aPi, .ref aPh, .int pcnt, .int (b2i pfix), .int pown, .ref aPl, .ref aPn, .int plc, .int psr, .int pbs, .int (b2i pms)])), (aPs, .inl (cI, 8, .inl pst)), (aPe, .inl (cI, 8, .inl pen)), (aPi, .inl (cI, 8, .inl pix)), (aPl, .inl (cI, 1001, .inl plv)), (aPn, .inl (cI, 2000, .inl psn)), (aFc, .inl (cI, 1024, .inl fch_1)), (aFn, .inl (cI, 13533, .inl fnx)), (aFl, .inl (cI, 13533, .inl flv)), (aFh, .inl (cI, 13533, .inl fhs)), (aFd, .inl (cI, 13533, .inl fdo)), (aFo, .inl (cI, 200, .inl fow))] H := hP.sub [0, 1, 2, 3, 4, 5, 6, 7, 8, 9, 10, 11, 17, 12, 13, 14, 15, 16] rfl
  have hD : va_D A [(aX, .inr (9, [.ref aS, .ref aY, .ref aP, .ref aFc, .ref aFn, .ref aFl, .ref aFh, .ref aFd, .int 0, .ref aFo])), (aY, .inr (3, [.ref aS, .ref aW, .ref aF, .ref aK, .ref aN])), (aK, .inr (2, [.int kbase, .ref aKs, .int kcnt])), (aKs, .inl (cI, 201, .inl ksts)), (aS, .inr (0, [.ref aB])), (aB, .inl (cB, 202000, .inl (by_ b))), (aP, .inr (5, [.ref aS, .ref aV, .ref aPs, .ref aPe, .ref aPi, .ref aPh, .int pcnt, .int (b2i pfix), .int pown, .ref aPl, .ref aPn, .int plc, .int psr, .int pbs, .int (b2i pms)])), (aPs, .inl (cI, 8, .inl pst)), (aPe, .inl (cI, 8, .inl pen)), (aPi, .inl (cI, 8, .inl pix)), (aPl, .inl (cI, 1001, .inl plv)), (aPn, .inl (cI, 2000, .inl psn)), (aFc, .inl (cI, 1024, .inl fch_1)), (aFn, .inl (cI, 13533, .inl fnx)), (aFl, .inl (cI, 13533, .inl flv)), (aFh, .inl (cI, 13533, .inl fhs)), (aFd, .inl (cI, 13533, .inl fdo)), (aFo, .inl (cI, 200, .inl fow))] := hD.sub [0, 1, 2, 3, 4, 5, 6, 7, 8, 9, 10, 11, 17, 12, 13, 14, 15, 16] (by decide) rfl
  refine lv_aload_n hx hb d_FI_gather_13 rfl (lv_at hl 0 rfl) ?_
  refine va_get (D := D) (ci := 9) (v := .ref aFo) (C := R_FI) (T := T_FI) (N := 10) hx hb hT u_FI hown hK hP 0 rfl rfl 9 (by decide) (hT _ k_294) (fun _ h9 => h9) rfl d_FI_gather_14 ?_
  refine lv_iconst (v := -1) hx hb d_FI_gather_17 (by decide) ?_
  refine mt_Sv (As := [.ref aFo, .int (-1)]) (rest := []) (wr := [(aX, .inr (9, [.ref aS, .ref aY, .ref aP, .ref aFc, .ref aFn, .ref aFl, .ref aFh, .ref aFd, .int 0, .ref aFo])), (aY, .inr (3, [.ref aS, .ref aW, .ref aF, .ref aK, .ref aN])), (aK, .inr (2, [.int kbase, .ref aKs, .int kcnt])), (aKs, .inl (cI, 201, .inl ksts)), (aS, .inr (0, [.ref aB])), (aB, .inl (cB, 202000, .inl (by_ b))), (aP, .inr (5, [.ref aS, .ref aV, .ref aPs, .ref aPe, .ref aPi, .ref aPh, .int pcnt, .int (b2i pfix), .int pown, .ref aPl, .ref aPn, .int plc, .int psr, .int pbs, .int (b2i pms)])), (aPs, .inl (cI, 8, .inl pst)), (aPe, .inl (cI, 8, .inl pen)), (aPi, .inl (cI, 8, .inl pix)), (aPl, .inl (cI, 1001, .inl plv)), (aPn, .inl (cI, 2000, .inl psn)), (aFc, .inl (cI, 1024, .inl fch_1)), (aFn, .inl (cI, 13533, .inl fnx)), (aFl, .inl (cI, 13533, .inl flv)), (aFh, .inl (cI, 13533, .inl fhs)), (aFd, .inl (cI, 13533, .inl fdo))]) ⟨hx, hb, hml, hown, hT⟩ (c_JA_fill200 l D cB cI aFo _ fow (-1)) (va_cwS 2 hT (gS_of k_955 k_956 k_21 kc_JA_fill) rfl rfl rfl hd_JA_fill ⟨Nat.le_of_ble_eq_true rfl, Nat.le_of_ble_eq_true rfl⟩) hk hP hD hS hA [17] [0, 1, 2, 3, 4, 5, 6, 7, 8, 9, 10, 11, 12, 13, 14, 15, 16] rfl rfl rfl (by decide) (by decide) (by decide) rfl hl.1 rfl (Nat.le_of_ble_eq_true rfl) d_FI_gather_18 ⟨Nat.zero_le _, Nat.zero_le _⟩ (fun u_2 H locs hw_2 hP hD hS => ?_)
  obtain ⟨fow_2, rfl⟩ : ∃ z, z = u_2 := ⟨_, rfl⟩
  have hP : va_P D vwCl [(aX, .inr (9, [.ref aS, .ref aY, .ref aP, .ref aFc, .ref aFn, .ref aFl, .ref aFh, .ref aFd, .int 0, .ref aFo])), (aY, .inr (3, [.ref aS, .ref aW, .ref aF, .ref aK, .ref aN])), (aK, .inr (2, [.int kbase, .ref aKs, .int kcnt])), (aKs, .inl (cI, 201, .inl ksts)), (aS, .inr (0, [.ref aB])), (aB, .inl (cB, 202000, .inl (by_ b))), (aP, .inr (5, [.ref aS, .ref aV, .ref aPs, .ref aPe, .ref aPi, .ref aPh, .int pcnt, .int (b2i pfix), .int pown, .ref aPl, .ref aPn, .int plc, .int psr, .int pbs, .int (b2i pms)])), (aPs, .inl (cI, 8, .inl pst)), (aPe, .inl (cI, 8, .inl pen)), (aPi, .inl (cI, 8, .inl pix)), (aPl, .inl (cI, 1001, .inl plv)), (aPn, .inl (cI, 2000, .inl psn)), (aFc, .inl (cI, 1024, .inl fch_1)), (aFn, .inl (cI, 13533, .inl fnx)), (aFl, .inl (cI, 13533, .inl flv)), (aFh, .inl (cI, 13533, .inl fhs)), (aFd, .inl (cI, 13533, .inl fdo)), (aFo, .inl (cI, 200, .inl fow_2))] H := hP.sub [0, 1, 2, 3, 4, 5, 6, 7, 8, 9, 10, 11, 12, 13, 14, 15, 16, 17] rfl
  have hD : va_D A [(aX, .inr (9, [.ref aS, .ref aY, .ref aP, .ref aFc, .ref aFn, .ref aFl, .ref aFh, .ref aFd, .int 0, .ref aFo])), (aY, .inr (3, [.ref aS, .ref aW, .ref aF, .ref aK, .ref aN])), (aK, .inr (2, [.int kbase, .ref aKs, .int kcnt])), (aKs, .inl (cI, 201, .inl ksts)), (aS, .inr (0, [.ref aB])), (aB, .inl (cB, 202000, .inl (by_ b))), (aP, .inr (5, [.ref aS, .ref aV, .ref aPs, .ref aPe, .ref aPi, .ref aPh, .int pcnt, .int (b2i pfix), .int pown, .ref aPl, .ref aPn, .int plc, .int psr, .int pbs, .int (b2i pms)])), (aPs, .inl (cI, 8, .inl pst)), (aPe, .inl (cI, 8, .inl pen)), (aPi, .inl (cI, 8, .inl pix)), (aPl, .inl (cI, 1001, .inl plv)), (aPn, .inl (cI, 2000, .inl psn)), (aFc, .inl (cI, 1024, .inl fch_1)), (aFn, .inl (cI, 13533, .inl fnx)), (aFl, .inl (cI, 13533, .inl flv)), (aFh, .inl (cI, 13533, .inl fhs)), (aFd, .inl (cI, 13533, .inl fdo)), (aFo, .inl (cI, 200, .inl fow_2))] := hD.sub [0, 1, 2, 3, 4, 5, 6, 7, 8, 9, 10, 11, 12, 13, 14, 15, 16, 17] (by decide) rfl
  refine lv_iconst (v := 0) hx hb d_FI_gather_21 (by decide) ?_
  refine lv_istore_n (lv' := [(1, .int 0), (0, .ref aX)]) hx hb d_FI_gather_22 rfl hl (by decide) rfl (fun ls hl => ?_)
  exact l_FI_gather_h23 C0 l D cB cI aX aS aY aP aFc aFn aFl aFh aFd aFo aW aF aK aN aKs aB aV aPs aPe aPi aPh aPl aPn kbase kcnt ksts b pcnt pfix pown pst pen pix hk hA   ((((200 : Int32).toInt - (0 : Int32).toInt).toNat) + 1) 0 0 plc psr pbs pms plv psn fch_1 fnx flv fhs fdo fow_2 (Nat.lt_succ_self _) (f_0) (by rw [tw_FI_gather, ← hw_1, tp1_mk, ← hw_2, tp1_mk]) _ _ hP hD hS ls (lv_sub hl [1, 0] rfl)
