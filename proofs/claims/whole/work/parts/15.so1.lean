/-! printed by wip/gen -/
theorem k_10 : (Jvm.Cond.initialized "PipelineBelt$Sorter") ∈ lw_g := lw_gm (List.mem_append_right _ (List.mem_of_getElem? (i := 10) (by decide +kernel))) rfl
theorem k_257 : (Jvm.Cond.fieldLink "PipelineBelt$Sorter" (23 : Nat) "PipelineBelt$Sorter" "store" "LPipelineBelt$Store;") ∈ lw_g := lw_gm (List.mem_append_right _ (List.mem_of_getElem? (i := 257) (by decide +kernel))) rfl
theorem k_258 : (Jvm.Cond.fieldLink "PipelineBelt$Sorter" (27 : Nat) "PipelineBelt$Sorter" "belts" "LPipelineBelt$Belts;") ∈ lw_g := lw_gm (List.mem_append_right _ (List.mem_of_getElem? (i := 258) (by decide +kernel))) rfl
theorem k_259 : (Jvm.Cond.fieldLink "PipelineBelt$Sorter" (31 : Nat) "PipelineBelt$Sorter" "path" "LPipelineBelt$Path;") ∈ lw_g := lw_gm (List.mem_append_right _ (List.mem_of_getElem? (i := 259) (by decide +kernel))) rfl
theorem k_260 : (Jvm.Cond.fieldLink "PipelineBelt$Sorter" (11 : Nat) "PipelineBelt$Sorter" "keys" "[[I") ∈ lw_g := lw_gm (List.mem_append_right _ (List.mem_of_getElem? (i := 260) (by decide +kernel))) rfl
theorem k_261 : (Jvm.Cond.fieldLink "PipelineBelt$Sorter" (16 : Nat) "PipelineBelt$Sorter" "signs" "[I") ∈ lw_g := lw_gm (List.mem_append_right _ (List.mem_of_getElem? (i := 261) (by decide +kernel))) rfl
theorem k_262 : (Jvm.Cond.fieldLink "PipelineBelt$Sorter" (20 : Nat) "PipelineBelt$Sorter" "order" "[I") ∈ lw_g := lw_gm (List.mem_append_right _ (List.mem_of_getElem? (i := 262) (by decide +kernel))) rfl
theorem k_263 : (Jvm.Cond.fieldLink "PipelineBelt$Sorter" (44 : Nat) "PipelineBelt$Sorter" "sorts" "I") ∈ lw_g := lw_gm (List.mem_append_right _ (List.mem_of_getElem? (i := 263) (by decide +kernel))) rfl
theorem k_862 : (Jvm.Cond.methodLink "PipelineBelt$Sorter" (79 : Nat) ({ cls := "PipelineBelt$Store", name := "classOf", desc := "(I)I" } : Jvm.MethodName)) ∈ lw_g := lw_gm (List.mem_append_right _ (List.mem_of_getElem? (i := 862) (by decide +kernel))) rfl
theorem k_863 : (Jvm.Cond.methodLink "PipelineBelt$Sorter" (64 : Nat) ({ cls := "PipelineBelt$Store", name := "number", desc := "(I)J" } : Jvm.MethodName)) ∈ lw_g := lw_gm (List.mem_append_right _ (List.mem_of_getElem? (i := 863) (by decide +kernel))) rfl
theorem k_864 : (Jvm.Cond.constantLong "PipelineBelt$Sorter" (82 : Nat) (-1 : Int64)) ∈ lw_g := lw_gm (List.mem_append_right _ (List.mem_of_getElem? (i := 864) (by decide +kernel))) rfl
theorem k_870 : (Jvm.Cond.methodLink "PipelineBelt$Sorter" (95 : Nat) ({ cls := "PipelineBelt$Belts", name := "document", desc := "(I)I" } : Jvm.MethodName)) ∈ lw_g := lw_gm (List.mem_append_right _ (List.mem_of_getElem? (i := 870) (by decide +kernel))) rfl
theorem k_871 : (Jvm.Cond.methodLink "PipelineBelt$Sorter" (98 : Nat) ({ cls := "PipelineBelt$Path", name := "findLeaves", desc := "(I)V" } : Jvm.MethodName)) ∈ lw_g := lw_gm (List.mem_append_right _ (List.mem_of_getElem? (i := 871) (by decide +kernel))) rfl
theorem k_872 : (Jvm.Cond.instanceMethod ({ cls := "PipelineBelt$Path", name := "findLeaves", desc := "(I)V" } : Jvm.MethodName)) ∈ lw_g := lw_gm (List.mem_append_right _ (List.mem_of_getElem? (i := 872) (by decide +kernel))) rfl
theorem k_873 : (Jvm.Cond.selects "PipelineBelt$Path" ({ cls := "PipelineBelt$Path", name := "findLeaves", desc := "(I)V" } : Jvm.MethodName) ({ cls := "PipelineBelt$Path", name := "findLeaves", desc := "(I)V" } : Jvm.MethodName)) ∈ lw_g := lw_gm (List.mem_append_right _ (List.mem_of_getElem? (i := 873) (by decide +kernel))) rfl
theorem k_895 : (Jvm.Cond.methodLink "PipelineBelt$Sorter" (101 : Nat) ({ cls := "PipelineBelt$Sorter", name := "leastLeaf", desc := "(I)I" } : Jvm.MethodName)) ∈ lw_g := lw_gm (List.mem_append_right _ (List.mem_of_getElem? (i := 895) (by decide +kernel))) rfl
theorem k_897 : (Jvm.Cond.instanceMethod ({ cls := "PipelineBelt$Sorter", name := "leastLeaf", desc := "(I)I" } : Jvm.MethodName)) ∈ lw_g := lw_gm (List.mem_append_right _ (List.mem_of_getElem? (i := 897) (by decide +kernel))) rfl
theorem k_899 : (Jvm.Cond.methodLink "PipelineBelt$Sorter" (104 : Nat) ({ cls := "PipelineBelt$Path", name := "leaf", desc := "(I)I" } : Jvm.MethodName)) ∈ lw_g := lw_gm (List.mem_append_right _ (List.mem_of_getElem? (i := 899) (by decide +kernel))) rfl
theorem k_900 : (Jvm.Cond.instanceMethod ({ cls := "PipelineBelt$Path", name := "leaf", desc := "(I)I" } : Jvm.MethodName)) ∈ lw_g := lw_gm (List.mem_append_right _ (List.mem_of_getElem? (i := 900) (by decide +kernel))) rfl
theorem k_901 : (Jvm.Cond.selects "PipelineBelt$Path" ({ cls := "PipelineBelt$Path", name := "leaf", desc := "(I)I" } : Jvm.MethodName) ({ cls := "PipelineBelt$Path", name := "leaf", desc := "(I)I" } : Jvm.MethodName)) ∈ lw_g := lw_gm (List.mem_append_right _ (List.mem_of_getElem? (i := 901) (by decide +kernel))) rfl
theorem k_903 : (Jvm.Cond.methodLink "PipelineBelt$Sorter" (110 : Nat) ({ cls := "PipelineBelt$Store", name := "compare", desc := "(III)I" } : Jvm.MethodName)) ∈ lw_g := lw_gm (List.mem_append_right _ (List.mem_of_getElem? (i := 903) (by decide +kernel))) rfl
theorem k_914 : (Jvm.Cond.methodLink "PipelineBelt$Sorter" (126 : Nat) ({ cls := "PipelineBelt$Sorter", name := "compareDocuments", desc := "(II)I" } : Jvm.MethodName)) ∈ lw_g := lw_gm (List.mem_append_right _ (List.mem_of_getElem? (i := 914) (by decide +kernel))) rfl
theorem k_916 : (Jvm.Cond.instanceMethod ({ cls := "PipelineBelt$Sorter", name := "compareDocuments", desc := "(II)I" } : Jvm.MethodName)) ∈ lw_g := lw_gm (List.mem_append_right _ (List.mem_of_getElem? (i := 916) (by decide +kernel))) rfl
abbrev b_SO_isSign : ByteArray := prog_9_method_3_code
def y_SO_isSign : MethodName := ⟨R_SO, "isSign", "(I)Z"⟩
theorem kc_SO_isSign : Cond.code y_SO_isSign b_SO_isSign 2 (some .boolean) ∈ lw_g := lw_gm (List.mem_append_right _ (List.mem_of_getElem? (i := 861) (by decide +kernel))) rfl
abbrev mw_SO_isSign : List Cond := Cond.code y_SO_isSign b_SO_isSign 2 (some .boolean) :: lw_g
theorem hd_SO_isSign : y_SO_isSign.cls = R_SO ∧ y_SO_isSign.cls ≠ "java/lang/invoke/MethodHandle" ∧ y_SO_isSign.cls ≠ "java/lang/invoke/VarHandle" ∧ (parseMethodDescriptor y_SO_isSign.desc).map (fun d => d.parameters.length) = some 1 := by decide +kernel
theorem kp_SO_isSign : Cond.selects R_SO y_SO_isSign y_SO_isSign ∈ lw_g := lw_gm (List.mem_append_left _ (by decide +kernel)) rfl
theorem d_SO_isSign_0 : decode b_SO_isSign 0 = .ok (.iload_n 1, 1) := by decide +kernel
theorem d_SO_isSign_1 : decode b_SO_isSign 1 = .ok (.invokestatic 79, 3) := by decide +kernel
theorem d_SO_isSign_4 : decode b_SO_isSign 4 = .ok (.iconst 2, 1) := by decide +kernel
theorem d_SO_isSign_5 : decode b_SO_isSign 5 = .ok (.if_icmp .ne 35, 3) := by decide +kernel
theorem d_SO_isSign_8 : decode b_SO_isSign 8 = .ok (.aload_n 0, 1) := by decide +kernel
theorem d_SO_isSign_9 : decode b_SO_isSign 9 = .ok (.getfield 23, 3) := by decide +kernel
theorem d_SO_isSign_12 : decode b_SO_isSign 12 = .ok (.iload_n 1, 1) := by decide +kernel
theorem d_SO_isSign_13 : decode b_SO_isSign 13 = .ok (.invokevirtual 64, 3) := by decide +kernel
theorem d_SO_isSign_16 : decode b_SO_isSign 16 = .ok (.lconst 1, 1) := by decide +kernel
theorem d_SO_isSign_17 : decode b_SO_isSign 17 = .ok (.lcmp, 1) := by decide +kernel
theorem d_SO_isSign_18 : decode b_SO_isSign 18 = .ok (.ifCond .eq 18, 3) := by decide +kernel
theorem d_SO_isSign_21 : decode b_SO_isSign 21 = .ok (.aload_n 0, 1) := by decide +kernel
theorem d_SO_isSign_22 : decode b_SO_isSign 22 = .ok (.getfield 23, 3) := by decide +kernel
theorem d_SO_isSign_25 : decode b_SO_isSign 25 = .ok (.iload_n 1, 1) := by decide +kernel
theorem d_SO_isSign_26 : decode b_SO_isSign 26 = .ok (.invokevirtual 64, 3) := by decide +kernel
theorem d_SO_isSign_29 : decode b_SO_isSign 29 = .ok (.ldc2_w 82, 3) := by decide +kernel
theorem d_SO_isSign_32 : decode b_SO_isSign 32 = .ok (.lcmp, 1) := by decide +kernel
theorem d_SO_isSign_33 : decode b_SO_isSign 33 = .ok (.ifCond .ne 7, 3) := by decide +kernel
theorem d_SO_isSign_36 : decode b_SO_isSign 36 = .ok (.iconst 1, 1) := by decide +kernel
theorem d_SO_isSign_37 : decode b_SO_isSign 37 = .ok (.goto 4, 3) := by decide +kernel
theorem d_SO_isSign_40 : decode b_SO_isSign 40 = .ok (.iconst 0, 1) := by decide +kernel
theorem d_SO_isSign_41 : decode b_SO_isSign 41 = .ok (.ireturn, 1) := by decide +kernel
abbrev b_SO_leastLeaf : ByteArray := prog_9_method_5_code
def y_SO_leastLeaf : MethodName := ⟨R_SO, "leastLeaf", "(I)I"⟩
theorem kc_SO_leastLeaf : Cond.code y_SO_leastLeaf b_SO_leastLeaf 5 (some .int) ∈ lw_g := lw_gm (List.mem_append_right _ (List.mem_of_getElem? (i := 898) (by decide +kernel))) rfl
abbrev mw_SO_leastLeaf : List Cond := Cond.code y_SO_leastLeaf b_SO_leastLeaf 5 (some .int) :: lw_g
theorem hd_SO_leastLeaf : y_SO_leastLeaf.cls = R_SO ∧ y_SO_leastLeaf.cls ≠ "java/lang/invoke/MethodHandle" ∧ y_SO_leastLeaf.cls ≠ "java/lang/invoke/VarHandle" ∧ (parseMethodDescriptor y_SO_leastLeaf.desc).map (fun d => d.parameters.length) = some 1 := by decide +kernel
theorem kp_SO_leastLeaf : Cond.selects R_SO y_SO_leastLeaf y_SO_leastLeaf ∈ lw_g := lw_gm (List.mem_append_left _ (by decide +kernel)) rfl
theorem d_SO_leastLeaf_0 : decode b_SO_leastLeaf 0 = .ok (.aload_n 0, 1) := by decide +kernel
theorem d_SO_leastLeaf_1 : decode b_SO_leastLeaf 1 = .ok (.getfield 31, 3) := by decide +kernel
theorem d_SO_leastLeaf_4 : decode b_SO_leastLeaf 4 = .ok (.iconst 0, 1) := by decide +kernel
theorem d_SO_leastLeaf_5 : decode b_SO_leastLeaf 5 = .ok (.invokevirtual 104, 3) := by decide +kernel
theorem d_SO_leastLeaf_8 : decode b_SO_leastLeaf 8 = .ok (.istore_n 2, 1) := by decide +kernel
theorem d_SO_leastLeaf_9 : decode b_SO_leastLeaf 9 = .ok (.iconst 1, 1) := by decide +kernel
theorem d_SO_leastLeaf_10 : decode b_SO_leastLeaf 10 = .ok (.istore_n 3, 1) := by decide +kernel
theorem d_SO_leastLeaf_11 : decode b_SO_leastLeaf 11 = .ok (.iload_n 3, 1) := by decide +kernel
theorem d_SO_leastLeaf_12 : decode b_SO_leastLeaf 12 = .ok (.aload_n 0, 1) := by decide +kernel
theorem d_SO_leastLeaf_13 : decode b_SO_leastLeaf 13 = .ok (.getfield 31, 3) := by decide +kernel
theorem d_SO_leastLeaf_16 : decode b_SO_leastLeaf 16 = .ok (.getfield 107, 3) := by decide +kernel
theorem d_SO_leastLeaf_19 : decode b_SO_leastLeaf 19 = .ok (.if_icmp .ge 38, 3) := by decide +kernel
theorem d_SO_leastLeaf_22 : decode b_SO_leastLeaf 22 = .ok (.aload_n 0, 1) := by decide +kernel
theorem d_SO_leastLeaf_23 : decode b_SO_leastLeaf 23 = .ok (.getfield 31, 3) := by decide +kernel
theorem d_SO_leastLeaf_26 : decode b_SO_leastLeaf 26 = .ok (.iload_n 3, 1) := by decide +kernel
theorem d_SO_leastLeaf_27 : decode b_SO_leastLeaf 27 = .ok (.invokevirtual 104, 3) := by decide +kernel
theorem d_SO_leastLeaf_30 : decode b_SO_leastLeaf 30 = .ok (.istore 4, 2) := by decide +kernel
theorem d_SO_leastLeaf_32 : decode b_SO_leastLeaf 32 = .ok (.aload_n 0, 1) := by decide +kernel
theorem d_SO_leastLeaf_33 : decode b_SO_leastLeaf 33 = .ok (.getfield 23, 3) := by decide +kernel
theorem d_SO_leastLeaf_36 : decode b_SO_leastLeaf 36 = .ok (.iload 4, 2) := by decide +kernel
theorem d_SO_leastLeaf_38 : decode b_SO_leastLeaf 38 = .ok (.iload_n 2, 1) := by decide +kernel
theorem d_SO_leastLeaf_39 : decode b_SO_leastLeaf 39 = .ok (.iconst 0, 1) := by decide +kernel
theorem d_SO_leastLeaf_40 : decode b_SO_leastLeaf 40 = .ok (.invokevirtual 110, 3) := by decide +kernel
theorem d_SO_leastLeaf_43 : decode b_SO_leastLeaf 43 = .ok (.iload_n 1, 1) := by decide +kernel
theorem d_SO_leastLeaf_44 : decode b_SO_leastLeaf 44 = .ok (.imul, 1) := by decide +kernel
theorem d_SO_leastLeaf_45 : decode b_SO_leastLeaf 45 = .ok (.ifCond .ge 6, 3) := by decide +kernel
theorem d_SO_leastLeaf_48 : decode b_SO_leastLeaf 48 = .ok (.iload 4, 2) := by decide +kernel
theorem d_SO_leastLeaf_50 : decode b_SO_leastLeaf 50 = .ok (.istore_n 2, 1) := by decide +kernel
theorem d_SO_leastLeaf_51 : decode b_SO_leastLeaf 51 = .ok (.iinc 3 1, 3) := by decide +kernel
theorem d_SO_leastLeaf_54 : decode b_SO_leastLeaf 54 = .ok (.goto (-43), 3) := by decide +kernel
theorem d_SO_leastLeaf_57 : decode b_SO_leastLeaf 57 = .ok (.iload_n 2, 1) := by decide +kernel
theorem d_SO_leastLeaf_58 : decode b_SO_leastLeaf 58 = .ok (.ireturn, 1) := by decide +kernel
abbrev b_SO_compareDocuments : ByteArray := prog_9_method_8_code
def y_SO_compareDocuments : MethodName := ⟨R_SO, "compareDocuments", "(II)I"⟩
theorem kc_SO_compareDocuments : Cond.code y_SO_compareDocuments b_SO_compareDocuments 5 (some .int) ∈ lw_g := lw_gm (List.mem_append_right _ (List.mem_of_getElem? (i := 917) (by decide +kernel))) rfl
abbrev mw_SO_compareDocuments : List Cond := Cond.code y_SO_compareDocuments b_SO_compareDocuments 5 (some .int) :: lw_g
theorem hd_SO_compareDocuments : y_SO_compareDocuments.cls = R_SO ∧ y_SO_compareDocuments.cls ≠ "java/lang/invoke/MethodHandle" ∧ y_SO_compareDocuments.cls ≠ "java/lang/invoke/VarHandle" ∧ (parseMethodDescriptor y_SO_compareDocuments.desc).map (fun d => d.parameters.length) = some 2 := by decide +kernel
theorem kp_SO_compareDocuments : Cond.selects R_SO y_SO_compareDocuments y_SO_compareDocuments ∈ lw_g := lw_gm (List.mem_append_left _ (by decide +kernel)) rfl
theorem d_SO_compareDocuments_0 : decode b_SO_compareDocuments 0 = .ok (.iload_n 1, 1) := by decide +kernel
theorem d_SO_compareDocuments_1 : decode b_SO_compareDocuments 1 = .ok (.ifCond .lt 21, 3) := by decide +kernel
theorem d_SO_compareDocuments_4 : decode b_SO_compareDocuments 4 = .ok (.iload_n 1, 1) := by decide +kernel
theorem d_SO_compareDocuments_5 : decode b_SO_compareDocuments 5 = .ok (.sipush 200, 3) := by decide +kernel
theorem d_SO_compareDocuments_8 : decode b_SO_compareDocuments 8 = .ok (.if_icmp .ge 14, 3) := by decide +kernel
theorem d_SO_compareDocuments_11 : decode b_SO_compareDocuments 11 = .ok (.iload_n 2, 1) := by decide +kernel
theorem d_SO_compareDocuments_12 : decode b_SO_compareDocuments 12 = .ok (.ifCond .lt 10, 3) := by decide +kernel
theorem d_SO_compareDocuments_15 : decode b_SO_compareDocuments 15 = .ok (.iload_n 2, 1) := by decide +kernel
theorem d_SO_compareDocuments_16 : decode b_SO_compareDocuments 16 = .ok (.sipush 200, 3) := by decide +kernel
theorem d_SO_compareDocuments_19 : decode b_SO_compareDocuments 19 = .ok (.if_icmp .lt 5, 3) := by decide +kernel
theorem d_SO_compareDocuments_22 : decode b_SO_compareDocuments 22 = .ok (.iconst 0, 1) := by decide +kernel
theorem d_SO_compareDocuments_23 : decode b_SO_compareDocuments 23 = .ok (.ireturn, 1) := by decide +kernel
theorem d_SO_compareDocuments_24 : decode b_SO_compareDocuments 24 = .ok (.iconst 0, 1) := by decide +kernel
theorem d_SO_compareDocuments_25 : decode b_SO_compareDocuments 25 = .ok (.istore_n 3, 1) := by decide +kernel
theorem d_SO_compareDocuments_26 : decode b_SO_compareDocuments 26 = .ok (.iload_n 3, 1) := by decide +kernel
theorem d_SO_compareDocuments_27 : decode b_SO_compareDocuments 27 = .ok (.aload_n 0, 1) := by decide +kernel
theorem d_SO_compareDocuments_28 : decode b_SO_compareDocuments 28 = .ok (.getfield 44, 3) := by decide +kernel
theorem d_SO_compareDocuments_31 : decode b_SO_compareDocuments 31 = .ok (.if_icmp .ge 50, 3) := by decide +kernel
theorem d_SO_compareDocuments_34 : decode b_SO_compareDocuments 34 = .ok (.aload_n 0, 1) := by decide +kernel
theorem d_SO_compareDocuments_35 : decode b_SO_compareDocuments 35 = .ok (.getfield 23, 3) := by decide +kernel
theorem d_SO_compareDocuments_38 : decode b_SO_compareDocuments 38 = .ok (.aload_n 0, 1) := by decide +kernel
theorem d_SO_compareDocuments_39 : decode b_SO_compareDocuments 39 = .ok (.getfield 11, 3) := by decide +kernel
theorem d_SO_compareDocuments_42 : decode b_SO_compareDocuments 42 = .ok (.iload_n 3, 1) := by decide +kernel
theorem d_SO_compareDocuments_43 : decode b_SO_compareDocuments 43 = .ok (.aaload, 1) := by decide +kernel
theorem d_SO_compareDocuments_44 : decode b_SO_compareDocuments 44 = .ok (.iload_n 1, 1) := by decide +kernel
theorem d_SO_compareDocuments_45 : decode b_SO_compareDocuments 45 = .ok (.iaload, 1) := by decide +kernel
theorem d_SO_compareDocuments_46 : decode b_SO_compareDocuments 46 = .ok (.aload_n 0, 1) := by decide +kernel
theorem d_SO_compareDocuments_47 : decode b_SO_compareDocuments 47 = .ok (.getfield 11, 3) := by decide +kernel
theorem d_SO_compareDocuments_50 : decode b_SO_compareDocuments 50 = .ok (.iload_n 3, 1) := by decide +kernel
theorem d_SO_compareDocuments_51 : decode b_SO_compareDocuments 51 = .ok (.aaload, 1) := by decide +kernel
theorem d_SO_compareDocuments_52 : decode b_SO_compareDocuments 52 = .ok (.iload_n 2, 1) := by decide +kernel
theorem d_SO_compareDocuments_53 : decode b_SO_compareDocuments 53 = .ok (.iaload, 1) := by decide +kernel
theorem d_SO_compareDocuments_54 : decode b_SO_compareDocuments 54 = .ok (.iconst 0, 1) := by decide +kernel
theorem d_SO_compareDocuments_55 : decode b_SO_compareDocuments 55 = .ok (.invokevirtual 110, 3) := by decide +kernel
theorem d_SO_compareDocuments_58 : decode b_SO_compareDocuments 58 = .ok (.istore 4, 2) := by decide +kernel
theorem d_SO_compareDocuments_60 : decode b_SO_compareDocuments 60 = .ok (.iload 4, 2) := by decide +kernel
theorem d_SO_compareDocuments_62 : decode b_SO_compareDocuments 62 = .ok (.ifCond .eq 13, 3) := by decide +kernel
theorem d_SO_compareDocuments_65 : decode b_SO_compareDocuments 65 = .ok (.iload 4, 2) := by decide +kernel
theorem d_SO_compareDocuments_67 : decode b_SO_compareDocuments 67 = .ok (.aload_n 0, 1) := by decide +kernel
theorem d_SO_compareDocuments_68 : decode b_SO_compareDocuments 68 = .ok (.getfield 16, 3) := by decide +kernel
theorem d_SO_compareDocuments_71 : decode b_SO_compareDocuments 71 = .ok (.iload_n 3, 1) := by decide +kernel
theorem d_SO_compareDocuments_72 : decode b_SO_compareDocuments 72 = .ok (.iaload, 1) := by decide +kernel
theorem d_SO_compareDocuments_73 : decode b_SO_compareDocuments 73 = .ok (.imul, 1) := by decide +kernel
theorem d_SO_compareDocuments_74 : decode b_SO_compareDocuments 74 = .ok (.ireturn, 1) := by decide +kernel
theorem d_SO_compareDocuments_75 : decode b_SO_compareDocuments 75 = .ok (.iinc 3 1, 3) := by decide +kernel
theorem d_SO_compareDocuments_78 : decode b_SO_compareDocuments 78 = .ok (.goto (-52), 3) := by decide +kernel
theorem d_SO_compareDocuments_81 : decode b_SO_compareDocuments 81 = .ok (.iconst 0, 1) := by decide +kernel
theorem d_SO_compareDocuments_82 : decode b_SO_compareDocuments 82 = .ok (.ireturn, 1) := by decide +kernel
abbrev b_SO_placeFor : ByteArray := prog_9_method_7_code
def y_SO_placeFor : MethodName := ⟨R_SO, "placeFor", "(I)I"⟩
theorem kc_SO_placeFor : Cond.code y_SO_placeFor b_SO_placeFor 6 (some .int) ∈ lw_g := lw_gm (List.mem_append_right _ (List.mem_of_getElem? (i := 913) (by decide +kernel))) rfl
abbrev mw_SO_placeFor : List Cond := Cond.code y_SO_placeFor b_SO_placeFor 6 (some .int) :: lw_g
theorem hd_SO_placeFor : y_SO_placeFor.cls = R_SO ∧ y_SO_placeFor.cls ≠ "java/lang/invoke/MethodHandle" ∧ y_SO_placeFor.cls ≠ "java/lang/invoke/VarHandle" ∧ (parseMethodDescriptor y_SO_placeFor.desc).map (fun d => d.parameters.length) = some 1 := by decide +kernel
theorem kp_SO_placeFor : Cond.selects R_SO y_SO_placeFor y_SO_placeFor ∈ lw_g := lw_gm (List.mem_append_left _ (by decide +kernel)) rfl
theorem d_SO_placeFor_0 : decode b_SO_placeFor 0 = .ok (.iconst 0, 1) := by decide +kernel
theorem d_SO_placeFor_1 : decode b_SO_placeFor 1 = .ok (.istore_n 2, 1) := by decide +kernel
theorem d_SO_placeFor_2 : decode b_SO_placeFor 2 = .ok (.iload_n 1, 1) := by decide +kernel
theorem d_SO_placeFor_3 : decode b_SO_placeFor 3 = .ok (.istore_n 3, 1) := by decide +kernel
theorem d_SO_placeFor_4 : decode b_SO_placeFor 4 = .ok (.iconst 0, 1) := by decide +kernel
theorem d_SO_placeFor_5 : decode b_SO_placeFor 5 = .ok (.istore 4, 2) := by decide +kernel
theorem d_SO_placeFor_7 : decode b_SO_placeFor 7 = .ok (.iload 4, 2) := by decide +kernel
theorem d_SO_placeFor_9 : decode b_SO_placeFor 9 = .ok (.sipush 200, 3) := by decide +kernel
theorem d_SO_placeFor_12 : decode b_SO_placeFor 12 = .ok (.if_icmp .gt 47, 3) := by decide +kernel
theorem d_SO_placeFor_15 : decode b_SO_placeFor 15 = .ok (.iload_n 2, 1) := by decide +kernel
theorem d_SO_placeFor_16 : decode b_SO_placeFor 16 = .ok (.iload_n 3, 1) := by decide +kernel
theorem d_SO_placeFor_17 : decode b_SO_placeFor 17 = .ok (.if_icmp .ge 42, 3) := by decide +kernel
theorem d_SO_placeFor_20 : decode b_SO_placeFor 20 = .ok (.iload_n 2, 1) := by decide +kernel
theorem d_SO_placeFor_21 : decode b_SO_placeFor 21 = .ok (.iload_n 3, 1) := by decide +kernel
theorem d_SO_placeFor_22 : decode b_SO_placeFor 22 = .ok (.iadd, 1) := by decide +kernel
theorem d_SO_placeFor_23 : decode b_SO_placeFor 23 = .ok (.iconst 2, 1) := by decide +kernel
theorem d_SO_placeFor_24 : decode b_SO_placeFor 24 = .ok (.idiv, 1) := by decide +kernel
theorem d_SO_placeFor_25 : decode b_SO_placeFor 25 = .ok (.istore 5, 2) := by decide +kernel
theorem d_SO_placeFor_27 : decode b_SO_placeFor 27 = .ok (.aload_n 0, 1) := by decide +kernel
theorem d_SO_placeFor_28 : decode b_SO_placeFor 28 = .ok (.aload_n 0, 1) := by decide +kernel
theorem d_SO_placeFor_29 : decode b_SO_placeFor 29 = .ok (.getfield 20, 3) := by decide +kernel
theorem d_SO_placeFor_32 : decode b_SO_placeFor 32 = .ok (.iload 5, 2) := by decide +kernel
theorem d_SO_placeFor_34 : decode b_SO_placeFor 34 = .ok (.iaload, 1) := by decide +kernel
theorem d_SO_placeFor_35 : decode b_SO_placeFor 35 = .ok (.iload_n 1, 1) := by decide +kernel
theorem d_SO_placeFor_36 : decode b_SO_placeFor 36 = .ok (.invokevirtual 126, 3) := by decide +kernel
theorem d_SO_placeFor_39 : decode b_SO_placeFor 39 = .ok (.ifCond .le 9, 3) := by decide +kernel
theorem d_SO_placeFor_42 : decode b_SO_placeFor 42 = .ok (.iload 5, 2) := by decide +kernel
theorem d_SO_placeFor_44 : decode b_SO_placeFor 44 = .ok (.istore_n 3, 1) := by decide +kernel
theorem d_SO_placeFor_45 : decode b_SO_placeFor 45 = .ok (.goto 8, 3) := by decide +kernel
theorem d_SO_placeFor_48 : decode b_SO_placeFor 48 = .ok (.iload 5, 2) := by decide +kernel
theorem d_SO_placeFor_50 : decode b_SO_placeFor 50 = .ok (.iconst 1, 1) := by decide +kernel
theorem d_SO_placeFor_51 : decode b_SO_placeFor 51 = .ok (.iadd, 1) := by decide +kernel
theorem d_SO_placeFor_52 : decode b_SO_placeFor 52 = .ok (.istore_n 2, 1) := by decide +kernel
theorem d_SO_placeFor_53 : decode b_SO_placeFor 53 = .ok (.iinc 4 1, 3) := by decide +kernel
theorem d_SO_placeFor_56 : decode b_SO_placeFor 56 = .ok (.goto (-49), 3) := by decide +kernel
theorem d_SO_placeFor_59 : decode b_SO_placeFor 59 = .ok (.iload_n 2, 1) := by decide +kernel
theorem d_SO_placeFor_60 : decode b_SO_placeFor 60 = .ok (.ireturn, 1) := by decide +kernel
abbrev b_SO_findKeys : ByteArray := prog_9_method_4_code
def y_SO_findKeys : MethodName := ⟨R_SO, "findKeys", "(I)V"⟩
theorem kc_SO_findKeys : Cond.code y_SO_findKeys b_SO_findKeys 3 none ∈ lw_g := lw_gm (List.mem_append_right _ (List.mem_of_getElem? (i := 869) (by decide +kernel))) rfl
abbrev mw_SO_findKeys : List Cond := Cond.code y_SO_findKeys b_SO_findKeys 3 none :: lw_g
theorem hd_SO_findKeys : y_SO_findKeys.cls = R_SO ∧ y_SO_findKeys.cls ≠ "java/lang/invoke/MethodHandle" ∧ y_SO_findKeys.cls ≠ "java/lang/invoke/VarHandle" ∧ (parseMethodDescriptor y_SO_findKeys.desc).map (fun d => d.parameters.length) = some 1 := by decide +kernel
theorem kp_SO_findKeys : Cond.selects R_SO y_SO_findKeys y_SO_findKeys ∈ lw_g := lw_gm (List.mem_append_left _ (by decide +kernel)) rfl
theorem d_SO_findKeys_0 : decode b_SO_findKeys 0 = .ok (.iconst 0, 1) := by decide +kernel
theorem d_SO_findKeys_1 : decode b_SO_findKeys 1 = .ok (.istore_n 2, 1) := by decide +kernel
theorem d_SO_findKeys_2 : decode b_SO_findKeys 2 = .ok (.iload_n 2, 1) := by decide +kernel
theorem d_SO_findKeys_3 : decode b_SO_findKeys 3 = .ok (.aload_n 0, 1) := by decide +kernel
theorem d_SO_findKeys_4 : decode b_SO_findKeys 4 = .ok (.getfield 27, 3) := by decide +kernel
theorem d_SO_findKeys_7 : decode b_SO_findKeys 7 = .ok (.getfield 84, 3) := by decide +kernel
theorem d_SO_findKeys_10 : decode b_SO_findKeys 10 = .ok (.getfield 90, 3) := by decide +kernel
theorem d_SO_findKeys_13 : decode b_SO_findKeys 13 = .ok (.if_icmp .ge 49, 3) := by decide +kernel
theorem d_SO_findKeys_16 : decode b_SO_findKeys 16 = .ok (.iload_n 2, 1) := by decide +kernel
theorem d_SO_findKeys_17 : decode b_SO_findKeys 17 = .ok (.sipush 200, 3) := by decide +kernel
theorem d_SO_findKeys_20 : decode b_SO_findKeys 20 = .ok (.if_icmp .ge 42, 3) := by decide +kernel
theorem d_SO_findKeys_23 : decode b_SO_findKeys 23 = .ok (.aload_n 0, 1) := by decide +kernel
theorem d_SO_findKeys_24 : decode b_SO_findKeys 24 = .ok (.getfield 31, 3) := by decide +kernel
theorem d_SO_findKeys_27 : decode b_SO_findKeys 27 = .ok (.aload_n 0, 1) := by decide +kernel
theorem d_SO_findKeys_28 : decode b_SO_findKeys 28 = .ok (.getfield 27, 3) := by decide +kernel
theorem d_SO_findKeys_31 : decode b_SO_findKeys 31 = .ok (.iload_n 2, 1) := by decide +kernel
theorem d_SO_findKeys_32 : decode b_SO_findKeys 32 = .ok (.invokevirtual 95, 3) := by decide +kernel
theorem d_SO_findKeys_35 : decode b_SO_findKeys 35 = .ok (.invokevirtual 98, 3) := by decide +kernel
theorem d_SO_findKeys_38 : decode b_SO_findKeys 38 = .ok (.aload_n 0, 1) := by decide +kernel
theorem d_SO_findKeys_39 : decode b_SO_findKeys 39 = .ok (.getfield 11, 3) := by decide +kernel
theorem d_SO_findKeys_42 : decode b_SO_findKeys 42 = .ok (.iload_n 1, 1) := by decide +kernel
theorem d_SO_findKeys_43 : decode b_SO_findKeys 43 = .ok (.aaload, 1) := by decide +kernel
theorem d_SO_findKeys_44 : decode b_SO_findKeys 44 = .ok (.iload_n 2, 1) := by decide +kernel
theorem d_SO_findKeys_45 : decode b_SO_findKeys 45 = .ok (.aload_n 0, 1) := by decide +kernel
theorem d_SO_findKeys_46 : decode b_SO_findKeys 46 = .ok (.aload_n 0, 1) := by decide +kernel
theorem d_SO_findKeys_47 : decode b_SO_findKeys 47 = .ok (.getfield 16, 3) := by decide +kernel
theorem d_SO_findKeys_50 : decode b_SO_findKeys 50 = .ok (.iload_n 1, 1) := by decide +kernel
theorem d_SO_findKeys_51 : decode b_SO_findKeys 51 = .ok (.iaload, 1) := by decide +kernel
theorem d_SO_findKeys_52 : decode b_SO_findKeys 52 = .ok (.invokevirtual 101, 3) := by decide +kernel
theorem d_SO_findKeys_55 : decode b_SO_findKeys 55 = .ok (.iastore, 1) := by decide +kernel
theorem d_SO_findKeys_56 : decode b_SO_findKeys 56 = .ok (.iinc 2 1, 3) := by decide +kernel
theorem d_SO_findKeys_59 : decode b_SO_findKeys 59 = .ok (.goto (-57), 3) := by decide +kernel
theorem d_SO_findKeys_62 : decode b_SO_findKeys 62 = .ok (.return_, 1) := by decide +kernel
section V4
variable {p : Program} {l : Launch} {e : Env} {R : Room} {s : State} {m : MethodId} {args : Array Value} {below : List Frame} {meth : Method} {c : Code} {H : Heap} {locs : List Loc} {cells slots : Nat} {Q : State → Prop} {cc : ByteArray} {pc : Nat} {ls : Array Slot} {rest : List Value} {D : va_G} {cl : List vw_C} {a : Nat} {ws : va_W}
/-- a row of an array of int arrays -/
theorem va_ald4 (hexec : p.tables.exec = Jvm.exec) (hb : c.code = cc) (hP : va_P D cl ws H) (q0 : Nat) {cA : ClassId} {n r : Nat} {f : Nat → Option Nat} (ha : ws[q0]? = some (a, .inl (cA, n, .inr (.inr (.inr (.inr f)))))) (hJ : ArrOfT s cA (.array .int)) {i : Int32} (hin : vp_in i n) (hv : f i.toNatClampNeg = some r) (hdg : decode cc pc = .ok (.aaload, 1))
    (kk : W p l e R s m args below meth c H locs cells slots Q (F0 m (pc + 1) ls (.ref r :: rest))) : W p l e R s m args below meth c H locs cells slots Q (F0 m pc ls (.int i :: .ref a :: rest)) := by
  have hlt : i.toNatClampNeg < n := Nat.not_le.mp fun q => hin (Or.inr q)
  exact W.aald (v := .ref r) (ty := .array .int) hexec hb (hP q0 _ ha) (hJ n (fun j => va_rf (f j))) rfl (fun q => by cases q) (by show ¬ (i < 0 ∨ (arrV _ _ _).slots.size ≤ _); rw [arrV_size]; exact hin) (by show (arrV _ _ _).slots[_]? = _; rw [arrV_read _ _ hlt, hv]; rfl) rfl rfl hdg kk
end V4
theorem r4_last {i : Int32} (h : vp_in i 4) (c0 : ¬ i = 0) (c1 : ¬ i = 1) (c2 : ¬ i = 2) : i = 3 := by
  rw [vp_in_iff] at h
  apply Int32.toInt_inj.mp
  have h0 := lv_neT c0 (show (0 : Int32).toInt = 0 from rfl)
  have h1 := lv_neT c1 (show (1 : Int32).toInt = 1 from rfl)
  have h2 := lv_neT c2 (show (2 : Int32).toInt = 2 from rfl)
  show i.toInt = 3
  omega
theorem in_h4 {i : Int32} (h : 0 ≤ i.toInt ∧ i.toInt < 4) : vp_in i 4 := by
  rw [vp_in_iff]
  omega
theorem in_s4 {i n : Int32} (h0 : ¬ i < 0) (h1 : ¬ n ≤ i) (h2 : n.toInt ≤ 4) : vp_in i 4 := by
  have a := i_nn h0
  have b := i_nle h1
  rw [vp_in_iff]
  omega
theorem md_toInt {x y : Int32} (h0 : 0 ≤ x.toInt) (h1 : x.toInt ≤ 200) (h2 : 0 ≤ y.toInt) (h3 : y.toInt ≤ 200) : ((x + y) / 2).toInt = (x.toInt + y.toInt) / 2 := by
  obtain ⟨j, hj, rfl⟩ := nI_of (x := x) (fun q => by have := i_lt.mp q; have z : (0 : Int32).toInt = 0 := rfl; omega)
  obtain ⟨k, hk, rfl⟩ := nI_of (x := y) (fun q => by have := i_lt.mp q; have z : (0 : Int32).toInt = 0 := rfl; omega)
  rw [nI_toInt hj] at h0 h1 ⊢
  rw [nI_toInt hk] at h2 h3 ⊢
  have e : (nI j + nI k) / 2 = nI ((j + k) / 2) := by rw [nI_add]; exact pk_div (d := 2) (by omega) (by decide) (by decide)
  rw [e, nI_toInt (by omega)]
  omega
theorem md_ok {x y : Int32} (h : 0 ≤ x.toInt ∧ y.toInt ≤ 200) (c : ¬ y ≤ x) : 0 ≤ ((x + y) / 2).toInt ∧ ((x + y) / 2).toInt < 200 ∧ x.toInt ≤ ((x + y) / 2).toInt := by
  have b := i_nle c
  rw [md_toInt h.1 (by omega) (by omega) h.2]
  omega
theorem md_in {x y : Int32} (h : 0 ≤ x.toInt ∧ y.toInt ≤ 200) (c : ¬ y ≤ x) : vp_in ((x + y) / 2) 200 := by
  obtain ⟨h1, h2, h3⟩ := md_ok h c
  rw [vp_in_iff]
  omega
theorem md_lo {x y : Int32} (h : 0 ≤ x.toInt ∧ y.toInt ≤ 200) (c : ¬ y ≤ x) : 0 ≤ x.toInt ∧ ((x + y) / 2).toInt ≤ 200 := by
  obtain ⟨h1, h2, h3⟩ := md_ok h c
  omega
theorem md_hi {x y : Int32} (h : 0 ≤ x.toInt ∧ y.toInt ≤ 200) (c : ¬ y ≤ x) : 0 ≤ ((x + y) / 2 + 1).toInt ∧ y.toInt ≤ 200 := by
  obtain ⟨h1, h2, h3⟩ := md_ok h c
  have o : (1 : Int32).toInt = 1 := rfl
  have e : ((x + y) / 2 + 1).toInt = ((x + y) / 2).toInt + 1 := i_add (a := (x + y) / 2) (b := 1) (by omega) (by omega)
  omega

set_option maxHeartbeats 4000000 in
set_option maxRecDepth 100000 in
theorem c_SO_isSign (l : Launch) (D : va_G) (cB cI : ClassId) (aZ aS aY aP aO aG aQ aB : Nat) (sorts : Int32) (b : Nat → UInt8) (p0 : Int32) : Met l y_SO_isSign mw_SO_isSign { frames := 2, cells := 0, slots := 0, locals := 45 } (va_Pc [.ref aZ, .int p0] (fun U => va_P D vwCl [(aZ, .inr (8, [.ref aS, .ref aY, .ref aP, .ref aO, .ref aG, .ref aQ, .int sorts])), (aS, .inr (0, [.ref aB])), (aB, .inl (cB, 202000, .inl (by_ b)))] U.heap ∧ hk_ D cB cI U)) (vp_Si (fun r => r = b2i (tw_SO_isSign b p0))) 0 0 (fun _ => False) := by
  refine Met.ofW (cc := b_SO_isSign) (maxL := 2) (ret := (some .boolean)) (by decide) rfl ?_
  intro p e s m args below meth c s₁ B0 hml hv
  obtain ⟨rfl, hP, hk⟩ := hv
  have hK := hk.1
  have hN := hk.2.1
  have hx := B0.exec
  have hb := B0.bytes
  have hr := B0.returns
  have hT : ∀ w ∈ lw_g, w.before _ s = true := fun w h => atoms_spec (ws := mw_SO_isSign) B0.pre w (List.mem_cons_of_mem _ h)
  have hown : s.vm.findClass R_SO = some m.cls := findClass_of_methodNamed B0.named
  have hlocks := B0.notSynchronized
  have hl := lv_entry ([.ref aZ, .int p0]) (n := 2) (Nat.le_of_ble_eq_true rfl)
  rw [lg_entry_eq]
  generalize (lg_sl ([.ref aZ, .int p0]) ++ List.replicate (2 - (lg_sl ([.ref aZ, .int p0])).length) Slot.unset).toArray = ls at hl ⊢
  have hl : lv_has ls 2 [(0, .ref aZ), (1, .int p0)] := hl
  refine lv_iload_n hx hb d_SO_isSign_0 rfl (lv_at hl 1 rfl) ?_
  refine rd_S (val := tw_ST_classOf p0) (As := [.int p0]) (rest := []) ⟨hx, hb, hml, hown, hT⟩ (c_ST_classOf l D cB cI p0) (va_cwS 1 hT (gS_of k_862 k_780 k_2 kc_ST_classOf) rfl rfl rfl hd_ST_classOf ⟨Nat.le_of_ble_eq_true rfl, Nat.le_of_ble_eq_true rfl⟩) hk (va_P_nil) rfl hl.1 rfl (Nat.le_of_ble_eq_true rfl) d_SO_isSign_1 ⟨Nat.zero_le _, Nat.zero_le _⟩ ?_
  refine lv_iconst (v := 2) hx hb d_SO_isSign_4 (by decide) ?_
  refine lv_icmp_ne (tgt := 40) hx hb d_SO_isSign_5 (by decide) (fun c_1 => ?_) (fun c_1 => ?_)
  · refine lv_iconst (v := 0) hx hb d_SO_isSign_40 (by decide) ?_
    exact W.zret (v := 0) (ty := .boolean) hx hb hr (rfl) (fun t ht hW => ⟨0, rfl, (by rw [tw_SO_isSign, if_neg c_1]; first | done | rfl), ht⟩) (fun _ h => by cases h) d_SO_isSign_41
  · refine lv_aload_n hx hb d_SO_isSign_8 rfl (lv_at hl 0 rfl) ?_
    refine va_get (D := D) (ci := 8) (v := .ref aS) (C := R_SO) (T := T_SO) (N := 7) hx hb hT u_SO hown hK hP 0 rfl rfl 0 (by decide) (hT _ k_257) (fun _ h9 => h9) rfl d_SO_isSign_9 ?_
    refine lv_iload_n hx hb d_SO_isSign_12 rfl (lv_at hl 1 rfl) ?_
    refine rd_Vl (val := tw_ST_number b p0) (As := [.int p0]) (rest := []) ⟨hx, hb, hml, hown, hT⟩ (c_ST_number l D cB cI aS aB b p0) (cwV 1 hT (gV_of k_863 k_761 k_762 k_2 kc_ST_number) rfl rfl rfl hd_ST_number ⟨Nat.le_of_ble_eq_true rfl, Nat.le_of_ble_eq_true rfl⟩) hk (hP.sub (ws' := [(aS, .inr (0, [.ref aB])), (aB, .inl (cB, 202000, .inl (by_ b)))]) [1, 2] rfl) (q0 := 0) rfl rfl rfl rfl hl.1 rfl (Nat.le_of_ble_eq_true rfl) d_SO_isSign_13 ⟨Nat.zero_le _, Nat.zero_le _⟩ ?_
    refine lv_lconst (v := 1) hx hb d_SO_isSign_16 (by decide) ?_
    refine W.lcmp hx hb d_SO_isSign_17 ?_
    refine lv_if_eq (tgt := 36) hx hb d_SO_isSign_18 (by decide) (fun c_2 => ?_) (fun c_2 => ?_)
    · refine lv_iconst (v := 1) hx hb d_SO_isSign_36 (by decide) ?_
      refine lv_goto (tgt := 41) hx hb d_SO_isSign_37 (by decide) ?_
      exact W.zret (v := 1) (ty := .boolean) hx hb hr (rfl) (fun t ht hW => ⟨1, rfl, (by rw [tw_SO_isSign, if_pos c_1, if_pos c_2]; first | done | rfl), ht⟩) (fun _ h => by cases h) d_SO_isSign_41
    · refine lv_aload_n hx hb d_SO_isSign_21 rfl (lv_at hl 0 rfl) ?_
      refine va_get (D := D) (ci := 8) (v := .ref aS) (C := R_SO) (T := T_SO) (N := 7) hx hb hT u_SO hown hK hP 0 rfl rfl 0 (by decide) (hT _ k_257) (fun _ h9 => h9) rfl d_SO_isSign_22 ?_
      refine lv_iload_n hx hb d_SO_isSign_25 rfl (lv_at hl 1 rfl) ?_
      refine rd_Vl (val := tw_ST_number b p0) (As := [.int p0]) (rest := []) ⟨hx, hb, hml, hown, hT⟩ (c_ST_number l D cB cI aS aB b p0) (cwV 1 hT (gV_of k_863 k_761 k_762 k_2 kc_ST_number) rfl rfl rfl hd_ST_number ⟨Nat.le_of_ble_eq_true rfl, Nat.le_of_ble_eq_true rfl⟩) hk (hP.sub (ws' := [(aS, .inr (0, [.ref aB])), (aB, .inl (cB, 202000, .inl (by_ b)))]) [1, 2] rfl) (q0 := 0) rfl rfl rfl rfl hl.1 rfl (Nat.le_of_ble_eq_true rfl) d_SO_isSign_26 ⟨Nat.zero_le _, Nat.zero_le _⟩ ?_
      refine lv_ldc2 (v := (-1)) hx hb hown (hT _ k_864) d_SO_isSign_29 ?_
      refine W.lcmp hx hb d_SO_isSign_32 ?_
      refine lv_if_ne (tgt := 40) hx hb d_SO_isSign_33 (by decide) (fun c_3 => ?_) (fun c_3 => ?_)
      · refine lv_iconst (v := 0) hx hb d_SO_isSign_40 (by decide) ?_
        exact W.zret (v := 0) (ty := .boolean) hx hb hr (rfl) (fun t ht hW => ⟨0, rfl, (by rw [tw_SO_isSign, if_pos c_1, if_neg c_2, if_neg c_3]; first | done | rfl), ht⟩) (fun _ h => by cases h) d_SO_isSign_41
      · refine lv_iconst (v := 1) hx hb d_SO_isSign_36 (by decide) ?_
        refine lv_goto (tgt := 41) hx hb d_SO_isSign_37 (by decide) ?_
        exact W.zret (v := 1) (ty := .boolean) hx hb hr (rfl) (fun t ht hW => ⟨1, rfl, (by rw [tw_SO_isSign, if_pos c_1, if_neg c_2, if_pos c_3]; first | done | rfl), ht⟩) (fun _ h => by cases h) d_SO_isSign_41
set_option maxHeartbeats 4000000 in
set_option maxRecDepth 100000 in
theorem l_SO_leastLeaf_h11 {p : Program} {e : Env} {s : State} {m : MethodId} {args : Array Value} {below : List Frame} {meth : Method} {c : Code} {V : Int32} (C0 : lc_C p s m meth c args b_SO_leastLeaf 5 (some .int) R_SO lw_g) (l : Launch) (D : va_G) (cB cI : ClassId) (aZ aS aY aP aO aG aQ aB aV aPs aPe aPi aPh aPl aPn : Nat) (sorts : Int32) (b : Nat → UInt8) (pcnt : Int32) (pfix : Bool) (pown : Int32) (plc : Int32) (psr : Int32) (pbs : Int32) (pms : Bool) (plv : Nat → Int32) (hP : va_P D vwCl [(aZ, .inr (8, [.ref aS, .ref aY, .ref aP, .ref aO, .ref aG, .ref aQ, .int sorts])), (aS, .inr (0, [.ref aB])), (aB, .inl (cB, 202000, .inl (by_ b))), (aP, .inr (5, [.ref aS, .ref aV, .ref aPs, .ref aPe, .ref aPi, .ref aPh, .int pcnt, .int (b2i pfix), .int pown, .ref aPl, .ref aPn, .int plc, .int psr, .int pbs, .int (b2i pms)])), (aPl, .inl (cI, 1001, .inl plv))] s.heap) (hk : hk_ D cB cI s) (p0 : Int32) : ∀ (n : Nat) (x2 : Int32) (x3 : Int32), (plc.toInt - x3.toInt).toNat < n → V = tw_SO_leastLeaf_h11 b plc plv p0 n x2 x3 → ∀ ls : Array Slot, lv_has ls 5 [(0, .ref aZ), (1, .int p0), (2, .int x2), (3, .int x3)] → W p l e ({ frames := 416, cells := 0, slots := 0, locals := 9984 }) s m args below meth c s.heap [] 0 0 (MQ below (vp_Si (fun r => r = V)) args s 0 0 (fun _ => False)) (F0 m 11 ls []) := by
  obtain ⟨hx, hb, hml, hr, hown, hlocks, hT⟩ := id C0
  have hK := hk.1
  have hN := hk.2.1
  intro n
  induction n with
  | zero =>
    intro x2 x3 hm
    exact absurd hm (Nat.not_lt_zero _)
  | succ n ih =>
    intro x2 x3 hm hV ls hl
    refine lv_iload_n hx hb d_SO_leastLeaf_11 rfl (lv_at hl 3 rfl) ?_
    refine lv_aload_n hx hb d_SO_leastLeaf_12 rfl (lv_at hl 0 rfl) ?_
    refine va_get (D := D) (ci := 8) (v := .ref aP) (C := R_SO) (T := T_SO) (N := 7) hx hb hT u_SO hown hK hP 0 rfl rfl 2 (by decide) (hT _ k_259) (fun _ h9 => h9) rfl d_SO_leastLeaf_13 ?_
    refine va_getN (D := D) (ci := 5) (v := .int plc) (C := R_PA) (T := T_PA) (N := 15) hx hb hT u_PA hown hK hP 3 rfl rfl 11 (by decide) (va_Nw.use rfl (hN ("PipelineBelt$Sorter", 107, "PipelineBelt$Path", "leafCount", "I", "PipelineBelt") (by decide))) (fun _ h9 => h9) rfl d_SO_leastLeaf_16 ?_
    refine lv_icmp_ge (tgt := 57) hx hb d_SO_leastLeaf_19 (by decide) (fun c_1 => ?_) (fun c_1 => ?_)
    · refine lv_iload_n hx hb d_SO_leastLeaf_57 rfl (lv_at hl 2 rfl) ?_
      exact W.iret (v := x2) hx hb hr (fun t ht hW => ⟨x2, rfl, (by rw [hV, tw_SO_leastLeaf_h11, if_pos c_1]; first | done | rfl), ht⟩) (fun _ h => by cases h) d_SO_leastLeaf_58
    · refine lv_aload_n hx hb d_SO_leastLeaf_22 rfl (lv_at hl 0 rfl) ?_
      refine va_get (D := D) (ci := 8) (v := .ref aP) (C := R_SO) (T := T_SO) (N := 7) hx hb hT u_SO hown hK hP 0 rfl rfl 2 (by decide) (hT _ k_259) (fun _ h9 => h9) rfl d_SO_leastLeaf_23 ?_
      refine lv_iload_n hx hb d_SO_leastLeaf_26 rfl (lv_at hl 3 rfl) ?_
      refine rd_V (val := tw_PA_leaf plc plv x3) (As := [.int x3]) (rest := []) ⟨hx, hb, hml, hown, hT⟩ (c_PA_leaf l D cB cI aP aS aV aPs aPe aPi aPh aPl aPn pcnt pfix pown plc psr pbs pms plv x3) (cwV 1 hT (gV_of k_899 k_900 k_901 k_7 kc_PA_leaf) rfl rfl rfl hd_PA_leaf ⟨Nat.le_of_ble_eq_true rfl, Nat.le_of_ble_eq_true rfl⟩) hk (hP.sub (ws' := [(aP, .inr (5, [.ref aS, .ref aV, .ref aPs, .ref aPe, .ref aPi, .ref aPh, .int pcnt, .int (b2i pfix), .int pown, .ref aPl, .ref aPn, .int plc, .int psr, .int pbs, .int (b2i pms)])), (aPl, .inl (cI, 1001, .inl plv))]) [3, 4] rfl) (q0 := 0) rfl rfl rfl rfl hl.1 rfl (Nat.le_of_ble_eq_true rfl) d_SO_leastLeaf_27 ⟨Nat.zero_le _, Nat.zero_le _⟩ ?_
      refine lv_istore (lv' := [(4, .int (tw_PA_leaf plc plv x3)), (0, .ref aZ), (1, .int p0), (2, .int x2), (3, .int x3)]) hx hb d_SO_leastLeaf_30 hl (by decide) rfl (fun ls hl => ?_)
      refine lv_aload_n hx hb d_SO_leastLeaf_32 rfl (lv_at hl 1 rfl) ?_
      refine va_get (D := D) (ci := 8) (v := .ref aS) (C := R_SO) (T := T_SO) (N := 7) hx hb hT u_SO hown hK hP 0 rfl rfl 0 (by decide) (hT _ k_257) (fun _ h9 => h9) rfl d_SO_leastLeaf_33 ?_
      refine lv_iload hx hb d_SO_leastLeaf_36 (lv_at hl 0 rfl) ?_
      refine lv_iload_n hx hb d_SO_leastLeaf_38 rfl (lv_at hl 3 rfl) ?_
      refine lv_iconst (v := 0) hx hb d_SO_leastLeaf_39 (by decide) ?_
      refine rd_V (val := tw_ST_cmp0 b (tw_PA_leaf plc plv x3) x2) (As := [.int (tw_PA_leaf plc plv x3), .int x2, .int 0]) (rest := []) ⟨hx, hb, hml, hown, hT⟩ (c_ST_cmp0 l D cB cI aS aB b (tw_PA_leaf plc plv x3) x2) (cwV 3 hT (gV_of k_903 k_784 k_785 k_2 kc_ST_compare) rfl rfl rfl hd_ST_compare ⟨Nat.le_of_ble_eq_true rfl, Nat.le_of_ble_eq_true rfl⟩) hk (hP.sub (ws' := [(aS, .inr (0, [.ref aB])), (aB, .inl (cB, 202000, .inl (by_ b)))]) [1, 2] rfl) (q0 := 0) rfl rfl rfl rfl hl.1 rfl (Nat.le_of_ble_eq_true rfl) d_SO_leastLeaf_40 ⟨Nat.zero_le _, Nat.zero_le _⟩ ?_
      refine lv_iload_n hx hb d_SO_leastLeaf_43 rfl (lv_at hl 2 rfl) ?_
      refine lv_imul hx hb d_SO_leastLeaf_44 ?_
      refine lv_if_ge (tgt := 51) hx hb d_SO_leastLeaf_45 (by decide) (fun c_2 => ?_) (fun c_2 => ?_)
      · refine lv_iinc (v := x3 + 1) (lv' := [(3, .int (x3 + 1)), (4, .int (tw_PA_leaf plc plv x3)), (0, .ref aZ), (1, .int p0), (2, .int x2)]) hx hb d_SO_leastLeaf_51 hl (k := 4) rfl rfl (by decide) rfl (fun ls hl => ?_)
        refine lv_goto (tgt := 11) hx hb d_SO_leastLeaf_54 (by decide) ?_
        exact ih x2 (x3 + 1) (lp_up hm c_1) (by rw [hV, tw_SO_leastLeaf_h11, if_neg c_1, if_pos c_2]) ls (lv_sub hl [2, 3, 4, 0] rfl)
      · refine lv_iload hx hb d_SO_leastLeaf_48 (lv_at hl 0 rfl) ?_
        refine lv_istore_n (lv' := [(2, .int (tw_PA_leaf plc plv x3)), (4, .int (tw_PA_leaf plc plv x3)), (0, .ref aZ), (1, .int p0), (3, .int x3)]) hx hb d_SO_leastLeaf_50 rfl hl (by decide) rfl (fun ls hl => ?_)
        refine lv_iinc (v := x3 + 1) (lv' := [(3, .int (x3 + 1)), (2, .int (tw_PA_leaf plc plv x3)), (4, .int (tw_PA_leaf plc plv x3)), (0, .ref aZ), (1, .int p0)]) hx hb d_SO_leastLeaf_51 hl (k := 4) rfl rfl (by decide) rfl (fun ls hl => ?_)
        refine lv_goto (tgt := 11) hx hb d_SO_leastLeaf_54 (by decide) ?_
        exact ih (tw_PA_leaf plc plv x3) (x3 + 1) (lp_up hm c_1) (by rw [hV, tw_SO_leastLeaf_h11, if_neg c_1, if_neg c_2]) ls (lv_sub hl [3, 4, 1, 0] rfl)
set_option maxHeartbeats 4000000 in
set_option maxRecDepth 100000 in
theorem c_SO_leastLeaf (l : Launch) (D : va_G) (cB cI : ClassId) (aZ aS aY aP aO aG aQ aB aV aPs aPe aPi aPh aPl aPn : Nat) (sorts : Int32) (b : Nat → UInt8) (pcnt : Int32) (pfix : Bool) (pown : Int32) (plc : Int32) (psr : Int32) (pbs : Int32) (pms : Bool) (plv : Nat → Int32) (p0 : Int32) : Met l y_SO_leastLeaf mw_SO_leastLeaf { frames := 416, cells := 0, slots := 0, locals := 9984 } (va_Pc [.ref aZ, .int p0] (fun U => va_P D vwCl [(aZ, .inr (8, [.ref aS, .ref aY, .ref aP, .ref aO, .ref aG, .ref aQ, .int sorts])), (aS, .inr (0, [.ref aB])), (aB, .inl (cB, 202000, .inl (by_ b))), (aP, .inr (5, [.ref aS, .ref aV, .ref aPs, .ref aPe, .ref aPi, .ref aPh, .int pcnt, .int (b2i pfix), .int pown, .ref aPl, .ref aPn, .int plc, .int psr, .int pbs, .int (b2i pms)])), (aPl, .inl (cI, 1001, .inl plv))] U.heap ∧ hk_ D cB cI U)) (vp_Si (fun r => r = tw_SO_leastLeaf b plc plv p0)) 0 0 (fun _ => False) := by
  refine Met.ofW (cc := b_SO_leastLeaf) (maxL := 5) (ret := (some .int)) (by decide) rfl ?_
  intro p e s m args below meth c s₁ B0 hml hv
  obtain ⟨rfl, hP, hk⟩ := hv
  have hK := hk.1
  have hN := hk.2.1
  have hx := B0.exec
  have hb := B0.bytes
  have hr := B0.returns
  have hT : ∀ w ∈ lw_g, w.before _ s = true := fun w h => atoms_spec (ws := mw_SO_leastLeaf) B0.pre w (List.mem_cons_of_mem _ h)
  have hown : s.vm.findClass R_SO = some m.cls := findClass_of_methodNamed B0.named
  have hlocks := B0.notSynchronized
  have hl := lv_entry ([.ref aZ, .int p0]) (n := 5) (Nat.le_of_ble_eq_true rfl)
  rw [lg_entry_eq]
  generalize (lg_sl ([.ref aZ, .int p0]) ++ List.replicate (5 - (lg_sl ([.ref aZ, .int p0])).length) Slot.unset).toArray = ls at hl ⊢
  have hl : lv_has ls 5 [(0, .ref aZ), (1, .int p0)] := hl
  have C0 : lc_C p s m meth c _ b_SO_leastLeaf 5 (some .int) R_SO lw_g := ⟨hx, hb, hml, hr, hown, hlocks, hT⟩
  refine lv_aload_n hx hb d_SO_leastLeaf_0 rfl (lv_at hl 0 rfl) ?_
  refine va_get (D := D) (ci := 8) (v := .ref aP) (C := R_SO) (T := T_SO) (N := 7) hx hb hT u_SO hown hK hP 0 rfl rfl 2 (by decide) (hT _ k_259) (fun _ h9 => h9) rfl d_SO_leastLeaf_1 ?_
  refine lv_iconst (v := 0) hx hb d_SO_leastLeaf_4 (by decide) ?_
  refine rd_V (val := tw_PA_leaf plc plv 0) (As := [.int 0]) (rest := []) ⟨hx, hb, hml, hown, hT⟩ (c_PA_leaf l D cB cI aP aS aV aPs aPe aPi aPh aPl aPn pcnt pfix pown plc psr pbs pms plv 0) (cwV 1 hT (gV_of k_899 k_900 k_901 k_7 kc_PA_leaf) rfl rfl rfl hd_PA_leaf ⟨Nat.le_of_ble_eq_true rfl, Nat.le_of_ble_eq_true rfl⟩) hk (hP.sub (ws' := [(aP, .inr (5, [.ref aS, .ref aV, .ref aPs, .ref aPe, .ref aPi, .ref aPh, .int pcnt, .int (b2i pfix), .int pown, .ref aPl, .ref aPn, .int plc, .int psr, .int pbs, .int (b2i pms)])), (aPl, .inl (cI, 1001, .inl plv))]) [3, 4] rfl) (q0 := 0) rfl rfl rfl rfl hl.1 rfl (Nat.le_of_ble_eq_true rfl) d_SO_leastLeaf_5 ⟨Nat.zero_le _, Nat.zero_le _⟩ ?_
  refine lv_istore_n (lv' := [(2, .int (tw_PA_leaf plc plv 0)), (0, .ref aZ), (1, .int p0)]) hx hb d_SO_leastLeaf_8 rfl hl (by decide) rfl (fun ls hl => ?_)
  refine lv_iconst (v := 1) hx hb d_SO_leastLeaf_9 (by decide) ?_
  refine lv_istore_n (lv' := [(3, .int 1), (2, .int (tw_PA_leaf plc plv 0)), (0, .ref aZ), (1, .int p0)]) hx hb d_SO_leastLeaf_10 rfl hl (by decide) rfl (fun ls hl => ?_)
  exact l_SO_leastLeaf_h11 C0 l D cB cI aZ aS aY aP aO aG aQ aB aV aPs aPe aPi aPh aPl aPn sorts b pcnt pfix pown plc psr pbs pms plv hP hk p0  (((plc.toInt - (1 : Int32).toInt).toNat) + 1) (tw_PA_leaf plc plv 0) 1 (Nat.lt_succ_self _) (by rw [tw_SO_leastLeaf]) ls (lv_sub hl [2, 3, 1, 0] rfl)
set_option maxHeartbeats 4000000 in
set_option maxRecDepth 100000 in
theorem l_SO_compareDocuments_h26 {p : Program} {e : Env} {s : State} {m : MethodId} {args : Array Value} {below : List Frame} {meth : Method} {c : Code} {V : Int32} (C0 : lc_C p s m meth c args b_SO_compareDocuments 5 (some .int) R_SO lw_g) (l : Launch) (D : va_G) (cB cI : ClassId) (aZ aS aY aP aO aG aQ aB aR0 aR1 aR2 aR3 : Nat) (cJ : ClassId) (sorts : Int32) (b : Nat → UInt8) (k0 : Nat → Int32) (k1 : Nat → Int32) (k2 : Nat → Int32) (k3 : Nat → Int32) (sg : Nat → Int32) (hP : va_P D vwCl [(aZ, .inr (8, [.ref aS, .ref aY, .ref aP, .ref aO, .ref aG, .ref aQ, .int sorts])), (aS, .inr (0, [.ref aB])), (aB, .inl (cB, 202000, .inl (by_ b))), (aO, .inl (cJ, 4, .inr (.inr (.inr (.inr (fun j => if j = 0 then some aR0 else if j = 1 then some aR1 else if j = 2 then some aR2 else some aR3)))))), (aR0, .inl (cI, 200, .inl k0)), (aR1, .inl (cI, 200, .inl k1)), (aR2, .inl (cI, 200, .inl k2)), (aR3, .inl (cI, 200, .inl k3)), (aG, .inl (cI, 4, .inl sg))] s.heap) (hk : hk_ D cB cI s) (p0 : Int32) (p1 : Int32) (hcJ : cJ = D.1 100) (hs : sorts.toInt ≤ 4) (hf1 : ¬ p0 < 0) (hf2 : ¬ 200 ≤ p0) (hf3 : ¬ p1 < 0) (hf4 : p1 < 200) : ∀ (n : Nat) (x3 : Int32), (sorts.toInt - x3.toInt).toNat < n → ¬ x3 < 0 → V = tw_SO_compareDocuments_h26 sorts b k0 k1 k2 k3 sg p0 p1 n x3 → ∀ ls : Array Slot, lv_has ls 5 [(0, .ref aZ), (1, .int p0), (2, .int p1), (3, .int x3)] → W p l e ({ frames := 416, cells := 0, slots := 0, locals := 9984 }) s m args below meth c s.heap [] 0 0 (MQ below (vp_Si (fun r => r = V)) args s 0 0 (fun _ => False)) (F0 m 26 ls []) := by
  obtain ⟨hx, hb, hml, hr, hown, hlocks, hT⟩ := id C0
  have hK := hk.1
  have hN := hk.2.1
  intro n
  induction n with
  | zero =>
    intro x3 hm
    exact absurd hm (Nat.not_lt_zero _)
  | succ n ih =>
    intro x3 hm hv1 hV ls hl
    refine lv_iload_n hx hb d_SO_compareDocuments_26 rfl (lv_at hl 3 rfl) ?_
    refine lv_aload_n hx hb d_SO_compareDocuments_27 rfl (lv_at hl 0 rfl) ?_
    refine va_get (D := D) (ci := 8) (v := .int sorts) (C := R_SO) (T := T_SO) (N := 7) hx hb hT u_SO hown hK hP 0 rfl rfl 6 (by decide) (hT _ k_263) (fun _ h9 => h9) rfl d_SO_compareDocuments_28 ?_
    refine lv_icmp_ge (tgt := 81) hx hb d_SO_compareDocuments_31 (by decide) (fun c_5 => ?_) (fun c_5 => ?_)
    · refine lv_iconst (v := 0) hx hb d_SO_compareDocuments_81 (by decide) ?_
      exact W.iret (v := 0) hx hb hr (fun t ht hW => ⟨0, rfl, (by rw [hV, tw_SO_compareDocuments_h26, if_pos c_5]; first | done | rfl), ht⟩) (fun _ h => by cases h) d_SO_compareDocuments_82
    · refine lv_aload_n hx hb d_SO_compareDocuments_34 rfl (lv_at hl 0 rfl) ?_
      refine va_get (D := D) (ci := 8) (v := .ref aS) (C := R_SO) (T := T_SO) (N := 7) hx hb hT u_SO hown hK hP 0 rfl rfl 0 (by decide) (hT _ k_257) (fun _ h9 => h9) rfl d_SO_compareDocuments_35 ?_
      refine lv_aload_n hx hb d_SO_compareDocuments_38 rfl (lv_at hl 0 rfl) ?_
      refine va_get (D := D) (ci := 8) (v := .ref aO) (C := R_SO) (T := T_SO) (N := 7) hx hb hT u_SO hown hK hP 0 rfl rfl 3 (by decide) (hT _ k_260) (fun _ h9 => h9) rfl d_SO_compareDocuments_39 ?_
      refine lv_iload_n hx hb d_SO_compareDocuments_42 rfl (lv_at hl 3 rfl) ?_
      by_cases c_6 : x3 = 0
      · refine va_ald4 (r := aR0) hx hb hP 3 rfl (by rw [hcJ]; exact hk.2.2) (in_s4 hv1 c_5 hs) (by rw [c_6]; rfl) d_SO_compareDocuments_43 ?_
        refine lv_iload_n hx hb d_SO_compareDocuments_44 rfl (lv_at hl 1 rfl) ?_
        refine va_iald hx hb hK hP 4 1 rfl rfl (in_nn hf1 hf2 rfl) d_SO_compareDocuments_45 ?_
        refine lv_aload_n hx hb d_SO_compareDocuments_46 rfl (lv_at hl 0 rfl) ?_
        refine va_get (D := D) (ci := 8) (v := .ref aO) (C := R_SO) (T := T_SO) (N := 7) hx hb hT u_SO hown hK hP 0 rfl rfl 3 (by decide) (hT _ k_260) (fun _ h9 => h9) rfl d_SO_compareDocuments_47 ?_
        refine lv_iload_n hx hb d_SO_compareDocuments_50 rfl (lv_at hl 3 rfl) ?_
        refine va_ald4 (r := aR0) hx hb hP 3 rfl (by rw [hcJ]; exact hk.2.2) (in_s4 hv1 c_5 hs) (by rw [c_6]; rfl) d_SO_compareDocuments_51 ?_
        refine lv_iload_n hx hb d_SO_compareDocuments_52 rfl (lv_at hl 2 rfl) ?_
        refine va_iald hx hb hK hP 4 1 rfl rfl (in_np hf3 hf4 rfl) d_SO_compareDocuments_53 ?_
        refine lv_iconst (v := 0) hx hb d_SO_compareDocuments_54 (by decide) ?_
        refine rd_V (val := tw_ST_cmp0 b (k0 p0.toNatClampNeg) (k0 p1.toNatClampNeg)) (As := [.int (k0 p0.toNatClampNeg), .int (k0 p1.toNatClampNeg), .int 0]) (rest := []) ⟨hx, hb, hml, hown, hT⟩ (c_ST_cmp0 l D cB cI aS aB b (k0 p0.toNatClampNeg) (k0 p1.toNatClampNeg)) (cwV 3 hT (gV_of k_903 k_784 k_785 k_2 kc_ST_compare) rfl rfl rfl hd_ST_compare ⟨Nat.le_of_ble_eq_true rfl, Nat.le_of_ble_eq_true rfl⟩) hk (hP.sub (ws' := [(aS, .inr (0, [.ref aB])), (aB, .inl (cB, 202000, .inl (by_ b)))]) [1, 2] rfl) (q0 := 0) rfl rfl rfl rfl hl.1 rfl (Nat.le_of_ble_eq_true rfl) d_SO_compareDocuments_55 ⟨Nat.zero_le _, Nat.zero_le _⟩ ?_
        refine lv_istore (lv' := [(4, .int (tw_ST_cmp0 b (k0 p0.toNatClampNeg) (k0 p1.toNatClampNeg))), (0, .ref aZ), (1, .int p0), (2, .int p1), (3, .int x3)]) hx hb d_SO_compareDocuments_58 hl (by decide) rfl (fun ls hl => ?_)
        refine lv_iload hx hb d_SO_compareDocuments_60 (lv_at hl 0 rfl) ?_
        refine lv_if_eq (tgt := 75) hx hb d_SO_compareDocuments_62 (by decide) (fun c_7 => ?_) (fun c_7 => ?_)
        · refine lv_iinc (v := x3 + 1) (lv' := [(3, .int (x3 + 1)), (4, .int (tw_ST_cmp0 b (k0 p0.toNatClampNeg) (k0 p1.toNatClampNeg))), (0, .ref aZ), (1, .int p0), (2, .int p1)]) hx hb d_SO_compareDocuments_75 hl (k := 4) rfl rfl (by decide) rfl (fun ls hl => ?_)
          refine lv_goto (tgt := 26) hx hb d_SO_compareDocuments_78 (by decide) ?_
          exact ih (x3 + 1) (lp_up hm c_5) (i_upn hv1 c_5) (by rw [hV, tw_SO_compareDocuments_h26, if_neg c_5, if_pos c_6, if_pos c_7]) ls (lv_sub hl [2, 3, 4, 0] rfl)
        · refine lv_iload hx hb d_SO_compareDocuments_65 (lv_at hl 0 rfl) ?_
          refine lv_aload_n hx hb d_SO_compareDocuments_67 rfl (lv_at hl 1 rfl) ?_
          refine va_get (D := D) (ci := 8) (v := .ref aG) (C := R_SO) (T := T_SO) (N := 7) hx hb hT u_SO hown hK hP 0 rfl rfl 4 (by decide) (hT _ k_261) (fun _ h9 => h9) rfl d_SO_compareDocuments_68 ?_
          refine lv_iload_n hx hb d_SO_compareDocuments_71 rfl (lv_at hl 4 rfl) ?_
          refine va_iald hx hb hK hP 8 1 rfl rfl (in_s4 hv1 c_5 hs) d_SO_compareDocuments_72 ?_
          refine lv_imul hx hb d_SO_compareDocuments_73 ?_
          exact W.iret (v := (tw_ST_cmp0 b (k0 p0.toNatClampNeg) (k0 p1.toNatClampNeg)) * (sg x3.toNatClampNeg)) hx hb hr (fun t ht hW => ⟨(tw_ST_cmp0 b (k0 p0.toNatClampNeg) (k0 p1.toNatClampNeg)) * (sg x3.toNatClampNeg), rfl, (by rw [hV, tw_SO_compareDocuments_h26, if_neg c_5, if_pos c_6, if_neg c_7]; first | done | rfl), ht⟩) (fun _ h => by cases h) d_SO_compareDocuments_74
      by_cases c_8 : x3 = 1
      · refine va_ald4 (r := aR1) hx hb hP 3 rfl (by rw [hcJ]; exact hk.2.2) (in_s4 hv1 c_5 hs) (by rw [c_8]; rfl) d_SO_compareDocuments_43 ?_
        refine lv_iload_n hx hb d_SO_compareDocuments_44 rfl (lv_at hl 1 rfl) ?_
        refine va_iald hx hb hK hP 5 1 rfl rfl (in_nn hf1 hf2 rfl) d_SO_compareDocuments_45 ?_
        refine lv_aload_n hx hb d_SO_compareDocuments_46 rfl (lv_at hl 0 rfl) ?_
        refine va_get (D := D) (ci := 8) (v := .ref aO) (C := R_SO) (T := T_SO) (N := 7) hx hb hT u_SO hown hK hP 0 rfl rfl 3 (by decide) (hT _ k_260) (fun _ h9 => h9) rfl d_SO_compareDocuments_47 ?_
        refine lv_iload_n hx hb d_SO_compareDocuments_50 rfl (lv_at hl 3 rfl) ?_
        refine va_ald4 (r := aR1) hx hb hP 3 rfl (by rw [hcJ]; exact hk.2.2) (in_s4 hv1 c_5 hs) (by rw [c_8]; rfl) d_SO_compareDocuments_51 ?_
        refine lv_iload_n hx hb d_SO_compareDocuments_52 rfl (lv_at hl 2 rfl) ?_
        refine va_iald hx hb hK hP 5 1 rfl rfl (in_np hf3 hf4 rfl) d_SO_compareDocuments_53 ?_
        refine lv_iconst (v := 0) hx hb d_SO_compareDocuments_54 (by decide) ?_
        refine rd_V (val := tw_ST_cmp0 b (k1 p0.toNatClampNeg) (k1 p1.toNatClampNeg)) (As := [.int (k1 p0.toNatClampNeg), .int (k1 p1.toNatClampNeg), .int 0]) (rest := []) ⟨hx, hb, hml, hown, hT⟩ (c_ST_cmp0 l D cB cI aS aB b (k1 p0.toNatClampNeg) (k1 p1.toNatClampNeg)) (cwV 3 hT (gV_of k_903 k_784 k_785 k_2 kc_ST_compare) rfl rfl rfl hd_ST_compare ⟨Nat.le_of_ble_eq_true rfl, Nat.le_of_ble_eq_true rfl⟩) hk (hP.sub (ws' := [(aS, .inr (0, [.ref aB])), (aB, .inl (cB, 202000, .inl (by_ b)))]) [1, 2] rfl) (q0 := 0) rfl rfl rfl rfl hl.1 rfl (Nat.le_of_ble_eq_true rfl) d_SO_compareDocuments_55 ⟨Nat.zero_le _, Nat.zero_le _⟩ ?_
        refine lv_istore (lv' := [(4, .int (tw_ST_cmp0 b (k1 p0.toNatClampNeg) (k1 p1.toNatClampNeg))), (0, .ref aZ), (1, .int p0), (2, .int p1), (3, .int x3)]) hx hb d_SO_compareDocuments_58 hl (by decide) rfl (fun ls hl => ?_)
        refine lv_iload hx hb d_SO_compareDocuments_60 (lv_at hl 0 rfl) ?_
        refine lv_if_eq (tgt := 75) hx hb d_SO_compareDocuments_62 (by decide) (fun c_9 => ?_) (fun c_9 => ?_)
        · refine lv_iinc (v := x3 + 1) (lv' := [(3, .int (x3 + 1)), (4, .int (tw_ST_cmp0 b (k1 p0.toNatClampNeg) (k1 p1.toNatClampNeg))), (0, .ref aZ), (1, .int p0), (2, .int p1)]) hx hb d_SO_compareDocuments_75 hl (k := 4) rfl rfl (by decide) rfl (fun ls hl => ?_)
          refine lv_goto (tgt := 26) hx hb d_SO_compareDocuments_78 (by decide) ?_
          exact ih (x3 + 1) (lp_up hm c_5) (i_upn hv1 c_5) (by rw [hV, tw_SO_compareDocuments_h26, if_neg c_5, if_neg c_6, if_pos c_8, if_pos c_9]) ls (lv_sub hl [2, 3, 4, 0] rfl)
        · refine lv_iload hx hb d_SO_compareDocuments_65 (lv_at hl 0 rfl) ?_
          refine lv_aload_n hx hb d_SO_compareDocuments_67 rfl (lv_at hl 1 rfl) ?_
          refine va_get (D := D) (ci := 8) (v := .ref aG) (C := R_SO) (T := T_SO) (N := 7) hx hb hT u_SO hown hK hP 0 rfl rfl 4 (by decide) (hT _ k_261) (fun _ h9 => h9) rfl d_SO_compareDocuments_68 ?_
          refine lv_iload_n hx hb d_SO_compareDocuments_71 rfl (lv_at hl 4 rfl) ?_
          refine va_iald hx hb hK hP 8 1 rfl rfl (in_s4 hv1 c_5 hs) d_SO_compareDocuments_72 ?_
          refine lv_imul hx hb d_SO_compareDocuments_73 ?_
          exact W.iret (v := (tw_ST_cmp0 b (k1 p0.toNatClampNeg) (k1 p1.toNatClampNeg)) * (sg x3.toNatClampNeg)) hx hb hr (fun t ht hW => ⟨(tw_ST_cmp0 b (k1 p0.toNatClampNeg) (k1 p1.toNatClampNeg)) * (sg x3.toNatClampNeg), rfl, (by rw [hV, tw_SO_compareDocuments_h26, if_neg c_5, if_neg c_6, if_pos c_8, if_neg c_9]; first | done | rfl), ht⟩) (fun _ h => by cases h) d_SO_compareDocuments_74
      by_cases c_10 : x3 = 2
      · refine va_ald4 (r := aR2) hx hb hP 3 rfl (by rw [hcJ]; exact hk.2.2) (in_s4 hv1 c_5 hs) (by rw [c_10]; rfl) d_SO_compareDocuments_43 ?_
        refine lv_iload_n hx hb d_SO_compareDocuments_44 rfl (lv_at hl 1 rfl) ?_
        refine va_iald hx hb hK hP 6 1 rfl rfl (in_nn hf1 hf2 rfl) d_SO_compareDocuments_45 ?_
        refine lv_aload_n hx hb d_SO_compareDocuments_46 rfl (lv_at hl 0 rfl) ?_
        refine va_get (D := D) (ci := 8) (v := .ref aO) (C := R_SO) (T := T_SO) (N := 7) hx hb hT u_SO hown hK hP 0 rfl rfl 3 (by decide) (hT _ k_260) (fun _ h9 => h9) rfl d_SO_compareDocuments_47 ?_
        refine lv_iload_n hx hb d_SO_compareDocuments_50 rfl (lv_at hl 3 rfl) ?_
        refine va_ald4 (r := aR2) hx hb hP 3 rfl (by rw [hcJ]; exact hk.2.2) (in_s4 hv1 c_5 hs) (by rw [c_10]; rfl) d_SO_compareDocuments_51 ?_
        refine lv_iload_n hx hb d_SO_compareDocuments_52 rfl (lv_at hl 2 rfl) ?_
        refine va_iald hx hb hK hP 6 1 rfl rfl (in_np hf3 hf4 rfl) d_SO_compareDocuments_53 ?_
        refine lv_iconst (v := 0) hx hb d_SO_compareDocuments_54 (by decide) ?_
        refine rd_V (val := tw_ST_cmp0 b (k2 p0.toNatClampNeg) (k2 p1.toNatClampNeg)) (As := [.int (k2 p0.toNatClampNeg), .int (k2 p1.toNatClampNeg), .int 0]) (rest := []) ⟨hx, hb, hml, hown, hT⟩ (c_ST_cmp0 l D cB cI aS aB b (k2 p0.toNatClampNeg) (k2 p1.toNatClampNeg)) (cwV 3 hT (gV_of k_903 k_784 k_785 k_2 kc_ST_compare) rfl rfl rfl hd_ST_compare ⟨Nat.le_of_ble_eq_true rfl, Nat.le_of_ble_eq_true rfl⟩) hk (hP.sub (ws' := [(aS, .inr (0, [.ref aB])), (aB, .inl (cB, 202000, .inl (by_ b)))]) [1, 2] rfl) (q0 := 0) rfl rfl rfl rfl hl.1 rfl (Nat.le_of_ble_eq_true rfl) d_SO_compareDocuments_55 ⟨Nat.zero_le _, Nat.zero_le _⟩ ?_
        refine lv_istore (lv' := [(4, .int (tw_ST_cmp0 b (k2 p0.toNatClampNeg) (k2 p1.toNatClampNeg))), (0, .ref aZ), (1, .int p0), (2, .int p1), (3, .int x3)]) hx hb d_SO_compareDocuments_58 hl (by decide) rfl (fun ls hl => ?_)
        refine lv_iload hx hb d_SO_compareDocuments_60 (lv_at hl 0 rfl) ?_
        refine lv_if_eq (tgt := 75) hx hb d_SO_compareDocuments_62 (by decide) (fun c_11 => ?_) (fun c_11 => ?_)
        · refine lv_iinc (v := x3 + 1) (lv' := [(3, .int (x3 + 1)), (4, .int (tw_ST_cmp0 b (k2 p0.toNatClampNeg) (k2 p1.toNatClampNeg))), (0, .ref aZ), (1, .int p0), (2, .int p1)]) hx hb d_SO_compareDocuments_75 hl (k := 4) rfl rfl (by decide) rfl (fun ls hl => ?_)
          refine lv_goto (tgt := 26) hx hb d_SO_compareDocuments_78 (by decide) ?_
          exact ih (x3 + 1) (lp_up hm c_5) (i_upn hv1 c_5) (by rw [hV, tw_SO_compareDocuments_h26, if_neg c_5, if_neg c_6, if_neg c_8, if_pos c_10, if_pos c_11]) ls (lv_sub hl [2, 3, 4, 0] rfl)
        · refine lv_iload hx hb d_SO_compareDocuments_65 (lv_at hl 0 rfl) ?_
          refine lv_aload_n hx hb d_SO_compareDocuments_67 rfl (lv_at hl 1 rfl) ?_
          refine va_get (D := D) (ci := 8) (v := .ref aG) (C := R_SO) (T := T_SO) (N := 7) hx hb hT u_SO hown hK hP 0 rfl rfl 4 (by decide) (hT _ k_261) (fun _ h9 => h9) rfl d_SO_compareDocuments_68 ?_
          refine lv_iload_n hx hb d_SO_compareDocuments_71 rfl (lv_at hl 4 rfl) ?_
          refine va_iald hx hb hK hP 8 1 rfl rfl (in_s4 hv1 c_5 hs) d_SO_compareDocuments_72 ?_
          refine lv_imul hx hb d_SO_compareDocuments_73 ?_
          exact W.iret (v := (tw_ST_cmp0 b (k2 p0.toNatClampNeg) (k2 p1.toNatClampNeg)) * (sg x3.toNatClampNeg)) hx hb hr (fun t ht hW => ⟨(tw_ST_cmp0 b (k2 p0.toNatClampNeg) (k2 p1.toNatClampNeg)) * (sg x3.toNatClampNeg), rfl, (by rw [hV, tw_SO_compareDocuments_h26, if_neg c_5, if_neg c_6, if_neg c_8, if_pos c_10, if_neg c_11]; first | done | rfl), ht⟩) (fun _ h => by cases h) d_SO_compareDocuments_74
      have c_12 : x3 = 3 := r4_last (in_s4 hv1 c_5 hs) c_6 c_8 c_10
      refine va_ald4 (r := aR3) hx hb hP 3 rfl (by rw [hcJ]; exact hk.2.2) (in_s4 hv1 c_5 hs) (by rw [c_12]; rfl) d_SO_compareDocuments_43 ?_
      refine lv_iload_n hx hb d_SO_compareDocuments_44 rfl (lv_at hl 1 rfl) ?_
      refine va_iald hx hb hK hP 7 1 rfl rfl (in_nn hf1 hf2 rfl) d_SO_compareDocuments_45 ?_
      refine lv_aload_n hx hb d_SO_compareDocuments_46 rfl (lv_at hl 0 rfl) ?_
      refine va_get (D := D) (ci := 8) (v := .ref aO) (C := R_SO) (T := T_SO) (N := 7) hx hb hT u_SO hown hK hP 0 rfl rfl 3 (by decide) (hT _ k_260) (fun _ h9 => h9) rfl d_SO_compareDocuments_47 ?_
      refine lv_iload_n hx hb d_SO_compareDocuments_50 rfl (lv_at hl 3 rfl) ?_
      refine va_ald4 (r := aR3) hx hb hP 3 rfl (by rw [hcJ]; exact hk.2.2) (in_s4 hv1 c_5 hs) (by rw [c_12]; rfl) d_SO_compareDocuments_51 ?_
      refine lv_iload_n hx hb d_SO_compareDocuments_52 rfl (lv_at hl 2 rfl) ?_
      refine va_iald hx hb hK hP 7 1 rfl rfl (in_np hf3 hf4 rfl) d_SO_compareDocuments_53 ?_
      refine lv_iconst (v := 0) hx hb d_SO_compareDocuments_54 (by decide) ?_
      refine rd_V (val := tw_ST_cmp0 b (k3 p0.toNatClampNeg) (k3 p1.toNatClampNeg)) (As := [.int (k3 p0.toNatClampNeg), .int (k3 p1.toNatClampNeg), .int 0]) (rest := []) ⟨hx, hb, hml, hown, hT⟩ (c_ST_cmp0 l D cB cI aS aB b (k3 p0.toNatClampNeg) (k3 p1.toNatClampNeg)) (cwV 3 hT (gV_of k_903 k_784 k_785 k_2 kc_ST_compare) rfl rfl rfl hd_ST_compare ⟨Nat.le_of_ble_eq_true rfl, Nat.le_of_ble_eq_true rfl⟩) hk (hP.sub (ws' := [(aS, .inr (0, [.ref aB])), (aB, .inl (cB, 202000, .inl (by_ b)))]) [1, 2] rfl) (q0 := 0) rfl rfl rfl rfl hl.1 rfl (Nat.le_of_ble_eq_true rfl) d_SO_compareDocuments_55 ⟨Nat.zero_le _, Nat.zero_le _⟩ ?_
      refine lv_istore (lv' := [(4, .int (tw_ST_cmp0 b (k3 p0.toNatClampNeg) (k3 p1.toNatClampNeg))), (0, .ref aZ), (1, .int p0), (2, .int p1), (3, .int x3)]) hx hb d_SO_compareDocuments_58 hl (by decide) rfl (fun ls hl => ?_)
      refine lv_iload hx hb d_SO_compareDocuments_60 (lv_at hl 0 rfl) ?_
      refine lv_if_eq (tgt := 75) hx hb d_SO_compareDocuments_62 (by decide) (fun c_13 => ?_) (fun c_13 => ?_)
      · refine lv_iinc (v := x3 + 1) (lv' := [(3, .int (x3 + 1)), (4, .int (tw_ST_cmp0 b (k3 p0.toNatClampNeg) (k3 p1.toNatClampNeg))), (0, .ref aZ), (1, .int p0), (2, .int p1)]) hx hb d_SO_compareDocuments_75 hl (k := 4) rfl rfl (by decide) rfl (fun ls hl => ?_)
        refine lv_goto (tgt := 26) hx hb d_SO_compareDocuments_78 (by decide) ?_
        exact ih (x3 + 1) (lp_up hm c_5) (i_upn hv1 c_5) (by rw [hV, tw_SO_compareDocuments_h26, if_neg c_5, if_neg c_6, if_neg c_8, if_neg c_10, if_pos c_13]) ls (lv_sub hl [2, 3, 4, 0] rfl)
      · refine lv_iload hx hb d_SO_compareDocuments_65 (lv_at hl 0 rfl) ?_
        refine lv_aload_n hx hb d_SO_compareDocuments_67 rfl (lv_at hl 1 rfl) ?_
        refine va_get (D := D) (ci := 8) (v := .ref aG) (C := R_SO) (T := T_SO) (N := 7) hx hb hT u_SO hown hK hP 0 rfl rfl 4 (by decide) (hT _ k_261) (fun _ h9 => h9) rfl d_SO_compareDocuments_68 ?_
        refine lv_iload_n hx hb d_SO_compareDocuments_71 rfl (lv_at hl 4 rfl) ?_
        refine va_iald hx hb hK hP 8 1 rfl rfl (in_s4 hv1 c_5 hs) d_SO_compareDocuments_72 ?_
        refine lv_imul hx hb d_SO_compareDocuments_73 ?_
        exact W.iret (v := (tw_ST_cmp0 b (k3 p0.toNatClampNeg) (k3 p1.toNatClampNeg)) * (sg x3.toNatClampNeg)) hx hb hr (fun t ht hW => ⟨(tw_ST_cmp0 b (k3 p0.toNatClampNeg) (k3 p1.toNatClampNeg)) * (sg x3.toNatClampNeg), rfl, (by rw [hV, tw_SO_compareDocuments_h26, if_neg c_5, if_neg c_6, if_neg c_8, if_neg c_10, if_neg c_13]; first | done | rfl), ht⟩) (fun _ h => by cases h) d_SO_compareDocuments_74
set_option maxHeartbeats 4000000 in
set_option maxRecDepth 100000 in
theorem c_SO_compareDocuments (l : Launch) (D : va_G) (cB cI : ClassId) (aZ aS aY aP aO aG aQ aB aR0 aR1 aR2 aR3 : Nat) (cJ : ClassId) (sorts : Int32) (b : Nat → UInt8) (k0 : Nat → Int32) (k1 : Nat → Int32) (k2 : Nat → Int32) (k3 : Nat → Int32) (sg : Nat → Int32) (p0 : Int32) (p1 : Int32) (hcJ : cJ = D.1 100) (hs : sorts.toInt ≤ 4) : Met l y_SO_compareDocuments mw_SO_compareDocuments { frames := 416, cells := 0, slots := 0, locals := 9984 } (va_Pc [.ref aZ, .int p0, .int p1] (fun U => va_P D vwCl [(aZ, .inr (8, [.ref aS, .ref aY, .ref aP, .ref aO, .ref aG, .ref aQ, .int sorts])), (aS, .inr (0, [.ref aB])), (aB, .inl (cB, 202000, .inl (by_ b))), (aO, .inl (cJ, 4, .inr (.inr (.inr (.inr (fun j => if j = 0 then some aR0 else if j = 1 then some aR1 else if j = 2 then some aR2 else some aR3)))))), (aR0, .inl (cI, 200, .inl k0)), (aR1, .inl (cI, 200, .inl k1)), (aR2, .inl (cI, 200, .inl k2)), (aR3, .inl (cI, 200, .inl k3)), (aG, .inl (cI, 4, .inl sg))] U.heap ∧ hk_ D cB cI U)) (vp_Si (fun r => r = tw_SO_compareDocuments sorts b k0 k1 k2 k3 sg p0 p1)) 0 0 (fun _ => False) := by
  refine Met.ofW (cc := b_SO_compareDocuments) (maxL := 5) (ret := (some .int)) (by decide) rfl ?_
  intro p e s m args below meth c s₁ B0 hml hv
  obtain ⟨rfl, hP, hk⟩ := hv
  have hK := hk.1
  have hN := hk.2.1
  have hx := B0.exec
  have hb := B0.bytes
  have hr := B0.returns
  have hT : ∀ w ∈ lw_g, w.before _ s = true := fun w h => atoms_spec (ws := mw_SO_compareDocuments) B0.pre w (List.mem_cons_of_mem _ h)
  have hown : s.vm.findClass R_SO = some m.cls := findClass_of_methodNamed B0.named
  have hlocks := B0.notSynchronized
  have hl := lv_entry ([.ref aZ, .int p0, .int p1]) (n := 5) (Nat.le_of_ble_eq_true rfl)
  rw [lg_entry_eq]
  generalize (lg_sl ([.ref aZ, .int p0, .int p1]) ++ List.replicate (5 - (lg_sl ([.ref aZ, .int p0, .int p1])).length) Slot.unset).toArray = ls at hl ⊢
  have hl : lv_has ls 5 [(0, .ref aZ), (1, .int p0), (2, .int p1)] := hl
  have C0 : lc_C p s m meth c _ b_SO_compareDocuments 5 (some .int) R_SO lw_g := ⟨hx, hb, hml, hr, hown, hlocks, hT⟩
  refine lv_iload_n hx hb d_SO_compareDocuments_0 rfl (lv_at hl 1 rfl) ?_
  refine lv_if_lt (tgt := 22) hx hb d_SO_compareDocuments_1 (by decide) (fun c_1 => ?_) (fun c_1 => ?_)
  · refine lv_iconst (v := 0) hx hb d_SO_compareDocuments_22 (by decide) ?_
    exact W.iret (v := 0) hx hb hr (fun t ht hW => ⟨0, rfl, (by rw [tw_SO_compareDocuments, if_pos c_1]; first | done | rfl), ht⟩) (fun _ h => by cases h) d_SO_compareDocuments_23
  · refine lv_iload_n hx hb d_SO_compareDocuments_4 rfl (lv_at hl 1 rfl) ?_
    refine lv_sipush (v := 200) hx hb d_SO_compareDocuments_5 (by decide) ?_
    refine lv_icmp_ge (tgt := 22) hx hb d_SO_compareDocuments_8 (by decide) (fun c_2 => ?_) (fun c_2 => ?_)
    · refine lv_iconst (v := 0) hx hb d_SO_compareDocuments_22 (by decide) ?_
      exact W.iret (v := 0) hx hb hr (fun t ht hW => ⟨0, rfl, (by rw [tw_SO_compareDocuments, if_neg c_1, if_pos c_2]; first | done | rfl), ht⟩) (fun _ h => by cases h) d_SO_compareDocuments_23
    · refine lv_iload_n hx hb d_SO_compareDocuments_11 rfl (lv_at hl 2 rfl) ?_
      refine lv_if_lt (tgt := 22) hx hb d_SO_compareDocuments_12 (by decide) (fun c_3 => ?_) (fun c_3 => ?_)
      · refine lv_iconst (v := 0) hx hb d_SO_compareDocuments_22 (by decide) ?_
        exact W.iret (v := 0) hx hb hr (fun t ht hW => ⟨0, rfl, (by rw [tw_SO_compareDocuments, if_neg c_1, if_neg c_2, if_pos c_3]; first | done | rfl), ht⟩) (fun _ h => by cases h) d_SO_compareDocuments_23
      · refine lv_iload_n hx hb d_SO_compareDocuments_15 rfl (lv_at hl 2 rfl) ?_
        refine lv_sipush (v := 200) hx hb d_SO_compareDocuments_16 (by decide) ?_
        refine lv_icmp_lt (tgt := 24) hx hb d_SO_compareDocuments_19 (by decide) (fun c_4 => ?_) (fun c_4 => ?_)
        · refine lv_iconst (v := 0) hx hb d_SO_compareDocuments_24 (by decide) ?_
          refine lv_istore_n (lv' := [(3, .int 0), (0, .ref aZ), (1, .int p0), (2, .int p1)]) hx hb d_SO_compareDocuments_25 rfl hl (by decide) rfl (fun ls hl => ?_)
          exact l_SO_compareDocuments_h26 C0 l D cB cI aZ aS aY aP aO aG aQ aB aR0 aR1 aR2 aR3 cJ sorts b k0 k1 k2 k3 sg hP hk p0 p1 hcJ hs c_1 c_2 c_3 c_4 (((sorts.toInt - (0 : Int32).toInt).toNat) + 1) 0 (Nat.lt_succ_self _) (by decide) (by rw [tw_SO_compareDocuments, if_neg c_1, if_neg c_2, if_neg c_3, if_pos c_4]) ls (lv_sub hl [1, 2, 3, 0] rfl)
        · refine lv_iconst (v := 0) hx hb d_SO_compareDocuments_22 (by decide) ?_
          exact W.iret (v := 0) hx hb hr (fun t ht hW => ⟨0, rfl, (by rw [tw_SO_compareDocuments, if_neg c_1, if_neg c_2, if_neg c_3, if_neg c_4]; first | done | rfl), ht⟩) (fun _ h => by cases h) d_SO_compareDocuments_23
set_option maxHeartbeats 4000000 in
set_option maxRecDepth 100000 in
theorem l_SO_placeFor_h7 {p : Program} {e : Env} {s : State} {m : MethodId} {args : Array Value} {below : List Frame} {meth : Method} {c : Code} {V : Int32} (C0 : lc_C p s m meth c args b_SO_placeFor 6 (some .int) R_SO lw_g) (l : Launch) (D : va_G) (cB cI : ClassId) (aZ aS aY aP aO aG aQ aB aR0 aR1 aR2 aR3 : Nat) (cJ : ClassId) (sorts : Int32) (b : Nat → UInt8) (k0 : Nat → Int32) (k1 : Nat → Int32) (k2 : Nat → Int32) (k3 : Nat → Int32) (sg : Nat → Int32) (ord : Nat → Int32) (hP : va_P D vwCl [(aZ, .inr (8, [.ref aS, .ref aY, .ref aP, .ref aO, .ref aG, .ref aQ, .int sorts])), (aS, .inr (0, [.ref aB])), (aB, .inl (cB, 202000, .inl (by_ b))), (aO, .inl (cJ, 4, .inr (.inr (.inr (.inr (fun j => if j = 0 then some aR0 else if j = 1 then some aR1 else if j = 2 then some aR2 else some aR3)))))), (aR0, .inl (cI, 200, .inl k0)), (aR1, .inl (cI, 200, .inl k1)), (aR2, .inl (cI, 200, .inl k2)), (aR3, .inl (cI, 200, .inl k3)), (aG, .inl (cI, 4, .inl sg)), (aQ, .inl (cI, 200, .inl ord))] s.heap) (hk : hk_ D cB cI s) (p0 : Int32) (hcJ : cJ = D.1 100) (hs : sorts.toInt ≤ 4) : ∀ (n : Nat) (x2 : Int32) (x3 : Int32) (x4 : Int32), ((200 : Int32).toInt + 1 - x4.toInt).toNat < n → (0 ≤ x2.toInt ∧ x3.toInt ≤ 200) → V = tw_SO_placeFor_h7 sorts b k0 k1 k2 k3 sg ord p0 n x2 x3 x4 → ∀ ls : Array Slot, lv_has ls 6 [(0, .ref aZ), (1, .int p0), (2, .int x2), (3, .int x3), (4, .int x4)] → W p l e ({ frames := 417, cells := 0, slots := 0, locals := 10008 }) s m args below meth c s.heap [] 0 0 (MQ below (vp_Si (fun r => r = V)) args s 0 0 (fun _ => False)) (F0 m 7 ls []) := by
  obtain ⟨hx, hb, hml, hr, hown, hlocks, hT⟩ := id C0
  have hK := hk.1
  have hN := hk.2.1
  intro n
  induction n with
  | zero =>
    intro x2 x3 x4 hm
    exact absurd hm (Nat.not_lt_zero _)
  | succ n ih =>
    intro x2 x3 x4 hm hv1 hV ls hl
    refine lv_iload hx hb d_SO_placeFor_7 (lv_at hl 4 rfl) ?_
    refine lv_sipush (v := 200) hx hb d_SO_placeFor_9 (by decide) ?_
    refine lv_icmp_gt (tgt := 59) hx hb d_SO_placeFor_12 (by decide) (fun c_1 => ?_) (fun c_1 => ?_)
    · refine lv_iload_n hx hb d_SO_placeFor_59 rfl (lv_at hl 2 rfl) ?_
      exact W.iret (v := x2) hx hb hr (fun t ht hW => ⟨x2, rfl, (by rw [hV, tw_SO_placeFor_h7, if_pos c_1]; first | done | rfl), ht⟩) (fun _ h => by cases h) d_SO_placeFor_60
    · refine lv_iload_n hx hb d_SO_placeFor_15 rfl (lv_at hl 2 rfl) ?_
      refine lv_iload_n hx hb d_SO_placeFor_16 rfl (lv_at hl 3 rfl) ?_
      refine lv_icmp_ge (tgt := 59) hx hb d_SO_placeFor_17 (by decide) (fun c_2 => ?_) (fun c_2 => ?_)
      · refine lv_iload_n hx hb d_SO_placeFor_59 rfl (lv_at hl 2 rfl) ?_
        exact W.iret (v := x2) hx hb hr (fun t ht hW => ⟨x2, rfl, (by rw [hV, tw_SO_placeFor_h7, if_neg c_1, if_pos c_2]; first | done | rfl), ht⟩) (fun _ h => by cases h) d_SO_placeFor_60
      · refine lv_iload_n hx hb d_SO_placeFor_20 rfl (lv_at hl 2 rfl) ?_
        refine lv_iload_n hx hb d_SO_placeFor_21 rfl (lv_at hl 3 rfl) ?_
        refine lv_iadd hx hb d_SO_placeFor_22 ?_
        refine lv_iconst (v := 2) hx hb d_SO_placeFor_23 (by decide) ?_
        refine lv_idiv hx hb d_SO_placeFor_24 (by decide) ?_
        refine lv_istore (lv' := [(5, .int ((x2 + x3) / 2)), (0, .ref aZ), (1, .int p0), (2, .int x2), (3, .int x3), (4, .int x4)]) hx hb d_SO_placeFor_25 hl (by decide) rfl (fun ls hl => ?_)
        refine lv_aload_n hx hb d_SO_placeFor_27 rfl (lv_at hl 1 rfl) ?_
        refine lv_aload_n hx hb d_SO_placeFor_28 rfl (lv_at hl 1 rfl) ?_
        refine va_get (D := D) (ci := 8) (v := .ref aQ) (C := R_SO) (T := T_SO) (N := 7) hx hb hT u_SO hown hK hP 0 rfl rfl 5 (by decide) (hT _ k_262) (fun _ h9 => h9) rfl d_SO_placeFor_29 ?_
        refine lv_iload hx hb d_SO_placeFor_32 (lv_at hl 0 rfl) ?_
        refine va_iald hx hb hK hP 9 1 rfl rfl (md_in hv1 c_2) d_SO_placeFor_34 ?_
        refine lv_iload_n hx hb d_SO_placeFor_35 rfl (lv_at hl 2 rfl) ?_
        refine rd_V (val := tw_SO_compareDocuments sorts b k0 k1 k2 k3 sg (ord ((x2 + x3) / 2).toNatClampNeg) p0) (As := [.int (ord ((x2 + x3) / 2).toNatClampNeg), .int p0]) (rest := []) ⟨hx, hb, hml, hown, hT⟩ (c_SO_compareDocuments l D cB cI aZ aS aY aP aO aG aQ aB aR0 aR1 aR2 aR3 cJ sorts b k0 k1 k2 k3 sg (ord ((x2 + x3) / 2).toNatClampNeg) p0 hcJ (hs)) (cwV 2 hT (gV_of k_914 k_916 kp_SO_compareDocuments k_10 kc_SO_compareDocuments) rfl rfl rfl hd_SO_compareDocuments ⟨Nat.le_of_ble_eq_true rfl, Nat.le_of_ble_eq_true rfl⟩) hk (hP.sub (ws' := [(aZ, .inr (8, [.ref aS, .ref aY, .ref aP, .ref aO, .ref aG, .ref aQ, .int sorts])), (aS, .inr (0, [.ref aB])), (aB, .inl (cB, 202000, .inl (by_ b))), (aO, .inl (cJ, 4, .inr (.inr (.inr (.inr (fun j => if j = 0 then some aR0 else if j = 1 then some aR1 else if j = 2 then some aR2 else some aR3)))))), (aR0, .inl (cI, 200, .inl k0)), (aR1, .inl (cI, 200, .inl k1)), (aR2, .inl (cI, 200, .inl k2)), (aR3, .inl (cI, 200, .inl k3)), (aG, .inl (cI, 4, .inl sg))]) [0, 1, 2, 3, 4, 5, 6, 7, 8] rfl) (q0 := 0) rfl rfl rfl rfl hl.1 rfl (Nat.le_of_ble_eq_true rfl) d_SO_placeFor_36 ⟨Nat.zero_le _, Nat.zero_le _⟩ ?_
        refine lv_if_le (tgt := 48) hx hb d_SO_placeFor_39 (by decide) (fun c_3 => ?_) (fun c_3 => ?_)
        · refine lv_iload hx hb d_SO_placeFor_48 (lv_at hl 0 rfl) ?_
          refine lv_iconst (v := 1) hx hb d_SO_placeFor_50 (by decide) ?_
          refine lv_iadd hx hb d_SO_placeFor_51 ?_
          refine lv_istore_n (lv' := [(2, .int (((x2 + x3) / 2) + 1)), (5, .int ((x2 + x3) / 2)), (0, .ref aZ), (1, .int p0), (3, .int x3), (4, .int x4)]) hx hb d_SO_placeFor_52 rfl hl (by decide) rfl (fun ls hl => ?_)
          refine lv_iinc (v := x4 + 1) (lv' := [(4, .int (x4 + 1)), (2, .int (((x2 + x3) / 2) + 1)), (5, .int ((x2 + x3) / 2)), (0, .ref aZ), (1, .int p0), (3, .int x3)]) hx hb d_SO_placeFor_53 hl (k := 5) rfl rfl (by decide) rfl (fun ls hl => ?_)
          refine lv_goto (tgt := 7) hx hb d_SO_placeFor_56 (by decide) ?_
          exact ih (((x2 + x3) / 2) + 1) x3 (x4 + 1) (lp_le hm c_1 (by decide)) (md_hi hv1 c_2) (by rw [hV, tw_SO_placeFor_h7, if_neg c_1, if_neg c_2, if_pos c_3]) ls (lv_sub hl [3, 4, 1, 5, 0] rfl)
        · refine lv_iload hx hb d_SO_placeFor_42 (lv_at hl 0 rfl) ?_
          refine lv_istore_n (lv' := [(3, .int ((x2 + x3) / 2)), (5, .int ((x2 + x3) / 2)), (0, .ref aZ), (1, .int p0), (2, .int x2), (4, .int x4)]) hx hb d_SO_placeFor_44 rfl hl (by decide) rfl (fun ls hl => ?_)
          refine lv_goto (tgt := 53) hx hb d_SO_placeFor_45 (by decide) ?_
          refine lv_iinc (v := x4 + 1) (lv' := [(4, .int (x4 + 1)), (3, .int ((x2 + x3) / 2)), (5, .int ((x2 + x3) / 2)), (0, .ref aZ), (1, .int p0), (2, .int x2)]) hx hb d_SO_placeFor_53 hl (k := 5) rfl rfl (by decide) rfl (fun ls hl => ?_)
          refine lv_goto (tgt := 7) hx hb d_SO_placeFor_56 (by decide) ?_
          exact ih x2 ((x2 + x3) / 2) (x4 + 1) (lp_le hm c_1 (by decide)) (md_lo hv1 c_2) (by rw [hV, tw_SO_placeFor_h7, if_neg c_1, if_neg c_2, if_neg c_3]) ls (lv_sub hl [3, 4, 5, 1, 0] rfl)
set_option maxHeartbeats 4000000 in
set_option maxRecDepth 100000 in
theorem c_SO_placeFor (l : Launch) (D : va_G) (cB cI : ClassId) (aZ aS aY aP aO aG aQ aB aR0 aR1 aR2 aR3 : Nat) (cJ : ClassId) (sorts : Int32) (b : Nat → UInt8) (k0 : Nat → Int32) (k1 : Nat → Int32) (k2 : Nat → Int32) (k3 : Nat → Int32) (sg : Nat → Int32) (ord : Nat → Int32) (p0 : Int32) (hcJ : cJ = D.1 100) (hs : sorts.toInt ≤ 4) (hp : p0.toInt ≤ 200) : Met l y_SO_placeFor mw_SO_placeFor { frames := 417, cells := 0, slots := 0, locals := 10008 } (va_Pc [.ref aZ, .int p0] (fun U => va_P D vwCl [(aZ, .inr (8, [.ref aS, .ref aY, .ref aP, .ref aO, .ref aG, .ref aQ, .int sorts])), (aS, .inr (0, [.ref aB])), (aB, .inl (cB, 202000, .inl (by_ b))), (aO, .inl (cJ, 4, .inr (.inr (.inr (.inr (fun j => if j = 0 then some aR0 else if j = 1 then some aR1 else if j = 2 then some aR2 else some aR3)))))), (aR0, .inl (cI, 200, .inl k0)), (aR1, .inl (cI, 200, .inl k1)), (aR2, .inl (cI, 200, .inl k2)), (aR3, .inl (cI, 200, .inl k3)), (aG, .inl (cI, 4, .inl sg)), (aQ, .inl (cI, 200, .inl ord))] U.heap ∧ hk_ D cB cI U)) (vp_Si (fun r => r = tw_SO_placeFor sorts b k0 k1 k2 k3 sg ord p0)) 0 0 (fun _ => False) := by
  refine Met.ofW (cc := b_SO_placeFor) (maxL := 6) (ret := (some .int)) (by decide) rfl ?_
  intro p e s m args below meth c s₁ B0 hml hv
  obtain ⟨rfl, hP, hk⟩ := hv
  have hK := hk.1
  have hN := hk.2.1
  have hx := B0.exec
  have hb := B0.bytes
  have hr := B0.returns
  have hT : ∀ w ∈ lw_g, w.before _ s = true := fun w h => atoms_spec (ws := mw_SO_placeFor) B0.pre w (List.mem_cons_of_mem _ h)
  have hown : s.vm.findClass R_SO = some m.cls := findClass_of_methodNamed B0.named
  have hlocks := B0.notSynchronized
  have hl := lv_entry ([.ref aZ, .int p0]) (n := 6) (Nat.le_of_ble_eq_true rfl)
  rw [lg_entry_eq]
  generalize (lg_sl ([.ref aZ, .int p0]) ++ List.replicate (6 - (lg_sl ([.ref aZ, .int p0])).length) Slot.unset).toArray = ls at hl ⊢
  have hl : lv_has ls 6 [(0, .ref aZ), (1, .int p0)] := hl
  have C0 : lc_C p s m meth c _ b_SO_placeFor 6 (some .int) R_SO lw_g := ⟨hx, hb, hml, hr, hown, hlocks, hT⟩
  refine lv_iconst (v := 0) hx hb d_SO_placeFor_0 (by decide) ?_
  refine lv_istore_n (lv' := [(2, .int 0), (0, .ref aZ), (1, .int p0)]) hx hb d_SO_placeFor_1 rfl hl (by decide) rfl (fun ls hl => ?_)
  refine lv_iload_n hx hb d_SO_placeFor_2 rfl (lv_at hl 2 rfl) ?_
  refine lv_istore_n (lv' := [(3, .int p0), (2, .int 0), (0, .ref aZ), (1, .int p0)]) hx hb d_SO_placeFor_3 rfl hl (by decide) rfl (fun ls hl => ?_)
  refine lv_iconst (v := 0) hx hb d_SO_placeFor_4 (by decide) ?_
  refine lv_istore (lv' := [(4, .int 0), (3, .int p0), (2, .int 0), (0, .ref aZ), (1, .int p0)]) hx hb d_SO_placeFor_5 hl (by decide) rfl (fun ls hl => ?_)
  exact l_SO_placeFor_h7 C0 l D cB cI aZ aS aY aP aO aG aQ aB aR0 aR1 aR2 aR3 cJ sorts b k0 k1 k2 k3 sg ord hP hk p0 hcJ hs ((((200 : Int32).toInt + 1 - (0 : Int32).toInt).toNat) + 1) 0 p0 0 (Nat.lt_succ_self _) (⟨by decide, hp⟩) (by rw [tw_SO_placeFor]) ls (lv_sub hl [3, 4, 2, 1, 0] rfl)
abbrev wd_SO_findKeys (aZ aS aY aP aO aG aQ aW aF aK aN aFs aB aV aPs aPe aPi aPh aPl aPn aR0 aR1 aR2 aR3 : Nat) (cB cI : ClassId) (cJ : ClassId) (fbase : Int32) (sorts : Int32) (fcnt : Int32) (fsts : Nat → Int32) (b : Nat → UInt8) (pcnt : Int32) (pfix : Bool) (pown : Int32) (pst : Nat → Int32) (pen : Nat → Int32) (pix : Nat → Int32) (sg : Nat → Int32) (plc : Int32) (psr : Int32) (pbs : Int32) (pms : Bool) (plv : Nat → Int32) (psn : Nat → Int32) (k0 : Nat → Int32) (k1 : Nat → Int32) (k2 : Nat → Int32) (k3 : Nat → Int32) : va_W := [(aZ, .inr (8, [.ref aS, .ref aY, .ref aP, .ref aO, .ref aG, .ref aQ, .int sorts])), (aY, .inr (3, [.ref aS, .ref aW, .ref aF, .ref aK, .ref aN])), (aF, .inr (2, [.int fbase, .ref aFs, .int fcnt])), (aFs, .inl (cI, 201, .inl fsts)), (aS, .inr (0, [.ref aB])), (aB, .inl (cB, 202000, .inl (by_ b))), (aP, .inr (5, [.ref aS, .ref aV, .ref aPs, .ref aPe, .ref aPi, .ref aPh, .int pcnt, .int (b2i pfix), .int pown, .ref aPl, .ref aPn, .int plc, .int psr, .int pbs, .int (b2i pms)])), (aPs, .inl (cI, 8, .inl pst)), (aPe, .inl (cI, 8, .inl pen)), (aPi, .inl (cI, 8, .inl pix)), (aPl, .inl (cI, 1001, .inl plv)), (aPn, .inl (cI, 2000, .inl psn)), (aO, .inl (cJ, 4, .inr (.inr (.inr (.inr (fun j => if j = 0 then some aR0 else if j = 1 then some aR1 else if j = 2 then some aR2 else some aR3)))))), (aR0, .inl (cI, 200, .inl k0)), (aR1, .inl (cI, 200, .inl k1)), (aR2, .inl (cI, 200, .inl k2)), (aR3, .inl (cI, 200, .inl k3)), (aG, .inl (cI, 4, .inl sg))]
set_option maxHeartbeats 4000000 in
set_option maxRecDepth 100000 in
theorem l_SO_findKeys_h2 {p : Program} {e : Env} {s : State} {m : MethodId} {args : Array Value} {below : List Frame} {meth : Method} {c : Code} {V : Int32 × Int32 × Int32 × Bool × (Nat → Int32) × (Nat → Int32) × (Nat → Int32) × (Nat → Int32) × (Nat → Int32) × (Nat → Int32)} (C0 : lc_C p s m meth c args b_SO_findKeys 3 none R_SO lw_g) (l : Launch) (D : va_G) (cB cI : ClassId) (aZ aS aY aP aO aG aQ aW aF aK aN aFs aB aV aPs aPe aPi aPh aPl aPn aR0 aR1 aR2 aR3 : Nat) (cJ : ClassId) (fbase : Int32) (sorts : Int32) (fcnt : Int32) (fsts : Nat → Int32) (b : Nat → UInt8) (pcnt : Int32) (pfix : Bool) (pown : Int32) (pst : Nat → Int32) (pen : Nat → Int32) (pix : Nat → Int32) (sg : Nat → Int32) {A : Nat → Prop} (hk : hk_ D cB cI s) (hA : ∀ q : Nat, s.heap.size ≤ q → A q) (p0 : Int32) (hcJ : cJ = D.1 100) (hp : 0 ≤ p0.toInt ∧ p0.toInt < 4) : ∀ (n : Nat) (x2 : Int32) (plc : Int32) (psr : Int32) (pbs : Int32) (pms : Bool) (plv : Nat → Int32) (psn : Nat → Int32) (k0 : Nat → Int32) (k1 : Nat → Int32) (k2 : Nat → Int32) (k3 : Nat → Int32), ((200 : Int32).toInt - x2.toInt).toNat < n → ¬ x2 < 0 → V = tw_SO_findKeys_h2 fbase fcnt fsts b pcnt pst pen pix sg p0 n x2 plc psr pbs pms plv psn k0 k1 k2 k3 → ∀ (H : Heap) (locs : List Loc), va_P D vwCl [(aZ, .inr (8, [.ref aS, .ref aY, .ref aP, .ref aO, .ref aG, .ref aQ, .int sorts])), (aY, .inr (3, [.ref aS, .ref aW, .ref aF, .ref aK, .ref aN])), (aF, .inr (2, [.int fbase, .ref aFs, .int fcnt])), (aFs, .inl (cI, 201, .inl fsts)), (aS, .inr (0, [.ref aB])), (aB, .inl (cB, 202000, .inl (by_ b))), (aP, .inr (5, [.ref aS, .ref aV, .ref aPs, .ref aPe, .ref aPi, .ref aPh, .int pcnt, .int (b2i pfix), .int pown, .ref aPl, .ref aPn, .int plc, .int psr, .int pbs, .int (b2i pms)])), (aPs, .inl (cI, 8, .inl pst)), (aPe, .inl (cI, 8, .inl pen)), (aPi, .inl (cI, 8, .inl pix)), (aPl, .inl (cI, 1001, .inl plv)), (aPn, .inl (cI, 2000, .inl psn)), (aO, .inl (cJ, 4, .inr (.inr (.inr (.inr (fun j => if j = 0 then some aR0 else if j = 1 then some aR1 else if j = 2 then some aR2 else some aR3)))))), (aR0, .inl (cI, 200, .inl k0)), (aR1, .inl (cI, 200, .inl k1)), (aR2, .inl (cI, 200, .inl k2)), (aR3, .inl (cI, 200, .inl k3)), (aG, .inl (cI, 4, .inl sg))] H → va_D A [(aZ, .inr (8, [.ref aS, .ref aY, .ref aP, .ref aO, .ref aG, .ref aQ, .int sorts])), (aY, .inr (3, [.ref aS, .ref aW, .ref aF, .ref aK, .ref aN])), (aF, .inr (2, [.int fbase, .ref aFs, .int fcnt])), (aFs, .inl (cI, 201, .inl fsts)), (aS, .inr (0, [.ref aB])), (aB, .inl (cB, 202000, .inl (by_ b))), (aP, .inr (5, [.ref aS, .ref aV, .ref aPs, .ref aPe, .ref aPi, .ref aPh, .int pcnt, .int (b2i pfix), .int pown, .ref aPl, .ref aPn, .int plc, .int psr, .int pbs, .int (b2i pms)])), (aPs, .inl (cI, 8, .inl pst)), (aPe, .inl (cI, 8, .inl pen)), (aPi, .inl (cI, 8, .inl pix)), (aPl, .inl (cI, 1001, .inl plv)), (aPn, .inl (cI, 2000, .inl psn)), (aO, .inl (cJ, 4, .inr (.inr (.inr (.inr (fun j => if j = 0 then some aR0 else if j = 1 then some aR1 else if j = 2 then some aR2 else some aR3)))))), (aR0, .inl (cI, 200, .inl k0)), (aR1, .inl (cI, 200, .inl k1)), (aR2, .inl (cI, 200, .inl k2)), (aR3, .inl (cI, 200, .inl k3)), (aG, .inl (cI, 4, .inl sg))] → va_S A s.heap H locs → ∀ ls : Array Slot, lv_has ls 3 [(0, .ref aZ), (1, .int p0), (2, .int x2)] → W p l e ({ frames := 417, cells := 0, slots := 0, locals := 10008 }) s m args below meth c H locs 0 0 (MQ below (va_Qv (fun (u : Int32 × Int32 × Int32 × Bool × (Nat → Int32) × (Nat → Int32) × (Nat → Int32) × (Nat → Int32) × (Nat → Int32) × (Nat → Int32)) => u = V) (mt_B D A (fun u => wd_SO_findKeys aZ aS aY aP aO aG aQ aW aF aK aN aFs aB aV aPs aPe aPi aPh aPl aPn aR0 aR1 aR2 aR3 cB cI cJ fbase sorts fcnt fsts b pcnt pfix pown pst pen pix sg u.1 u.2.1 u.2.2.1 u.2.2.2.1 u.2.2.2.2.1 u.2.2.2.2.2.1 u.2.2.2.2.2.2.1 u.2.2.2.2.2.2.2.1 u.2.2.2.2.2.2.2.2.1 u.2.2.2.2.2.2.2.2.2)) A) args s 0 0 A) (F0 m 2 ls []) := by
  obtain ⟨hx, hb, hml, hr, hown, hlocks, hT⟩ := id C0
  have hK := hk.1
  have hN := hk.2.1
  intro n
  induction n with
  | zero =>
    intro x2 plc psr pbs pms plv psn k0 k1 k2 k3 hm
    exact absurd hm (Nat.not_lt_zero _)
  | succ n ih =>
    intro x2 plc psr pbs pms plv psn k0 k1 k2 k3 hm hv1 hV H locs hP hD hS ls hl
    refine lv_iload_n hx hb d_SO_findKeys_2 rfl (lv_at hl 2 rfl) ?_
    refine lv_aload_n hx hb d_SO_findKeys_3 rfl (lv_at hl 0 rfl) ?_
    refine va_get (D := D) (ci := 8) (v := .ref aY) (C := R_SO) (T := T_SO) (N := 7) hx hb hT u_SO hown hK hP 0 rfl rfl 1 (by decide) (hT _ k_258) (fun _ h9 => h9) rfl d_SO_findKeys_4 ?_
    refine va_getN (D := D) (ci := 3) (v := .ref aF) (C := R_BS) (T := T_BS) (N := 5) hx hb hT u_BS hown hK hP 1 rfl rfl 2 (by decide) (va_Nw.use rfl (hN ("PipelineBelt$Sorter", 84, "PipelineBelt$Belts", "front", "LPipelineBelt$Belt;", "PipelineBelt") (by decide))) (fun _ h9 => h9) rfl d_SO_findKeys_7 ?_
    refine va_getN (D := D) (ci := 2) (v := .int fcnt) (C := R_BE) (T := T_BE) (N := 3) hx hb hT u_BE hown hK hP 2 rfl rfl 2 (by decide) (va_Nw.use rfl (hN ("PipelineBelt$Sorter", 90, "PipelineBelt$Belt", "count", "I", "PipelineBelt") (by decide))) (fun _ h9 => h9) rfl d_SO_findKeys_10 ?_
    refine lv_icmp_ge (tgt := 62) hx hb d_SO_findKeys_13 (by decide) (fun c_1 => ?_) (fun c_1 => ?_)
    · exact W.vret hx hb hr (fun t ht hW => ⟨⟨(plc, psr, pbs, pms, plv, psn, k0, k1, k2, k3), rfl, (by rw [hV, tw_SO_findKeys_h2, if_pos c_1]; first | done | rfl), by rw [ht]; exact hP, hD⟩, hS.F ht⟩) hS.2.2 d_SO_findKeys_62
    · refine lv_iload_n hx hb d_SO_findKeys_16 rfl (lv_at hl 2 rfl) ?_
      refine lv_sipush (v := 200) hx hb d_SO_findKeys_17 (by decide) ?_
      refine lv_icmp_ge (tgt := 62) hx hb d_SO_findKeys_20 (by decide) (fun c_2 => ?_) (fun c_2 => ?_)
      · exact W.vret hx hb hr (fun t ht hW => ⟨⟨(plc, psr, pbs, pms, plv, psn, k0, k1, k2, k3), rfl, (by rw [hV, tw_SO_findKeys_h2, if_neg c_1, if_pos c_2]; first | done | rfl), by rw [ht]; exact hP, hD⟩, hS.F ht⟩) hS.2.2 d_SO_findKeys_62
      · refine lv_aload_n hx hb d_SO_findKeys_23 rfl (lv_at hl 0 rfl) ?_
        refine va_get (D := D) (ci := 8) (v := .ref aP) (C := R_SO) (T := T_SO) (N := 7) hx hb hT u_SO hown hK hP 0 rfl rfl 2 (by decide) (hT _ k_259) (fun _ h9 => h9) rfl d_SO_findKeys_24 ?_
        refine lv_aload_n hx hb d_SO_findKeys_27 rfl (lv_at hl 0 rfl) ?_
        refine va_get (D := D) (ci := 8) (v := .ref aY) (C := R_SO) (T := T_SO) (N := 7) hx hb hT u_SO hown hK hP 0 rfl rfl 1 (by decide) (hT _ k_258) (fun _ h9 => h9) rfl d_SO_findKeys_28 ?_
        refine lv_iload_n hx hb d_SO_findKeys_31 rfl (lv_at hl 2 rfl) ?_
        refine rd_V (val := tw_BS_document fbase fcnt fsts x2) (As := [.int x2]) (rest := [.ref aP]) ⟨hx, hb, hml, hown, hT⟩ (c_BS_document l D cB cI aY aS aW aF aK aN aFs fbase fcnt fsts x2) (cwV 1 hT (gV_of k_870 k_583 k_584 k_4 kc_BS_document) rfl rfl rfl hd_BS_document ⟨Nat.le_of_ble_eq_true rfl, Nat.le_of_ble_eq_true rfl⟩) hk (hP.sub (ws' := [(aY, .inr (3, [.ref aS, .ref aW, .ref aF, .ref aK, .ref aN])), (aF, .inr (2, [.int fbase, .ref aFs, .int fcnt])), (aFs, .inl (cI, 201, .inl fsts))]) [1, 2, 3] rfl) (q0 := 0) rfl rfl rfl rfl hl.1 rfl (Nat.le_of_ble_eq_true rfl) d_SO_findKeys_32 ⟨Nat.zero_le _, Nat.zero_le _⟩ ?_
        refine mt_Vv (As := [.int (tw_BS_document fbase fcnt fsts x2)]) (rest := []) (wr := [(aZ, .inr (8, [.ref aS, .ref aY, .ref aP, .ref aO, .ref aG, .ref aQ, .int sorts])), (aY, .inr (3, [.ref aS, .ref aW, .ref aF, .ref aK, .ref aN])), (aF, .inr (2, [.int fbase, .ref aFs, .int fcnt])), (aFs, .inl (cI, 201, .inl fsts)), (aO, .inl (cJ, 4, .inr (.inr (.inr (.inr (fun j => if j = 0 then some aR0 else if j = 1 then some aR1 else if j = 2 then some aR2 else some aR3)))))), (aR0, .inl (cI, 200, .inl k0)), (aR1, .inl (cI, 200, .inl k1)), (aR2, .inl (cI, 200, .inl k2)), (aR3, .inl (cI, 200, .inl k3)), (aG, .inl (cI, 4, .inl sg))]) ⟨hx, hb, hml, hown, hT⟩ (c_PA_findLeaves l D cB cI aP aS aV aPs aPe aPi aPh aPl aPn aB pcnt pfix pown b pst pen pix _ plc psr pbs pms plv psn (tw_BS_document fbase fcnt fsts x2)) (cwV 1 hT (gV_of k_871 k_872 k_873 k_7 kc_PA_findLeaves) rfl rfl rfl hd_PA_findLeaves ⟨Nat.le_of_ble_eq_true rfl, Nat.le_of_ble_eq_true rfl⟩) hk hP hD hS hA [6, 4, 5, 7, 8, 9, 10, 11] [0, 1, 2, 3, 12, 13, 14, 15, 16, 17] rfl rfl rfl (by decide) (by decide) (by decide) (q0 := 0) rfl rfl rfl rfl hl.1 rfl (Nat.le_of_ble_eq_true rfl) d_SO_findKeys_35 ⟨Nat.zero_le _, Nat.zero_le _⟩ (fun u_3 H locs hw_3 hP hD hS => ?_)
        obtain ⟨plc_3, psr_3, pbs_3, pms_3, plv_3, psn_3⟩ := u_3
        obtain ⟨hw_3, hi_3⟩ := hw_3
        have hP : va_P D vwCl [(aZ, .inr (8, [.ref aS, .ref aY, .ref aP, .ref aO, .ref aG, .ref aQ, .int sorts])), (aY, .inr (3, [.ref aS, .ref aW, .ref aF, .ref aK, .ref aN])), (aF, .inr (2, [.int fbase, .ref aFs, .int fcnt])), (aFs, .inl (cI, 201, .inl fsts)), (aS, .inr (0, [.ref aB])), (aB, .inl (cB, 202000, .inl (by_ b))), (aP, .inr (5, [.ref aS, .ref aV, .ref aPs, .ref aPe, .ref aPi, .ref aPh, .int pcnt, .int (b2i pfix), .int pown, .ref aPl, .ref aPn, .int plc_3, .int psr_3, .int pbs_3, .int (b2i pms_3)])), (aPs, .inl (cI, 8, .inl pst)), (aPe, .inl (cI, 8, .inl pen)), (aPi, .inl (cI, 8, .inl pix)), (aPl, .inl (cI, 1001, .inl plv_3)), (aPn, .inl (cI, 2000, .inl psn_3)), (aO, .inl (cJ, 4, .inr (.inr (.inr (.inr (fun j => if j = 0 then some aR0 else if j = 1 then some aR1 else if j = 2 then some aR2 else some aR3)))))), (aR0, .inl (cI, 200, .inl k0)), (aR1, .inl (cI, 200, .inl k1)), (aR2, .inl (cI, 200, .inl k2)), (aR3, .inl (cI, 200, .inl k3)), (aG, .inl (cI, 4, .inl sg))] H := hP.sub [0, 1, 2, 3, 11, 12, 10, 13, 14, 15, 16, 17, 4, 5, 6, 7, 8, 9] rfl
        have hD : va_D A [(aZ, .inr (8, [.ref aS, .ref aY, .ref aP, .ref aO, .ref aG, .ref aQ, .int sorts])), (aY, .inr (3, [.ref aS, .ref aW, .ref aF, .ref aK, .ref aN])), (aF, .inr (2, [.int fbase, .ref aFs, .int fcnt])), (aFs, .inl (cI, 201, .inl fsts)), (aS, .inr (0, [.ref aB])), (aB, .inl (cB, 202000, .inl (by_ b))), (aP, .inr (5, [.ref aS, .ref aV, .ref aPs, .ref aPe, .ref aPi, .ref aPh, .int pcnt, .int (b2i pfix), .int pown, .ref aPl, .ref aPn, .int plc_3, .int psr_3, .int pbs_3, .int (b2i pms_3)])), (aPs, .inl (cI, 8, .inl pst)), (aPe, .inl (cI, 8, .inl pen)), (aPi, .inl (cI, 8, .inl pix)), (aPl, .inl (cI, 1001, .inl plv_3)), (aPn, .inl (cI, 2000, .inl psn_3)), (aO, .inl (cJ, 4, .inr (.inr (.inr (.inr (fun j => if j = 0 then some aR0 else if j = 1 then some aR1 else if j = 2 then some aR2 else some aR3)))))), (aR0, .inl (cI, 200, .inl k0)), (aR1, .inl (cI, 200, .inl k1)), (aR2, .inl (cI, 200, .inl k2)), (aR3, .inl (cI, 200, .inl k3)), (aG, .inl (cI, 4, .inl sg))] := hD.sub [0, 1, 2, 3, 11, 12, 10, 13, 14, 15, 16, 17, 4, 5, 6, 7, 8, 9] (by decide) rfl
        refine lv_aload_n hx hb d_SO_findKeys_38 rfl (lv_at hl 0 rfl) ?_
        refine va_get (D := D) (ci := 8) (v := .ref aO) (C := R_SO) (T := T_SO) (N := 7) hx hb hT u_SO hown hK hP 0 rfl rfl 3 (by decide) (hT _ k_260) (fun _ h9 => h9) rfl d_SO_findKeys_39 ?_
        refine lv_iload_n hx hb d_SO_findKeys_42 rfl (lv_at hl 1 rfl) ?_
        by_cases c_4 : p0 = 0
        · refine va_ald4 (r := aR0) hx hb hP 12 rfl (by rw [hcJ]; exact hk.2.2) (in_h4 hp) (by rw [c_4]; rfl) d_SO_findKeys_43 ?_
          refine lv_iload_n hx hb d_SO_findKeys_44 rfl (lv_at hl 2 rfl) ?_
          refine lv_aload_n hx hb d_SO_findKeys_45 rfl (lv_at hl 0 rfl) ?_
          refine lv_aload_n hx hb d_SO_findKeys_46 rfl (lv_at hl 0 rfl) ?_
          refine va_get (D := D) (ci := 8) (v := .ref aG) (C := R_SO) (T := T_SO) (N := 7) hx hb hT u_SO hown hK hP 0 rfl rfl 4 (by decide) (hT _ k_261) (fun _ h9 => h9) rfl d_SO_findKeys_47 ?_
          refine lv_iload_n hx hb d_SO_findKeys_50 rfl (lv_at hl 1 rfl) ?_
          refine va_iald hx hb hK hP 17 1 rfl rfl (in_h4 hp) d_SO_findKeys_51 ?_
          refine rd_V (val := tw_SO_leastLeaf b plc_3 plv_3 (sg p0.toNatClampNeg)) (As := [.int (sg p0.toNatClampNeg)]) (rest := [.int x2, .ref aR0]) ⟨hx, hb, hml, hown, hT⟩ (c_SO_leastLeaf l D cB cI aZ aS aY aP aO aG aQ aB aV aPs aPe aPi aPh aPl aPn sorts b pcnt pfix pown plc_3 psr_3 pbs_3 pms_3 plv_3 (sg p0.toNatClampNeg)) (cwV 1 hT (gV_of k_895 k_897 kp_SO_leastLeaf k_10 kc_SO_leastLeaf) rfl rfl rfl hd_SO_leastLeaf ⟨Nat.le_of_ble_eq_true rfl, Nat.le_of_ble_eq_true rfl⟩) hk (hP.sub (ws' := [(aZ, .inr (8, [.ref aS, .ref aY, .ref aP, .ref aO, .ref aG, .ref aQ, .int sorts])), (aS, .inr (0, [.ref aB])), (aB, .inl (cB, 202000, .inl (by_ b))), (aP, .inr (5, [.ref aS, .ref aV, .ref aPs, .ref aPe, .ref aPi, .ref aPh, .int pcnt, .int (b2i pfix), .int pown, .ref aPl, .ref aPn, .int plc_3, .int psr_3, .int pbs_3, .int (b2i pms_3)])), (aPl, .inl (cI, 1001, .inl plv_3))]) [0, 4, 5, 6, 10] rfl) (q0 := 0) rfl rfl rfl rfl hl.1 rfl (Nat.le_of_ble_eq_true rfl) d_SO_findKeys_52 ⟨Nat.zero_le _, Nat.zero_le _⟩ ?_
          refine va_iast hx hb hK hP hD hS 13 1 rfl rfl (in_nn hv1 c_2 rfl) d_SO_findKeys_55 (fun H locs hP hD hS => ?_)
          have hP : va_P D vwCl [(aZ, .inr (8, [.ref aS, .ref aY, .ref aP, .ref aO, .ref aG, .ref aQ, .int sorts])), (aY, .inr (3, [.ref aS, .ref aW, .ref aF, .ref aK, .ref aN])), (aF, .inr (2, [.int fbase, .ref aFs, .int fcnt])), (aFs, .inl (cI, 201, .inl fsts)), (aS, .inr (0, [.ref aB])), (aB, .inl (cB, 202000, .inl (by_ b))), (aP, .inr (5, [.ref aS, .ref aV, .ref aPs, .ref aPe, .ref aPi, .ref aPh, .int pcnt, .int (b2i pfix), .int pown, .ref aPl, .ref aPn, .int plc_3, .int psr_3, .int pbs_3, .int (b2i pms_3)])), (aPs, .inl (cI, 8, .inl pst)), (aPe, .inl (cI, 8, .inl pen)), (aPi, .inl (cI, 8, .inl pix)), (aPl, .inl (cI, 1001, .inl plv_3)), (aPn, .inl (cI, 2000, .inl psn_3)), (aO, .inl (cJ, 4, .inr (.inr (.inr (.inr (fun j => if j = 0 then some aR0 else if j = 1 then some aR1 else if j = 2 then some aR2 else some aR3)))))), (aR0, .inl (cI, 200, .inl (upd k0 x2.toNatClampNeg (tw_SO_leastLeaf b plc_3 plv_3 (sg p0.toNatClampNeg))))), (aR1, .inl (cI, 200, .inl k1)), (aR2, .inl (cI, 200, .inl k2)), (aR3, .inl (cI, 200, .inl k3)), (aG, .inl (cI, 4, .inl sg))] H := hP
          have hD : va_D A [(aZ, .inr (8, [.ref aS, .ref aY, .ref aP, .ref aO, .ref aG, .ref aQ, .int sorts])), (aY, .inr (3, [.ref aS, .ref aW, .ref aF, .ref aK, .ref aN])), (aF, .inr (2, [.int fbase, .ref aFs, .int fcnt])), (aFs, .inl (cI, 201, .inl fsts)), (aS, .inr (0, [.ref aB])), (aB, .inl (cB, 202000, .inl (by_ b))), (aP, .inr (5, [.ref aS, .ref aV, .ref aPs, .ref aPe, .ref aPi, .ref aPh, .int pcnt, .int (b2i pfix), .int pown, .ref aPl, .ref aPn, .int plc_3, .int psr_3, .int pbs_3, .int (b2i pms_3)])), (aPs, .inl (cI, 8, .inl pst)), (aPe, .inl (cI, 8, .inl pen)), (aPi, .inl (cI, 8, .inl pix)), (aPl, .inl (cI, 1001, .inl plv_3)), (aPn, .inl (cI, 2000, .inl psn_3)), (aO, .inl (cJ, 4, .inr (.inr (.inr (.inr (fun j => if j = 0 then some aR0 else if j = 1 then some aR1 else if j = 2 then some aR2 else some aR3)))))), (aR0, .inl (cI, 200, .inl (upd k0 x2.toNatClampNeg (tw_SO_leastLeaf b plc_3 plv_3 (sg p0.toNatClampNeg))))), (aR1, .inl (cI, 200, .inl k1)), (aR2, .inl (cI, 200, .inl k2)), (aR3, .inl (cI, 200, .inl k3)), (aG, .inl (cI, 4, .inl sg))] := hD
          refine lv_iinc (v := x2 + 1) (lv' := [(2, .int (x2 + 1)), (0, .ref aZ), (1, .int p0)]) hx hb d_SO_findKeys_56 hl (k := 2) rfl rfl (by decide) rfl (fun ls hl => ?_)
          refine lv_goto (tgt := 2) hx hb d_SO_findKeys_59 (by decide) ?_
          exact ih (x2 + 1) plc_3 psr_3 pbs_3 pms_3 plv_3 psn_3 (upd k0 x2.toNatClampNeg (tw_SO_leastLeaf b plc_3 plv_3 (sg p0.toNatClampNeg))) k1 k2 k3 (lp_up hm c_2) (i_upn hv1 c_2) (by rw [hV, tw_SO_findKeys_h2, if_neg c_1, if_neg c_2, ← hw_3, tp6_mk, if_pos c_4]) _ _ hP hD hS ls (lv_sub hl [1, 2, 0] rfl)
        by_cases c_5 : p0 = 1
        · refine va_ald4 (r := aR1) hx hb hP 12 rfl (by rw [hcJ]; exact hk.2.2) (in_h4 hp) (by rw [c_5]; rfl) d_SO_findKeys_43 ?_
          refine lv_iload_n hx hb d_SO_findKeys_44 rfl (lv_at hl 2 rfl) ?_
          refine lv_aload_n hx hb d_SO_findKeys_45 rfl (lv_at hl 0 rfl) ?_
          refine lv_aload_n hx hb d_SO_findKeys_46 rfl (lv_at hl 0 rfl) ?_
          refine va_get (D := D) (ci := 8) (v := .ref aG) (C := R_SO) (T := T_SO) (N := 7) hx hb hT u_SO hown hK hP 0 rfl rfl 4 (by decide) (hT _ k_261) (fun _ h9 => h9) rfl d_SO_findKeys_47 ?_
          refine lv_iload_n hx hb d_SO_findKeys_50 rfl (lv_at hl 1 rfl) ?_
          refine va_iald hx hb hK hP 17 1 rfl rfl (in_h4 hp) d_SO_findKeys_51 ?_
          refine rd_V (val := tw_SO_leastLeaf b plc_3 plv_3 (sg p0.toNatClampNeg)) (As := [.int (sg p0.toNatClampNeg)]) (rest := [.int x2, .ref aR1]) ⟨hx, hb, hml, hown, hT⟩ (c_SO_leastLeaf l D cB cI aZ aS aY aP aO aG aQ aB aV aPs aPe aPi aPh aPl aPn sorts b pcnt pfix pown plc_3 psr_3 pbs_3 pms_3 plv_3 (sg p0.toNatClampNeg)) (cwV 1 hT (gV_of k_895 k_897 kp_SO_leastLeaf k_10 kc_SO_leastLeaf) rfl rfl rfl hd_SO_leastLeaf ⟨Nat.le_of_ble_eq_true rfl, Nat.le_of_ble_eq_true rfl⟩) hk (hP.sub (ws' := [(aZ, .inr (8, [.ref aS, .ref aY, .ref aP, .ref aO, .ref aG, .ref aQ, .int sorts])), (aS, .inr (0, [.ref aB])), (aB, .inl (cB, 202000, .inl (by_ b))), (aP, .inr (5, [.ref aS, .ref aV, .ref aPs, .ref aPe, .ref aPi, .ref aPh, .int pcnt, .int (b2i pfix), .int pown, .ref aPl, .ref aPn, .int plc_3, .int psr_3, .int pbs_3, .int (b2i pms_3)])), (aPl, .inl (cI, 1001, .inl plv_3))]) [0, 4, 5, 6, 10] rfl) (q0 := 0) rfl rfl rfl rfl hl.1 rfl (Nat.le_of_ble_eq_true rfl) d_SO_findKeys_52 ⟨Nat.zero_le _, Nat.zero_le _⟩ ?_
          refine va_iast hx hb hK hP hD hS 14 1 rfl rfl (in_nn hv1 c_2 rfl) d_SO_findKeys_55 (fun H locs hP hD hS => ?_)
          have hP : va_P D vwCl [(aZ, .inr (8, [.ref aS, .ref aY, .ref aP, .ref aO, .ref aG, .ref aQ, .int sorts])), (aY, .inr (3, [.ref aS, .ref aW, .ref aF, .ref aK, .ref aN])), (aF, .inr (2, [.int fbase, .ref aFs, .int fcnt])), (aFs, .inl (cI, 201, .inl fsts)), (aS, .inr (0, [.ref aB])), (aB, .inl (cB, 202000, .inl (by_ b))), (aP, .inr (5, [.ref aS, .ref aV, .ref aPs, .ref aPe, .ref aPi, .ref aPh, .int pcnt, .int (b2i pfix), .int pown, .ref aPl, .ref aPn, .int plc_3, .int psr_3, .int pbs_3, .int (b2i pms_3)])), (aPs, .inl (cI, 8, .inl pst)), (aPe, .inl (cI, 8, .inl pen)), (aPi, .inl (cI, 8, .inl pix)), (aPl, .inl (cI, 1001, .inl plv_3)), (aPn, .inl (cI, 2000, .inl psn_3)), (aO, .inl (cJ, 4, .inr (.inr (.inr (.inr (fun j => if j = 0 then some aR0 else if j = 1 then some aR1 else if j = 2 then some aR2 else some aR3)))))), (aR0, .inl (cI, 200, .inl k0)), (aR1, .inl (cI, 200, .inl (upd k1 x2.toNatClampNeg (tw_SO_leastLeaf b plc_3 plv_3 (sg p0.toNatClampNeg))))), (aR2, .inl (cI, 200, .inl k2)), (aR3, .inl (cI, 200, .inl k3)), (aG, .inl (cI, 4, .inl sg))] H := hP
          have hD : va_D A [(aZ, .inr (8, [.ref aS, .ref aY, .ref aP, .ref aO, .ref aG, .ref aQ, .int sorts])), (aY, .inr (3, [.ref aS, .ref aW, .ref aF, .ref aK, .ref aN])), (aF, .inr (2, [.int fbase, .ref aFs, .int fcnt])), (aFs, .inl (cI, 201, .inl fsts)), (aS, .inr (0, [.ref aB])), (aB, .inl (cB, 202000, .inl (by_ b))), (aP, .inr (5, [.ref aS, .ref aV, .ref aPs, .ref aPe, .ref aPi, .ref aPh, .int pcnt, .int (b2i pfix), .int pown, .ref aPl, .ref aPn, .int plc_3, .int psr_3, .int pbs_3, .int (b2i pms_3)])), (aPs, .inl (cI, 8, .inl pst)), (aPe, .inl (cI, 8, .inl pen)), (aPi, .inl (cI, 8, .inl pix)), (aPl, .inl (cI, 1001, .inl plv_3)), (aPn, .inl (cI, 2000, .inl psn_3)), (aO, .inl (cJ, 4, .inr (.inr (.inr (.inr (fun j => if j = 0 then some aR0 else if j = 1 then some aR1 else if j = 2 then some aR2 else some aR3)))))), (aR0, .inl (cI, 200, .inl k0)), (aR1, .inl (cI, 200, .inl (upd k1 x2.toNatClampNeg (tw_SO_leastLeaf b plc_3 plv_3 (sg p0.toNatClampNeg))))), (aR2, .inl (cI, 200, .inl k2)), (aR3, .inl (cI, 200, .inl k3)), (aG, .inl (cI, 4, .inl sg))] := hD
          refine lv_iinc (v := x2 + 1) (lv' := [(2, .int (x2 + 1)), (0, .ref aZ), (1, .int p0)]) hx hb d_SO_findKeys_56 hl (k := 2) rfl rfl (by decide) rfl (fun ls hl => ?_)
          refine lv_goto (tgt := 2) hx hb d_SO_findKeys_59 (by decide) ?_
          exact ih (x2 + 1) plc_3 psr_3 pbs_3 pms_3 plv_3 psn_3 k0 (upd k1 x2.toNatClampNeg (tw_SO_leastLeaf b plc_3 plv_3 (sg p0.toNatClampNeg))) k2 k3 (lp_up hm c_2) (i_upn hv1 c_2) (by rw [hV, tw_SO_findKeys_h2, if_neg c_1, if_neg c_2, ← hw_3, tp6_mk, if_neg c_4, if_pos c_5]) _ _ hP hD hS ls (lv_sub hl [1, 2, 0] rfl)
        by_cases c_6 : p0 = 2
        · refine va_ald4 (r := aR2) hx hb hP 12 rfl (by rw [hcJ]; exact hk.2.2) (in_h4 hp) (by rw [c_6]; rfl) d_SO_findKeys_43 ?_
          refine lv_iload_n hx hb d_SO_findKeys_44 rfl (lv_at hl 2 rfl) ?_
          refine lv_aload_n hx hb d_SO_findKeys_45 rfl (lv_at hl 0 rfl) ?_
          refine lv_aload_n hx hb d_SO_findKeys_46 rfl (lv_at hl 0 rfl) ?_
          refine va_get (D := D) (ci := 8) (v := .ref aG) (C := R_SO) (T := T_SO) (N := 7) hx hb hT u_SO hown hK hP 0 rfl rfl 4 (by decide) (hT _ k_261) (fun _ h9 => h9) rfl d_SO_findKeys_47 ?_
          refine lv_iload_n hx hb d_SO_findKeys_50 rfl (lv_at hl 1 rfl) ?_
          refine va_iald hx hb hK hP 17 1 rfl rfl (in_h4 hp) d_SO_findKeys_51 ?_
          refine rd_V (val := tw_SO_leastLeaf b plc_3 plv_3 (sg p0.toNatClampNeg)) (As := [.int (sg p0.toNatClampNeg)]) (rest := [.int x2, .ref aR2]) ⟨hx, hb, hml, hown, hT⟩ (c_SO_leastLeaf l D cB cI aZ aS aY aP aO aG aQ aB aV aPs aPe aPi aPh aPl aPn sorts b pcnt pfix pown plc_3 psr_3 pbs_3 pms_3 plv_3 (sg p0.toNatClampNeg)) (cwV 1 hT (gV_of k_895 k_897 kp_SO_leastLeaf k_10 kc_SO_leastLeaf) rfl rfl rfl hd_SO_leastLeaf ⟨Nat.le_of_ble_eq_true rfl, Nat.le_of_ble_eq_true rfl⟩) hk (hP.sub (ws' := [(aZ, .inr (8, [.ref aS, .ref aY, .ref aP, .ref aO, .ref aG, .ref aQ, .int sorts])), (aS, .inr (0, [.ref aB])), (aB, .inl (cB, 202000, .inl (by_ b))), (aP, .inr (5, [.ref aS, .ref aV, .ref aPs, .ref aPe, .ref aPi, .ref aPh, .int pcnt, .int (b2i pfix), .int pown, .ref aPl, .ref aPn, .int plc_3, .int psr_3, .int pbs_3, .int (b2i pms_3)])), (aPl, .inl (cI, 1001, .inl plv_3))]) [0, 4, 5, 6, 10] rfl) (q0 := 0) rfl rfl rfl rfl hl.1 rfl (Nat.le_of_ble_eq_true rfl) d_SO_findKeys_52 ⟨Nat.zero_le _, Nat.zero_le _⟩ ?_
          refine va_iast hx hb hK hP hD hS 15 1 rfl rfl (in_nn hv1 c_2 rfl) d_SO_findKeys_55 (fun H locs hP hD hS => ?_)
          have hP : va_P D vwCl [(aZ, .inr (8, [.ref aS, .ref aY, .ref aP, .ref aO, .ref aG, .ref aQ, .int sorts])), (aY, .inr (3, [.ref aS, .ref aW, .ref aF, .ref aK, .ref aN])), (aF, .inr (2, [.int fbase, .ref aFs, .int fcnt])), (aFs, .inl (cI, 201, .inl fsts)), (aS, .inr (0, [.ref aB])), (aB, .inl (cB, 202000, .inl (by_ b))), (aP, .inr (5, [.ref aS, .ref aV, .ref aPs, .ref aPe, .ref aPi, .ref aPh, .int pcnt, .int (b2i pfix), .int pown, .ref aPl, .ref aPn, .int plc_3, .int psr_3, .int pbs_3, .int (b2i pms_3)])), (aPs, .inl (cI, 8, .inl pst)), (aPe, .inl (cI, 8, .inl pen)), (aPi, .inl (cI, 8, .inl pix)), (aPl, .inl (cI, 1001, .inl plv_3)), (aPn, .inl (cI, 2000, .inl psn_3)), (aO, .inl (cJ, 4, .inr (.inr (.inr (.inr (fun j => if j = 0 then some aR0 else if j = 1 then some aR1 else if j = 2 then some aR2 else some aR3)))))), (aR0, .inl (cI, 200, .inl k0)), (aR1, .inl (cI, 200, .inl k1)), (aR2, .inl (cI, 200, .inl (upd k2 x2.toNatClampNeg (tw_SO_leastLeaf b plc_3 plv_3 (sg p0.toNatClampNeg))))), (aR3, .inl (cI, 200, .inl k3)), (aG, .inl (cI, 4, .inl sg))] H := hP
          have hD : va_D A [(aZ, .inr (8, [.ref aS, .ref aY, .ref aP, .ref aO, .ref aG, .ref aQ, .int sorts])), (aY, .inr (3, [.ref aS, .ref aW, .ref aF, .ref aK, .ref aN])), (aF, .inr (2, [.int fbase, .ref aFs, .int fcnt])), (aFs, .inl (cI, 201, .inl fsts)), (aS, .inr (0, [.ref aB])), (aB, .inl (cB, 202000, .inl (by_ b))), (aP, .inr (5, [.ref aS, .ref aV, .ref aPs, .ref aPe, .ref aPi, .ref aPh, .int pcnt, .int (b2i pfix), .int pown, .ref aPl, .ref aPn, .int plc_3, .int psr_3, .int pbs_3, .int (b2i pms_3)])), (aPs, .inl (cI, 8, .inl pst)), (aPe, .inl (cI, 8, .inl pen)), (aPi, .inl (cI, 8, .inl pix)), (aPl, .inl (cI, 1001, .inl plv_3)), (aPn, .inl (cI, 2000, .inl psn_3)), (aO, .inl (cJ, 4, .inr (.inr (.inr (.inr (fun j => if j = 0 then some aR0 else if j = 1 then some aR1 else if j = 2 then some aR2 else some aR3)))))), (aR0, .inl (cI, 200, .inl k0)), (aR1, .inl (cI, 200, .inl k1)), (aR2, .inl (cI, 200, .inl (upd k2 x2.toNatClampNeg (tw_SO_leastLeaf b plc_3 plv_3 (sg p0.toNatClampNeg))))), (aR3, .inl (cI, 200, .inl k3)), (aG, .inl (cI, 4, .inl sg))] := hD
          refine lv_iinc (v := x2 + 1) (lv' := [(2, .int (x2 + 1)), (0, .ref aZ), (1, .int p0)]) hx hb d_SO_findKeys_56 hl (k := 2) rfl rfl (by decide) rfl (fun ls hl => ?_)
          refine lv_goto (tgt := 2) hx hb d_SO_findKeys_59 (by decide) ?_
          exact ih (x2 + 1) plc_3 psr_3 pbs_3 pms_3 plv_3 psn_3 k0 k1 (upd k2 x2.toNatClampNeg (tw_SO_leastLeaf b plc_3 plv_3 (sg p0.toNatClampNeg))) k3 (lp_up hm c_2) (i_upn hv1 c_2) (by rw [hV, tw_SO_findKeys_h2, if_neg c_1, if_neg c_2, ← hw_3, tp6_mk, if_neg c_4, if_neg c_5, if_pos c_6]) _ _ hP hD hS ls (lv_sub hl [1, 2, 0] rfl)
        have c_7 : p0 = 3 := r4_last (in_h4 hp) c_4 c_5 c_6
        refine va_ald4 (r := aR3) hx hb hP 12 rfl (by rw [hcJ]; exact hk.2.2) (in_h4 hp) (by rw [c_7]; rfl) d_SO_findKeys_43 ?_
        refine lv_iload_n hx hb d_SO_findKeys_44 rfl (lv_at hl 2 rfl) ?_
        refine lv_aload_n hx hb d_SO_findKeys_45 rfl (lv_at hl 0 rfl) ?_
        refine lv_aload_n hx hb d_SO_findKeys_46 rfl (lv_at hl 0 rfl) ?_
        refine va_get (D := D) (ci := 8) (v := .ref aG) (C := R_SO) (T := T_SO) (N := 7) hx hb hT u_SO hown hK hP 0 rfl rfl 4 (by decide) (hT _ k_261) (fun _ h9 => h9) rfl d_SO_findKeys_47 ?_
        refine lv_iload_n hx hb d_SO_findKeys_50 rfl (lv_at hl 1 rfl) ?_
        refine va_iald hx hb hK hP 17 1 rfl rfl (in_h4 hp) d_SO_findKeys_51 ?_
        refine rd_V (val := tw_SO_leastLeaf b plc_3 plv_3 (sg p0.toNatClampNeg)) (As := [.int (sg p0.toNatClampNeg)]) (rest := [.int x2, .ref aR3]) ⟨hx, hb, hml, hown, hT⟩ (c_SO_leastLeaf l D cB cI aZ aS aY aP aO aG aQ aB aV aPs aPe aPi aPh aPl aPn sorts b pcnt pfix pown plc_3 psr_3 pbs_3 pms_3 plv_3 (sg p0.toNatClampNeg)) (cwV 1 hT (gV_of k_895 k_897 kp_SO_leastLeaf k_10 kc_SO_leastLeaf) rfl rfl rfl hd_SO_leastLeaf ⟨Nat.le_of_ble_eq_true rfl, Nat.le_of_ble_eq_true rfl⟩) hk (hP.sub (ws' := [(aZ, .inr (8, [.ref aS, .ref aY, .ref aP, .ref aO, .ref aG, .ref aQ, .int sorts])), (aS, .inr (0, [.ref aB])), (aB, .inl (cB, 202000, .inl (by_ b))), (aP, .inr (5, [.ref aS, .ref aV, .ref aPs, .ref aPe, .ref aPi, .ref aPh, .int pcnt, .int (b2i pfix), .int pown, .ref aPl, .ref aPn, .int plc_3, .int psr_3, .int pbs_3, .int (b2i pms_3)])), (aPl, .inl (cI, 1001, .inl plv_3))]) [0, 4, 5, 6, 10] rfl) (q0 := 0) rfl rfl rfl rfl hl.1 rfl (Nat.le_of_ble_eq_true rfl) d_SO_findKeys_52 ⟨Nat.zero_le _, Nat.zero_le _⟩ ?_
        refine va_iast hx hb hK hP hD hS 16 1 rfl rfl (in_nn hv1 c_2 rfl) d_SO_findKeys_55 (fun H locs hP hD hS => ?_)
        have hP : va_P D vwCl [(aZ, .inr (8, [.ref aS, .ref aY, .ref aP, .ref aO, .ref aG, .ref aQ, .int sorts])), (aY, .inr (3, [.ref aS, .ref aW, .ref aF, .ref aK, .ref aN])), (aF, .inr (2, [.int fbase, .ref aFs, .int fcnt])), (aFs, .inl (cI, 201, .inl fsts)), (aS, .inr (0, [.ref aB])), (aB, .inl (cB, 202000, .inl (by_ b))), (aP, .inr (5, [.ref aS, .ref aV, .ref aPs, .ref aPe, .ref aPi, .ref aPh, .int pcnt, .int (b2i pfix), .int pown, .ref aPl, .ref aPn, .int plc_3, .int psr_3, .int pbs_3, .int (b2i pms_3)])), (aPs, .inl (cI, 8, .inl pst)), (aPe, .inl (cI, 8, .inl pen)), (aPi, .inl (cI, 8, .inl pix)), (aPl, .inl (cI, 1001, .inl plv_3)), (aPn, .inl (cI, 2000, .inl psn_3)), (aO, .inl (cJ, 4, .inr (.inr (.inr (.inr (fun j => if j = 0 then some aR0 else if j = 1 then some aR1 else if j = 2 then some aR2 else some aR3)))))), (aR0, .inl (cI, 200, .inl k0)), (aR1, .inl (cI, 200, .inl k1)), (aR2, .inl (cI, 200, .inl k2)), (aR3, .inl (cI, 200, .inl (upd k3 x2.toNatClampNeg (tw_SO_leastLeaf b plc_3 plv_3 (sg p0.toNatClampNeg))))), (aG, .inl (cI, 4, .inl sg))] H := hP
        have hD : va_D A [(aZ, .inr (8, [.ref aS, .ref aY, .ref aP, .ref aO, .ref aG, .ref aQ, .int sorts])), (aY, .inr (3, [.ref aS, .ref aW, .ref aF, .ref aK, .ref aN])), (aF, .inr (2, [.int fbase, .ref aFs, .int fcnt])), (aFs, .inl (cI, 201, .inl fsts)), (aS, .inr (0, [.ref aB])), (aB, .inl (cB, 202000, .inl (by_ b))), (aP, .inr (5, [.ref aS, .ref aV, .ref aPs, .ref aPe, .ref aPi, .ref aPh, .int pcnt, .int (b2i pfix), .int pown, .ref aPl, .ref aPn, .int plc_3, .int psr_3, .int pbs_3, .int (b2i pms_3)])), (aPs, .inl (cI, 8, .inl pst)), (aPe, .inl (cI, 8, .inl pen)), (aPi, .inl (cI, 8, .inl pix)), (aPl, .inl (cI, 1001, .inl plv_3)), (aPn, .inl (cI, 2000, .inl psn_3)), (aO, .inl (cJ, 4, .inr (.inr (.inr (.inr (fun j => if j = 0 then some aR0 else if j = 1 then some aR1 else if j = 2 then some aR2 else some aR3)))))), (aR0, .inl (cI, 200, .inl k0)), (aR1, .inl (cI, 200, .inl k1)), (aR2, .inl (cI, 200, .inl k2)), (aR3, .inl (cI, 200, .inl (upd k3 x2.toNatClampNeg (tw_SO_leastLeaf b plc_3 plv_3 (sg p0.toNatClampNeg))))), (aG, .inl (cI, 4, .inl sg))] := hD
        refine lv_iinc (v := x2 + 1) (lv' := [(2, .int (x2 + 1)), (0, .ref aZ), (1, .int p0)]) hx hb d_SO_findKeys_56 hl (k := 2) rfl rfl (by decide) rfl (fun ls hl => ?_)
        refine lv_goto (tgt := 2) hx hb d_SO_findKeys_59 (by decide) ?_
        exact ih (x2 + 1) plc_3 psr_3 pbs_3 pms_3 plv_3 psn_3 k0 k1 k2 (upd k3 x2.toNatClampNeg (tw_SO_leastLeaf b plc_3 plv_3 (sg p0.toNatClampNeg))) (lp_up hm c_2) (i_upn hv1 c_2) (by rw [hV, tw_SO_findKeys_h2, if_neg c_1, if_neg c_2, ← hw_3, tp6_mk, if_neg c_4, if_neg c_5, if_neg c_6]) _ _ hP hD hS ls (lv_sub hl [1, 2, 0] rfl)
set_option maxHeartbeats 4000000 in
set_option maxRecDepth 100000 in
theorem c_SO_findKeys (l : Launch) (D : va_G) (cB cI : ClassId) (aZ aS aY aP aO aG aQ aW aF aK aN aFs aB aV aPs aPe aPi aPh aPl aPn aR0 aR1 aR2 aR3 : Nat) (cJ : ClassId) (fbase : Int32) (sorts : Int32) (fcnt : Int32) (fsts : Nat → Int32) (b : Nat → UInt8) (pcnt : Int32) (pfix : Bool) (pown : Int32) (pst : Nat → Int32) (pen : Nat → Int32) (pix : Nat → Int32) (sg : Nat → Int32) (sz : Nat) (plc : Int32) (psr : Int32) (pbs : Int32) (pms : Bool) (plv : Nat → Int32) (psn : Nat → Int32) (k0 : Nat → Int32) (k1 : Nat → Int32) (k2 : Nat → Int32) (k3 : Nat → Int32) (p0 : Int32) (hcJ : cJ = D.1 100) (hp : 0 ≤ p0.toInt ∧ p0.toInt < 4) : Met l y_SO_findKeys mw_SO_findKeys { frames := 417, cells := 0, slots := 0, locals := 10008 } (va_Pc [.ref aZ, .int p0] (mt_P D cB cI (wd_SO_findKeys aZ aS aY aP aO aG aQ aW aF aK aN aFs aB aV aPs aPe aPi aPh aPl aPn aR0 aR1 aR2 aR3 cB cI cJ fbase sorts fcnt fsts b pcnt pfix pown pst pen pix sg plc psr pbs pms plv psn k0 k1 k2 k3) sz)) (va_Qv (fun (u : Int32 × Int32 × Int32 × Bool × (Nat → Int32) × (Nat → Int32) × (Nat → Int32) × (Nat → Int32) × (Nat → Int32) × (Nat → Int32)) => u = tw_SO_findKeys fbase fcnt fsts b pcnt pst pen pix sg plc psr pbs pms plv psn k0 k1 k2 k3 p0) (mt_B D (va_A (wd_SO_findKeys aZ aS aY aP aO aG aQ aW aF aK aN aFs aB aV aPs aPe aPi aPh aPl aPn aR0 aR1 aR2 aR3 cB cI cJ fbase sorts fcnt fsts b pcnt pfix pown pst pen pix sg plc psr pbs pms plv psn k0 k1 k2 k3) sz) (fun u => wd_SO_findKeys aZ aS aY aP aO aG aQ aW aF aK aN aFs aB aV aPs aPe aPi aPh aPl aPn aR0 aR1 aR2 aR3 cB cI cJ fbase sorts fcnt fsts b pcnt pfix pown pst pen pix sg u.1 u.2.1 u.2.2.1 u.2.2.2.1 u.2.2.2.2.1 u.2.2.2.2.2.1 u.2.2.2.2.2.2.1 u.2.2.2.2.2.2.2.1 u.2.2.2.2.2.2.2.2.1 u.2.2.2.2.2.2.2.2.2)) (va_A (wd_SO_findKeys aZ aS aY aP aO aG aQ aW aF aK aN aFs aB aV aPs aPe aPi aPh aPl aPn aR0 aR1 aR2 aR3 cB cI cJ fbase sorts fcnt fsts b pcnt pfix pown pst pen pix sg plc psr pbs pms plv psn k0 k1 k2 k3) sz)) 0 0 (va_A (wd_SO_findKeys aZ aS aY aP aO aG aQ aW aF aK aN aFs aB aV aPs aPe aPi aPh aPl aPn aR0 aR1 aR2 aR3 cB cI cJ fbase sorts fcnt fsts b pcnt pfix pown pst pen pix sg plc psr pbs pms plv psn k0 k1 k2 k3) sz) := by
  refine Met.ofW (cc := b_SO_findKeys) (maxL := 3) (ret := none) (by decide) rfl ?_
  intro p e s m args below meth c s₁ B0 hml hv
  obtain ⟨rfl, hsz, hP, hk, hD0⟩ := hv
  have hK := hk.1
  have hN := hk.2.1
  have hx := B0.exec
  have hb := B0.bytes
  have hr := B0.returns
  have hT : ∀ w ∈ lw_g, w.before _ s = true := fun w h => atoms_spec (ws := mw_SO_findKeys) B0.pre w (List.mem_cons_of_mem _ h)
  have hown : s.vm.findClass R_SO = some m.cls := findClass_of_methodNamed B0.named
  have hlocks := B0.notSynchronized
  subst hsz
  have hD := hD0.self (sz := s.heap.size)
  generalize hAe : va_A [(aZ, .inr (8, [.ref aS, .ref aY, .ref aP, .ref aO, .ref aG, .ref aQ, .int sorts])), (aY, .inr (3, [.ref aS, .ref aW, .ref aF, .ref aK, .ref aN])), (aF, .inr (2, [.int fbase, .ref aFs, .int fcnt])), (aFs, .inl (cI, 201, .inl fsts)), (aS, .inr (0, [.ref aB])), (aB, .inl (cB, 202000, .inl (by_ b))), (aP, .inr (5, [.ref aS, .ref aV, .ref aPs, .ref aPe, .ref aPi, .ref aPh, .int pcnt, .int (b2i pfix), .int pown, .ref aPl, .ref aPn, .int plc, .int psr, .int pbs, .int (b2i pms)])), (aPs, .inl (cI, 8, .inl pst)), (aPe, .inl (cI, 8, .inl pen)), (aPi, .inl (cI, 8, .inl pix)), (aPl, .inl (cI, 1001, .inl plv)), (aPn, .inl (cI, 2000, .inl psn)), (aO, .inl (cJ, 4, .inr (.inr (.inr (.inr (fun j => if j = 0 then some aR0 else if j = 1 then some aR1 else if j = 2 then some aR2 else some aR3)))))), (aR0, .inl (cI, 200, .inl k0)), (aR1, .inl (cI, 200, .inl k1)), (aR2, .inl (cI, 200, .inl k2)), (aR3, .inl (cI, 200, .inl k3)), (aG, .inl (cI, 4, .inl sg))] s.heap.size = A at hD ⊢
  have hA : ∀ q : Nat, s.heap.size ≤ q → A q := fun q h => by rw [← hAe]; exact Or.inr h
  have hS : va_S A s.heap s.heap [] := va_S.rf
  have hl := lv_entry ([.ref aZ, .int p0]) (n := 3) (Nat.le_of_ble_eq_true rfl)
  rw [lg_entry_eq]
  generalize (lg_sl ([.ref aZ, .int p0]) ++ List.replicate (3 - (lg_sl ([.ref aZ, .int p0])).length) Slot.unset).toArray = ls at hl ⊢
  have hl : lv_has ls 3 [(0, .ref aZ), (1, .int p0)] := hl
  have C0 : lc_C p s m meth c _ b_SO_findKeys 3 none R_SO lw_g := ⟨hx, hb, hml, hr, hown, hlocks, hT⟩
  refine lv_iconst (v := 0) hx hb d_SO_findKeys_0 (by decide) ?_
  refine lv_istore_n (lv' := [(2, .int 0), (0, .ref aZ), (1, .int p0)]) hx hb d_SO_findKeys_1 rfl hl (by decide) rfl (fun ls hl => ?_)
  exact l_SO_findKeys_h2 C0 l D cB cI aZ aS aY aP aO aG aQ aW aF aK aN aFs aB aV aPs aPe aPi aPh aPl aPn aR0 aR1 aR2 aR3 cJ fbase sorts fcnt fsts b pcnt pfix pown pst pen pix sg hk hA p0 hcJ hp ((((200 : Int32).toInt - (0 : Int32).toInt).toNat) + 1) 0 plc psr pbs pms plv psn k0 k1 k2 k3 (Nat.lt_succ_self _) (by decide) (by rw [tw_SO_findKeys]) _ _ hP hD hS ls (lv_sub hl [1, 2, 0] rfl)
