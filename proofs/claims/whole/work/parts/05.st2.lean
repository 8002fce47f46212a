/-! printed by wip/gen -/
theorem kc_JM_min : Cond.code Lib.Math.min.name Lib.Math.min.code 2 (some .int) ∈ lw_g := lw_gm (by decide +kernel) rfl
theorem kc_JM_max : Cond.code Lib.Math.max.name Lib.Math.max.code 2 (some .int) ∈ lw_g := lw_gm (by decide +kernel) rfl
theorem k_2 : (Jvm.Cond.initialized "PipelineBelt$Store") ∈ lw_g := lw_gm (List.mem_append_right _ (List.mem_of_getElem? (i := 2) (by decide +kernel))) rfl
theorem k_13 : (Jvm.Cond.initialized "java/lang/Math") ∈ lw_g := lw_gm (List.mem_append_right _ (List.mem_of_getElem? (i := 13) (by decide +kernel))) rfl
theorem k_14 : (Jvm.Cond.initialized "java/lang/Integer") ∈ lw_g := lw_gm (List.mem_append_right _ (List.mem_of_getElem? (i := 14) (by decide +kernel))) rfl
theorem k_370 : (Jvm.Cond.instanceMethod ({ cls := "PipelineBelt$Store", name := "int32", desc := "(I)I" } : Jvm.MethodName)) ∈ lw_g := lw_gm (List.mem_append_right _ (List.mem_of_getElem? (i := 370) (by decide +kernel))) rfl
theorem k_371 : (Jvm.Cond.selects "PipelineBelt$Store" ({ cls := "PipelineBelt$Store", name := "int32", desc := "(I)I" } : Jvm.MethodName) ({ cls := "PipelineBelt$Store", name := "int32", desc := "(I)I" } : Jvm.MethodName)) ∈ lw_g := lw_gm (List.mem_append_right _ (List.mem_of_getElem? (i := 371) (by decide +kernel))) rfl
theorem k_378 : (Jvm.Cond.instanceMethod ({ cls := "PipelineBelt$Store", name := "at", desc := "(I)I" } : Jvm.MethodName)) ∈ lw_g := lw_gm (List.mem_append_right _ (List.mem_of_getElem? (i := 378) (by decide +kernel))) rfl
theorem k_379 : (Jvm.Cond.selects "PipelineBelt$Store" ({ cls := "PipelineBelt$Store", name := "at", desc := "(I)I" } : Jvm.MethodName) ({ cls := "PipelineBelt$Store", name := "at", desc := "(I)I" } : Jvm.MethodName)) ∈ lw_g := lw_gm (List.mem_append_right _ (List.mem_of_getElem? (i := 379) (by decide +kernel))) rfl
theorem k_385 : (Jvm.Cond.methodLink "PipelineBelt$Store" (44 : Nat) ({ cls := "PipelineBelt$Store", name := "at", desc := "(I)I" } : Jvm.MethodName)) ∈ lw_g := lw_gm (List.mem_append_right _ (List.mem_of_getElem? (i := 385) (by decide +kernel))) rfl
theorem k_399 : (Jvm.Cond.instanceMethod ({ cls := "PipelineBelt$Store", name := "valueOf", desc := "(I)I" } : Jvm.MethodName)) ∈ lw_g := lw_gm (List.mem_append_right _ (List.mem_of_getElem? (i := 399) (by decide +kernel))) rfl
theorem k_400 : (Jvm.Cond.selects "PipelineBelt$Store" ({ cls := "PipelineBelt$Store", name := "valueOf", desc := "(I)I" } : Jvm.MethodName) ({ cls := "PipelineBelt$Store", name := "valueOf", desc := "(I)I" } : Jvm.MethodName)) ∈ lw_g := lw_gm (List.mem_append_right _ (List.mem_of_getElem? (i := 400) (by decide +kernel))) rfl
theorem k_403 : (Jvm.Cond.static ({ cls := "PipelineBelt$Store", name := "placeOf", desc := "(I)I" } : Jvm.MethodName)) ∈ lw_g := lw_gm (List.mem_append_right _ (List.mem_of_getElem? (i := 403) (by decide +kernel))) rfl
theorem k_406 : (Jvm.Cond.instanceMethod ({ cls := "PipelineBelt$Store", name := "compareBytes", desc := "(IIII)I" } : Jvm.MethodName)) ∈ lw_g := lw_gm (List.mem_append_right _ (List.mem_of_getElem? (i := 406) (by decide +kernel))) rfl
theorem k_407 : (Jvm.Cond.selects "PipelineBelt$Store" ({ cls := "PipelineBelt$Store", name := "compareBytes", desc := "(IIII)I" } : Jvm.MethodName) ({ cls := "PipelineBelt$Store", name := "compareBytes", desc := "(IIII)I" } : Jvm.MethodName)) ∈ lw_g := lw_gm (List.mem_append_right _ (List.mem_of_getElem? (i := 407) (by decide +kernel))) rfl
theorem k_409 : (Jvm.Cond.methodLink "PipelineBelt$Store" (51 : Nat) ({ cls := "java/lang/Math", name := "min", desc := "(II)I" } : Jvm.MethodName)) ∈ lw_g := lw_gm (List.mem_append_right _ (List.mem_of_getElem? (i := 409) (by decide +kernel))) rfl
theorem k_410 : (Jvm.Cond.static ({ cls := "java/lang/Math", name := "min", desc := "(II)I" } : Jvm.MethodName)) ∈ lw_g := lw_gm (List.mem_append_right _ (List.mem_of_getElem? (i := 410) (by decide +kernel))) rfl
theorem k_412 : (Jvm.Cond.methodLink "PipelineBelt$Store" (57 : Nat) ({ cls := "java/lang/Integer", name := "compare", desc := "(II)I" } : Jvm.MethodName)) ∈ lw_g := lw_gm (List.mem_append_right _ (List.mem_of_getElem? (i := 412) (by decide +kernel))) rfl
theorem k_413 : (Jvm.Cond.static ({ cls := "java/lang/Integer", name := "compare", desc := "(II)I" } : Jvm.MethodName)) ∈ lw_g := lw_gm (List.mem_append_right _ (List.mem_of_getElem? (i := 413) (by decide +kernel))) rfl
theorem k_416 : (Jvm.Cond.instanceMethod ({ cls := "PipelineBelt$Store", name := "endOf", desc := "(I)I" } : Jvm.MethodName)) ∈ lw_g := lw_gm (List.mem_append_right _ (List.mem_of_getElem? (i := 416) (by decide +kernel))) rfl
theorem k_417 : (Jvm.Cond.selects "PipelineBelt$Store" ({ cls := "PipelineBelt$Store", name := "endOf", desc := "(I)I" } : Jvm.MethodName) ({ cls := "PipelineBelt$Store", name := "endOf", desc := "(I)I" } : Jvm.MethodName)) ∈ lw_g := lw_gm (List.mem_append_right _ (List.mem_of_getElem? (i := 417) (by decide +kernel))) rfl
theorem k_483 : (Jvm.Cond.methodLink "PipelineBelt$Store" (28 : Nat) ({ cls := "PipelineBelt$Store", name := "endOf", desc := "(I)I" } : Jvm.MethodName)) ∈ lw_g := lw_gm (List.mem_append_right _ (List.mem_of_getElem? (i := 483) (by decide +kernel))) rfl
theorem k_484 : (Jvm.Cond.methodLink "PipelineBelt$Store" (16 : Nat) ({ cls := "PipelineBelt$Store", name := "placeOf", desc := "(I)I" } : Jvm.MethodName)) ∈ lw_g := lw_gm (List.mem_append_right _ (List.mem_of_getElem? (i := 484) (by decide +kernel))) rfl
theorem k_485 : (Jvm.Cond.methodLink "PipelineBelt$Store" (31 : Nat) ({ cls := "PipelineBelt$Store", name := "valueOf", desc := "(I)I" } : Jvm.MethodName)) ∈ lw_g := lw_gm (List.mem_append_right _ (List.mem_of_getElem? (i := 485) (by decide +kernel))) rfl
theorem k_555 : (Jvm.Cond.static ({ cls := "PipelineBelt$Store", name := "kindOf", desc := "(I)I" } : Jvm.MethodName)) ∈ lw_g := lw_gm (List.mem_append_right _ (List.mem_of_getElem? (i := 555) (by decide +kernel))) rfl
theorem k_614 : (Jvm.Cond.methodLink "PipelineBelt$Store" (34 : Nat) ({ cls := "PipelineBelt$Store", name := "compareBytes", desc := "(IIII)I" } : Jvm.MethodName)) ∈ lw_g := lw_gm (List.mem_append_right _ (List.mem_of_getElem? (i := 614) (by decide +kernel))) rfl
theorem k_667 : (Jvm.Cond.methodLink "PipelineBelt$Store" (23 : Nat) ({ cls := "PipelineBelt$Store", name := "kindOf", desc := "(I)I" } : Jvm.MethodName)) ∈ lw_g := lw_gm (List.mem_append_right _ (List.mem_of_getElem? (i := 667) (by decide +kernel))) rfl
theorem k_764 : (Jvm.Cond.methodLink "PipelineBelt$Store" (20 : Nat) ({ cls := "PipelineBelt$Store", name := "int32", desc := "(I)I" } : Jvm.MethodName)) ∈ lw_g := lw_gm (List.mem_append_right _ (List.mem_of_getElem? (i := 764) (by decide +kernel))) rfl
theorem k_765 : (Jvm.Cond.constantLong "PipelineBelt$Store" (26 : Nat) (4294967295 : Int64)) ∈ lw_g := lw_gm (List.mem_append_right _ (List.mem_of_getElem? (i := 765) (by decide +kernel))) rfl
abbrev b_JI_compare : ByteArray := prog_14_method_40_code
def y_JI_compare : MethodName := ⟨R_JI, "compare", "(II)I"⟩
theorem kc_JI_compare : Cond.code y_JI_compare b_JI_compare 2 (some .int) ∈ lw_g := lw_gm (List.mem_append_right _ (List.mem_of_getElem? (i := 414) (by decide +kernel))) rfl
abbrev mw_JI_compare : List Cond := Cond.code y_JI_compare b_JI_compare 2 (some .int) :: lw_g
theorem hd_JI_compare : y_JI_compare.cls ≠ "java/lang/invoke/MethodHandle" ∧ y_JI_compare.cls ≠ "java/lang/invoke/VarHandle" ∧ (parseMethodDescriptor y_JI_compare.desc).map (fun d => d.parameters.length) = some 2 := by decide +kernel
theorem d_JI_compare_0 : decode b_JI_compare 0 = .ok (.iload_n 0, 1) := by decide +kernel
theorem d_JI_compare_1 : decode b_JI_compare 1 = .ok (.iload_n 1, 1) := by decide +kernel
theorem d_JI_compare_2 : decode b_JI_compare 2 = .ok (.if_icmp .ge 7, 3) := by decide +kernel
theorem d_JI_compare_5 : decode b_JI_compare 5 = .ok (.iconst (-1), 1) := by decide +kernel
theorem d_JI_compare_6 : decode b_JI_compare 6 = .ok (.goto 13, 3) := by decide +kernel
theorem d_JI_compare_9 : decode b_JI_compare 9 = .ok (.iload_n 0, 1) := by decide +kernel
theorem d_JI_compare_10 : decode b_JI_compare 10 = .ok (.iload_n 1, 1) := by decide +kernel
theorem d_JI_compare_11 : decode b_JI_compare 11 = .ok (.if_icmp .ne 7, 3) := by decide +kernel
theorem d_JI_compare_14 : decode b_JI_compare 14 = .ok (.iconst 0, 1) := by decide +kernel
theorem d_JI_compare_15 : decode b_JI_compare 15 = .ok (.goto 4, 3) := by decide +kernel
theorem d_JI_compare_18 : decode b_JI_compare 18 = .ok (.iconst 1, 1) := by decide +kernel
theorem d_JI_compare_19 : decode b_JI_compare 19 = .ok (.ireturn, 1) := by decide +kernel
abbrev b_JL_compare : ByteArray := prog_15_method_42_code
def y_JL_compare : MethodName := ⟨R_JL, "compare", "(JJ)I"⟩
theorem kc_JL_compare : Cond.code y_JL_compare b_JL_compare 4 (some .int) ∈ lw_g := lw_gm (List.mem_append_right _ (List.mem_of_getElem? (i := 789) (by decide +kernel))) rfl
abbrev mw_JL_compare : List Cond := Cond.code y_JL_compare b_JL_compare 4 (some .int) :: lw_g
theorem hd_JL_compare : y_JL_compare.cls ≠ "java/lang/invoke/MethodHandle" ∧ y_JL_compare.cls ≠ "java/lang/invoke/VarHandle" ∧ (parseMethodDescriptor y_JL_compare.desc).map (fun d => d.parameters.length) = some 2 := by decide +kernel
theorem d_JL_compare_0 : decode b_JL_compare 0 = .ok (.lload_n 0, 1) := by decide +kernel
theorem d_JL_compare_1 : decode b_JL_compare 1 = .ok (.lload_n 2, 1) := by decide +kernel
theorem d_JL_compare_2 : decode b_JL_compare 2 = .ok (.lcmp, 1) := by decide +kernel
theorem d_JL_compare_3 : decode b_JL_compare 3 = .ok (.ifCond .ge 7, 3) := by decide +kernel
theorem d_JL_compare_6 : decode b_JL_compare 6 = .ok (.iconst (-1), 1) := by decide +kernel
theorem d_JL_compare_7 : decode b_JL_compare 7 = .ok (.goto 14, 3) := by decide +kernel
theorem d_JL_compare_10 : decode b_JL_compare 10 = .ok (.lload_n 0, 1) := by decide +kernel
theorem d_JL_compare_11 : decode b_JL_compare 11 = .ok (.lload_n 2, 1) := by decide +kernel
theorem d_JL_compare_12 : decode b_JL_compare 12 = .ok (.lcmp, 1) := by decide +kernel
theorem d_JL_compare_13 : decode b_JL_compare 13 = .ok (.ifCond .ne 7, 3) := by decide +kernel
theorem d_JL_compare_16 : decode b_JL_compare 16 = .ok (.iconst 0, 1) := by decide +kernel
theorem d_JL_compare_17 : decode b_JL_compare 17 = .ok (.goto 4, 3) := by decide +kernel
theorem d_JL_compare_20 : decode b_JL_compare 20 = .ok (.iconst 1, 1) := by decide +kernel
theorem d_JL_compare_21 : decode b_JL_compare 21 = .ok (.ireturn, 1) := by decide +kernel
abbrev b_ST_int32 : ByteArray := prog_10_method_8_code
def y_ST_int32 : MethodName := ⟨R_ST, "int32", "(I)I"⟩
theorem kc_ST_int32 : Cond.code y_ST_int32 b_ST_int32 2 (some .int) ∈ lw_g := lw_gm (List.mem_append_right _ (List.mem_of_getElem? (i := 372) (by decide +kernel))) rfl
abbrev mw_ST_int32 : List Cond := Cond.code y_ST_int32 b_ST_int32 2 (some .int) :: lw_g
theorem hd_ST_int32 : y_ST_int32.cls = R_ST ∧ y_ST_int32.cls ≠ "java/lang/invoke/MethodHandle" ∧ y_ST_int32.cls ≠ "java/lang/invoke/VarHandle" ∧ (parseMethodDescriptor y_ST_int32.desc).map (fun d => d.parameters.length) = some 1 := by decide +kernel
theorem d_ST_int32_0 : decode b_ST_int32 0 = .ok (.iload_n 1, 1) := by decide +kernel
theorem d_ST_int32_1 : decode b_ST_int32 1 = .ok (.ifCond .lt 14, 3) := by decide +kernel
theorem d_ST_int32_4 : decode b_ST_int32 4 = .ok (.iload_n 1, 1) := by decide +kernel
theorem d_ST_int32_5 : decode b_ST_int32 5 = .ok (.aload_n 0, 1) := by decide +kernel
theorem d_ST_int32_6 : decode b_ST_int32 6 = .ok (.getfield 10, 3) := by decide +kernel
theorem d_ST_int32_9 : decode b_ST_int32 9 = .ok (.arraylength, 1) := by decide +kernel
theorem d_ST_int32_10 : decode b_ST_int32 10 = .ok (.iconst 4, 1) := by decide +kernel
theorem d_ST_int32_11 : decode b_ST_int32 11 = .ok (.isub, 1) := by decide +kernel
theorem d_ST_int32_12 : decode b_ST_int32 12 = .ok (.if_icmp .le 5, 3) := by decide +kernel
theorem d_ST_int32_15 : decode b_ST_int32 15 = .ok (.iconst 0, 1) := by decide +kernel
theorem d_ST_int32_16 : decode b_ST_int32 16 = .ok (.ireturn, 1) := by decide +kernel
theorem d_ST_int32_17 : decode b_ST_int32 17 = .ok (.aload_n 0, 1) := by decide +kernel
theorem d_ST_int32_18 : decode b_ST_int32 18 = .ok (.getfield 10, 3) := by decide +kernel
theorem d_ST_int32_21 : decode b_ST_int32 21 = .ok (.iload_n 1, 1) := by decide +kernel
theorem d_ST_int32_22 : decode b_ST_int32 22 = .ok (.baload, 1) := by decide +kernel
theorem d_ST_int32_23 : decode b_ST_int32 23 = .ok (.sipush 255, 3) := by decide +kernel
theorem d_ST_int32_26 : decode b_ST_int32 26 = .ok (.iand, 1) := by decide +kernel
theorem d_ST_int32_27 : decode b_ST_int32 27 = .ok (.aload_n 0, 1) := by decide +kernel
theorem d_ST_int32_28 : decode b_ST_int32 28 = .ok (.getfield 10, 3) := by decide +kernel
theorem d_ST_int32_31 : decode b_ST_int32 31 = .ok (.iload_n 1, 1) := by decide +kernel
theorem d_ST_int32_32 : decode b_ST_int32 32 = .ok (.iconst 1, 1) := by decide +kernel
theorem d_ST_int32_33 : decode b_ST_int32 33 = .ok (.iadd, 1) := by decide +kernel
theorem d_ST_int32_34 : decode b_ST_int32 34 = .ok (.baload, 1) := by decide +kernel
theorem d_ST_int32_35 : decode b_ST_int32 35 = .ok (.sipush 255, 3) := by decide +kernel
theorem d_ST_int32_38 : decode b_ST_int32 38 = .ok (.iand, 1) := by decide +kernel
theorem d_ST_int32_39 : decode b_ST_int32 39 = .ok (.bipush 8, 2) := by decide +kernel
theorem d_ST_int32_41 : decode b_ST_int32 41 = .ok (.ishl, 1) := by decide +kernel
theorem d_ST_int32_42 : decode b_ST_int32 42 = .ok (.ior, 1) := by decide +kernel
theorem d_ST_int32_43 : decode b_ST_int32 43 = .ok (.aload_n 0, 1) := by decide +kernel
theorem d_ST_int32_44 : decode b_ST_int32 44 = .ok (.getfield 10, 3) := by decide +kernel
theorem d_ST_int32_47 : decode b_ST_int32 47 = .ok (.iload_n 1, 1) := by decide +kernel
theorem d_ST_int32_48 : decode b_ST_int32 48 = .ok (.iconst 2, 1) := by decide +kernel
theorem d_ST_int32_49 : decode b_ST_int32 49 = .ok (.iadd, 1) := by decide +kernel
theorem d_ST_int32_50 : decode b_ST_int32 50 = .ok (.baload, 1) := by decide +kernel
theorem d_ST_int32_51 : decode b_ST_int32 51 = .ok (.sipush 255, 3) := by decide +kernel
theorem d_ST_int32_54 : decode b_ST_int32 54 = .ok (.iand, 1) := by decide +kernel
theorem d_ST_int32_55 : decode b_ST_int32 55 = .ok (.bipush 16, 2) := by decide +kernel
theorem d_ST_int32_57 : decode b_ST_int32 57 = .ok (.ishl, 1) := by decide +kernel
theorem d_ST_int32_58 : decode b_ST_int32 58 = .ok (.ior, 1) := by decide +kernel
theorem d_ST_int32_59 : decode b_ST_int32 59 = .ok (.aload_n 0, 1) := by decide +kernel
theorem d_ST_int32_60 : decode b_ST_int32 60 = .ok (.getfield 10, 3) := by decide +kernel
theorem d_ST_int32_63 : decode b_ST_int32 63 = .ok (.iload_n 1, 1) := by decide +kernel
theorem d_ST_int32_64 : decode b_ST_int32 64 = .ok (.iconst 3, 1) := by decide +kernel
theorem d_ST_int32_65 : decode b_ST_int32 65 = .ok (.iadd, 1) := by decide +kernel
theorem d_ST_int32_66 : decode b_ST_int32 66 = .ok (.baload, 1) := by decide +kernel
theorem d_ST_int32_67 : decode b_ST_int32 67 = .ok (.sipush 255, 3) := by decide +kernel
theorem d_ST_int32_70 : decode b_ST_int32 70 = .ok (.iand, 1) := by decide +kernel
theorem d_ST_int32_71 : decode b_ST_int32 71 = .ok (.bipush 24, 2) := by decide +kernel
theorem d_ST_int32_73 : decode b_ST_int32 73 = .ok (.ishl, 1) := by decide +kernel
theorem d_ST_int32_74 : decode b_ST_int32 74 = .ok (.ior, 1) := by decide +kernel
theorem d_ST_int32_75 : decode b_ST_int32 75 = .ok (.ireturn, 1) := by decide +kernel
abbrev b_ST_number : ByteArray := prog_10_method_9_code
def y_ST_number : MethodName := ⟨R_ST, "number", "(I)J"⟩
theorem kc_ST_number : Cond.code y_ST_number b_ST_number 5 (some .long) ∈ lw_g := lw_gm (List.mem_append_right _ (List.mem_of_getElem? (i := 763) (by decide +kernel))) rfl
abbrev mw_ST_number : List Cond := Cond.code y_ST_number b_ST_number 5 (some .long) :: lw_g
theorem hd_ST_number : y_ST_number.cls = R_ST ∧ y_ST_number.cls ≠ "java/lang/invoke/MethodHandle" ∧ y_ST_number.cls ≠ "java/lang/invoke/VarHandle" ∧ (parseMethodDescriptor y_ST_number.desc).map (fun d => d.parameters.length) = some 1 := by decide +kernel
theorem d_ST_number_0 : decode b_ST_number 0 = .ok (.iload_n 1, 1) := by decide +kernel
theorem d_ST_number_1 : decode b_ST_number 1 = .ok (.invokestatic 16, 3) := by decide +kernel
theorem d_ST_number_4 : decode b_ST_number 4 = .ok (.istore_n 2, 1) := by decide +kernel
theorem d_ST_number_5 : decode b_ST_number 5 = .ok (.aload_n 0, 1) := by decide +kernel
theorem d_ST_number_6 : decode b_ST_number 6 = .ok (.iload_n 2, 1) := by decide +kernel
theorem d_ST_number_7 : decode b_ST_number 7 = .ok (.invokevirtual 20, 3) := by decide +kernel
theorem d_ST_number_10 : decode b_ST_number 10 = .ok (.i2l, 1) := by decide +kernel
theorem d_ST_number_11 : decode b_ST_number 11 = .ok (.lstore_n 3, 1) := by decide +kernel
theorem d_ST_number_12 : decode b_ST_number 12 = .ok (.iload_n 1, 1) := by decide +kernel
theorem d_ST_number_13 : decode b_ST_number 13 = .ok (.invokestatic 23, 3) := by decide +kernel
theorem d_ST_number_16 : decode b_ST_number 16 = .ok (.bipush 18, 2) := by decide +kernel
theorem d_ST_number_18 : decode b_ST_number 18 = .ok (.if_icmp .eq 5, 3) := by decide +kernel
theorem d_ST_number_21 : decode b_ST_number 21 = .ok (.lload_n 3, 1) := by decide +kernel
theorem d_ST_number_22 : decode b_ST_number 22 = .ok (.lreturn, 1) := by decide +kernel
theorem d_ST_number_23 : decode b_ST_number 23 = .ok (.aload_n 0, 1) := by decide +kernel
theorem d_ST_number_24 : decode b_ST_number 24 = .ok (.iload_n 2, 1) := by decide +kernel
theorem d_ST_number_25 : decode b_ST_number 25 = .ok (.iconst 4, 1) := by decide +kernel
theorem d_ST_number_26 : decode b_ST_number 26 = .ok (.iadd, 1) := by decide +kernel
theorem d_ST_number_27 : decode b_ST_number 27 = .ok (.invokevirtual 20, 3) := by decide +kernel
theorem d_ST_number_30 : decode b_ST_number 30 = .ok (.i2l, 1) := by decide +kernel
theorem d_ST_number_31 : decode b_ST_number 31 = .ok (.bipush 32, 2) := by decide +kernel
theorem d_ST_number_33 : decode b_ST_number 33 = .ok (.lshl, 1) := by decide +kernel
theorem d_ST_number_34 : decode b_ST_number 34 = .ok (.lload_n 3, 1) := by decide +kernel
theorem d_ST_number_35 : decode b_ST_number 35 = .ok (.ldc2_w 26, 3) := by decide +kernel
theorem d_ST_number_38 : decode b_ST_number 38 = .ok (.land, 1) := by decide +kernel
theorem d_ST_number_39 : decode b_ST_number 39 = .ok (.lor, 1) := by decide +kernel
theorem d_ST_number_40 : decode b_ST_number 40 = .ok (.lreturn, 1) := by decide +kernel
abbrev b_ST_endOf : ByteArray := prog_10_method_11_code
def y_ST_endOf : MethodName := ⟨R_ST, "endOf", "(I)I"⟩
theorem kc_ST_endOf : Cond.code y_ST_endOf b_ST_endOf 5 (some .int) ∈ lw_g := lw_gm (List.mem_append_right _ (List.mem_of_getElem? (i := 418) (by decide +kernel))) rfl
abbrev mw_ST_endOf : List Cond := Cond.code y_ST_endOf b_ST_endOf 5 (some .int) :: lw_g
theorem hd_ST_endOf : y_ST_endOf.cls = R_ST ∧ y_ST_endOf.cls ≠ "java/lang/invoke/MethodHandle" ∧ y_ST_endOf.cls ≠ "java/lang/invoke/VarHandle" ∧ (parseMethodDescriptor y_ST_endOf.desc).map (fun d => d.parameters.length) = some 1 := by decide +kernel
theorem d_ST_endOf_0 : decode b_ST_endOf 0 = .ok (.iload_n 1, 1) := by decide +kernel
theorem d_ST_endOf_1 : decode b_ST_endOf 1 = .ok (.iconst 5, 1) := by decide +kernel
theorem d_ST_endOf_2 : decode b_ST_endOf 2 = .ok (.iushr, 1) := by decide +kernel
theorem d_ST_endOf_3 : decode b_ST_endOf 3 = .ok (.istore_n 2, 1) := by decide +kernel
theorem d_ST_endOf_4 : decode b_ST_endOf 4 = .ok (.iload_n 1, 1) := by decide +kernel
theorem d_ST_endOf_5 : decode b_ST_endOf 5 = .ok (.bipush 31, 2) := by decide +kernel
theorem d_ST_endOf_7 : decode b_ST_endOf 7 = .ok (.iand, 1) := by decide +kernel
theorem d_ST_endOf_8 : decode b_ST_endOf 8 = .ok (.istore_n 3, 1) := by decide +kernel
theorem d_ST_endOf_9 : decode b_ST_endOf 9 = .ok (.iload_n 3, 1) := by decide +kernel
theorem d_ST_endOf_10 : decode b_ST_endOf 10 = .ok (.iconst 2, 1) := by decide +kernel
theorem d_ST_endOf_11 : decode b_ST_endOf 11 = .ok (.if_icmp .eq 13, 3) := by decide +kernel
theorem d_ST_endOf_14 : decode b_ST_endOf 14 = .ok (.iload_n 3, 1) := by decide +kernel
theorem d_ST_endOf_15 : decode b_ST_endOf 15 = .ok (.iconst 3, 1) := by decide +kernel
theorem d_ST_endOf_16 : decode b_ST_endOf 16 = .ok (.if_icmp .eq 8, 3) := by decide +kernel
theorem d_ST_endOf_19 : decode b_ST_endOf 19 = .ok (.iload_n 3, 1) := by decide +kernel
theorem d_ST_endOf_20 : decode b_ST_endOf 20 = .ok (.iconst 4, 1) := by decide +kernel
theorem d_ST_endOf_21 : decode b_ST_endOf 21 = .ok (.if_icmp .ne 95, 3) := by decide +kernel
theorem d_ST_endOf_24 : decode b_ST_endOf 24 = .ok (.iload_n 2, 1) := by decide +kernel
theorem d_ST_endOf_25 : decode b_ST_endOf 25 = .ok (.aload_n 0, 1) := by decide +kernel
theorem d_ST_endOf_26 : decode b_ST_endOf 26 = .ok (.getfield 10, 3) := by decide +kernel
theorem d_ST_endOf_29 : decode b_ST_endOf 29 = .ok (.arraylength, 1) := by decide +kernel
theorem d_ST_endOf_30 : decode b_ST_endOf 30 = .ok (.iconst 4, 1) := by decide +kernel
theorem d_ST_endOf_31 : decode b_ST_endOf 31 = .ok (.isub, 1) := by decide +kernel
theorem d_ST_endOf_32 : decode b_ST_endOf 32 = .ok (.if_icmp .le 5, 3) := by decide +kernel
theorem d_ST_endOf_35 : decode b_ST_endOf 35 = .ok (.iload_n 2, 1) := by decide +kernel
theorem d_ST_endOf_36 : decode b_ST_endOf 36 = .ok (.ireturn, 1) := by decide +kernel
theorem d_ST_endOf_37 : decode b_ST_endOf 37 = .ok (.aload_n 0, 1) := by decide +kernel
theorem d_ST_endOf_38 : decode b_ST_endOf 38 = .ok (.getfield 10, 3) := by decide +kernel
theorem d_ST_endOf_41 : decode b_ST_endOf 41 = .ok (.iload_n 2, 1) := by decide +kernel
theorem d_ST_endOf_42 : decode b_ST_endOf 42 = .ok (.baload, 1) := by decide +kernel
theorem d_ST_endOf_43 : decode b_ST_endOf 43 = .ok (.sipush 255, 3) := by decide +kernel
theorem d_ST_endOf_46 : decode b_ST_endOf 46 = .ok (.iand, 1) := by decide +kernel
theorem d_ST_endOf_47 : decode b_ST_endOf 47 = .ok (.aload_n 0, 1) := by decide +kernel
theorem d_ST_endOf_48 : decode b_ST_endOf 48 = .ok (.getfield 10, 3) := by decide +kernel
theorem d_ST_endOf_51 : decode b_ST_endOf 51 = .ok (.iload_n 2, 1) := by decide +kernel
theorem d_ST_endOf_52 : decode b_ST_endOf 52 = .ok (.iconst 1, 1) := by decide +kernel
theorem d_ST_endOf_53 : decode b_ST_endOf 53 = .ok (.iadd, 1) := by decide +kernel
theorem d_ST_endOf_54 : decode b_ST_endOf 54 = .ok (.baload, 1) := by decide +kernel
theorem d_ST_endOf_55 : decode b_ST_endOf 55 = .ok (.sipush 255, 3) := by decide +kernel
theorem d_ST_endOf_58 : decode b_ST_endOf 58 = .ok (.iand, 1) := by decide +kernel
theorem d_ST_endOf_59 : decode b_ST_endOf 59 = .ok (.bipush 8, 2) := by decide +kernel
theorem d_ST_endOf_61 : decode b_ST_endOf 61 = .ok (.ishl, 1) := by decide +kernel
theorem d_ST_endOf_62 : decode b_ST_endOf 62 = .ok (.ior, 1) := by decide +kernel
theorem d_ST_endOf_63 : decode b_ST_endOf 63 = .ok (.aload_n 0, 1) := by decide +kernel
theorem d_ST_endOf_64 : decode b_ST_endOf 64 = .ok (.getfield 10, 3) := by decide +kernel
theorem d_ST_endOf_67 : decode b_ST_endOf 67 = .ok (.iload_n 2, 1) := by decide +kernel
theorem d_ST_endOf_68 : decode b_ST_endOf 68 = .ok (.iconst 2, 1) := by decide +kernel
theorem d_ST_endOf_69 : decode b_ST_endOf 69 = .ok (.iadd, 1) := by decide +kernel
theorem d_ST_endOf_70 : decode b_ST_endOf 70 = .ok (.baload, 1) := by decide +kernel
theorem d_ST_endOf_71 : decode b_ST_endOf 71 = .ok (.sipush 255, 3) := by decide +kernel
theorem d_ST_endOf_74 : decode b_ST_endOf 74 = .ok (.iand, 1) := by decide +kernel
theorem d_ST_endOf_75 : decode b_ST_endOf 75 = .ok (.bipush 16, 2) := by decide +kernel
theorem d_ST_endOf_77 : decode b_ST_endOf 77 = .ok (.ishl, 1) := by decide +kernel
theorem d_ST_endOf_78 : decode b_ST_endOf 78 = .ok (.ior, 1) := by decide +kernel
theorem d_ST_endOf_79 : decode b_ST_endOf 79 = .ok (.aload_n 0, 1) := by decide +kernel
theorem d_ST_endOf_80 : decode b_ST_endOf 80 = .ok (.getfield 10, 3) := by decide +kernel
theorem d_ST_endOf_83 : decode b_ST_endOf 83 = .ok (.iload_n 2, 1) := by decide +kernel
theorem d_ST_endOf_84 : decode b_ST_endOf 84 = .ok (.iconst 3, 1) := by decide +kernel
theorem d_ST_endOf_85 : decode b_ST_endOf 85 = .ok (.iadd, 1) := by decide +kernel
theorem d_ST_endOf_86 : decode b_ST_endOf 86 = .ok (.baload, 1) := by decide +kernel
theorem d_ST_endOf_87 : decode b_ST_endOf 87 = .ok (.sipush 255, 3) := by decide +kernel
theorem d_ST_endOf_90 : decode b_ST_endOf 90 = .ok (.iand, 1) := by decide +kernel
theorem d_ST_endOf_91 : decode b_ST_endOf 91 = .ok (.bipush 24, 2) := by decide +kernel
theorem d_ST_endOf_93 : decode b_ST_endOf 93 = .ok (.ishl, 1) := by decide +kernel
theorem d_ST_endOf_94 : decode b_ST_endOf 94 = .ok (.ior, 1) := by decide +kernel
theorem d_ST_endOf_95 : decode b_ST_endOf 95 = .ok (.istore 4, 2) := by decide +kernel
theorem d_ST_endOf_97 : decode b_ST_endOf 97 = .ok (.iload_n 3, 1) := by decide +kernel
theorem d_ST_endOf_98 : decode b_ST_endOf 98 = .ok (.iconst 2, 1) := by decide +kernel
theorem d_ST_endOf_99 : decode b_ST_endOf 99 = .ok (.if_icmp .ne 12, 3) := by decide +kernel
theorem d_ST_endOf_102 : decode b_ST_endOf 102 = .ok (.iload_n 2, 1) := by decide +kernel
theorem d_ST_endOf_103 : decode b_ST_endOf 103 = .ok (.iconst 4, 1) := by decide +kernel
theorem d_ST_endOf_104 : decode b_ST_endOf 104 = .ok (.iadd, 1) := by decide +kernel
theorem d_ST_endOf_105 : decode b_ST_endOf 105 = .ok (.iload 4, 2) := by decide +kernel
theorem d_ST_endOf_107 : decode b_ST_endOf 107 = .ok (.iadd, 1) := by decide +kernel
theorem d_ST_endOf_108 : decode b_ST_endOf 108 = .ok (.goto 7, 3) := by decide +kernel
theorem d_ST_endOf_111 : decode b_ST_endOf 111 = .ok (.iload_n 2, 1) := by decide +kernel
theorem d_ST_endOf_112 : decode b_ST_endOf 112 = .ok (.iload 4, 2) := by decide +kernel
theorem d_ST_endOf_114 : decode b_ST_endOf 114 = .ok (.iadd, 1) := by decide +kernel
theorem d_ST_endOf_115 : decode b_ST_endOf 115 = .ok (.ireturn, 1) := by decide +kernel
theorem d_ST_endOf_116 : decode b_ST_endOf 116 = .ok (.iload_n 2, 1) := by decide +kernel
theorem d_ST_endOf_117 : decode b_ST_endOf 117 = .ok (.iload_n 3, 1) := by decide +kernel
theorem d_ST_endOf_118 : decode b_ST_endOf 118 = .ok (.bipush 18, 2) := by decide +kernel
theorem d_ST_endOf_120 : decode b_ST_endOf 120 = .ok (.if_icmp .ne 8, 3) := by decide +kernel
theorem d_ST_endOf_123 : decode b_ST_endOf 123 = .ok (.bipush 8, 2) := by decide +kernel
theorem d_ST_endOf_125 : decode b_ST_endOf 125 = .ok (.goto 24, 3) := by decide +kernel
theorem d_ST_endOf_128 : decode b_ST_endOf 128 = .ok (.iload_n 3, 1) := by decide +kernel
theorem d_ST_endOf_129 : decode b_ST_endOf 129 = .ok (.bipush 16, 2) := by decide +kernel
theorem d_ST_endOf_131 : decode b_ST_endOf 131 = .ok (.if_icmp .ne 7, 3) := by decide +kernel
theorem d_ST_endOf_134 : decode b_ST_endOf 134 = .ok (.iconst 4, 1) := by decide +kernel
theorem d_ST_endOf_135 : decode b_ST_endOf 135 = .ok (.goto 14, 3) := by decide +kernel
theorem d_ST_endOf_138 : decode b_ST_endOf 138 = .ok (.iload_n 3, 1) := by decide +kernel
theorem d_ST_endOf_139 : decode b_ST_endOf 139 = .ok (.bipush 8, 2) := by decide +kernel
theorem d_ST_endOf_141 : decode b_ST_endOf 141 = .ok (.if_icmp .ne 7, 3) := by decide +kernel
theorem d_ST_endOf_144 : decode b_ST_endOf 144 = .ok (.iconst 1, 1) := by decide +kernel
theorem d_ST_endOf_145 : decode b_ST_endOf 145 = .ok (.goto 4, 3) := by decide +kernel
theorem d_ST_endOf_148 : decode b_ST_endOf 148 = .ok (.iconst 0, 1) := by decide +kernel
theorem d_ST_endOf_149 : decode b_ST_endOf 149 = .ok (.iadd, 1) := by decide +kernel
theorem d_ST_endOf_150 : decode b_ST_endOf 150 = .ok (.ireturn, 1) := by decide +kernel
abbrev b_ST_countParts : ByteArray := prog_10_method_12_code
def y_ST_countParts : MethodName := ⟨R_ST, "countParts", "(I)I"⟩
theorem kc_ST_countParts : Cond.code y_ST_countParts b_ST_countParts 6 (some .int) ∈ lw_g := lw_gm (List.mem_append_right _ (List.mem_of_getElem? (i := 482) (by decide +kernel))) rfl
abbrev mw_ST_countParts : List Cond := Cond.code y_ST_countParts b_ST_countParts 6 (some .int) :: lw_g
theorem hd_ST_countParts : y_ST_countParts.cls = R_ST ∧ y_ST_countParts.cls ≠ "java/lang/invoke/MethodHandle" ∧ y_ST_countParts.cls ≠ "java/lang/invoke/VarHandle" ∧ (parseMethodDescriptor y_ST_countParts.desc).map (fun d => d.parameters.length) = some 1 := by decide +kernel
theorem d_ST_countParts_0 : decode b_ST_countParts 0 = .ok (.aload_n 0, 1) := by decide +kernel
theorem d_ST_countParts_1 : decode b_ST_countParts 1 = .ok (.iload_n 1, 1) := by decide +kernel
theorem d_ST_countParts_2 : decode b_ST_countParts 2 = .ok (.invokevirtual 28, 3) := by decide +kernel
theorem d_ST_countParts_5 : decode b_ST_countParts 5 = .ok (.iconst 1, 1) := by decide +kernel
theorem d_ST_countParts_6 : decode b_ST_countParts 6 = .ok (.isub, 1) := by decide +kernel
theorem d_ST_countParts_7 : decode b_ST_countParts 7 = .ok (.istore_n 2, 1) := by decide +kernel
theorem d_ST_countParts_8 : decode b_ST_countParts 8 = .ok (.iload_n 1, 1) := by decide +kernel
theorem d_ST_countParts_9 : decode b_ST_countParts 9 = .ok (.invokestatic 16, 3) := by decide +kernel
theorem d_ST_countParts_12 : decode b_ST_countParts 12 = .ok (.iconst 4, 1) := by decide +kernel
theorem d_ST_countParts_13 : decode b_ST_countParts 13 = .ok (.iadd, 1) := by decide +kernel
theorem d_ST_countParts_14 : decode b_ST_countParts 14 = .ok (.istore_n 3, 1) := by decide +kernel
theorem d_ST_countParts_15 : decode b_ST_countParts 15 = .ok (.iconst 0, 1) := by decide +kernel
theorem d_ST_countParts_16 : decode b_ST_countParts 16 = .ok (.istore 4, 2) := by decide +kernel
theorem d_ST_countParts_18 : decode b_ST_countParts 18 = .ok (.iconst 0, 1) := by decide +kernel
theorem d_ST_countParts_19 : decode b_ST_countParts 19 = .ok (.istore 5, 2) := by decide +kernel
theorem d_ST_countParts_21 : decode b_ST_countParts 21 = .ok (.iload 5, 2) := by decide +kernel
theorem d_ST_countParts_23 : decode b_ST_countParts 23 = .ok (.sipush 1000, 3) := by decide +kernel
theorem d_ST_countParts_26 : decode b_ST_countParts 26 = .ok (.if_icmp .ge 27, 3) := by decide +kernel
theorem d_ST_countParts_29 : decode b_ST_countParts 29 = .ok (.iload_n 3, 1) := by decide +kernel
theorem d_ST_countParts_30 : decode b_ST_countParts 30 = .ok (.iload_n 2, 1) := by decide +kernel
theorem d_ST_countParts_31 : decode b_ST_countParts 31 = .ok (.if_icmp .ge 22, 3) := by decide +kernel
theorem d_ST_countParts_34 : decode b_ST_countParts 34 = .ok (.aload_n 0, 1) := by decide +kernel
theorem d_ST_countParts_35 : decode b_ST_countParts 35 = .ok (.aload_n 0, 1) := by decide +kernel
theorem d_ST_countParts_36 : decode b_ST_countParts 36 = .ok (.iload_n 3, 1) := by decide +kernel
theorem d_ST_countParts_37 : decode b_ST_countParts 37 = .ok (.invokevirtual 31, 3) := by decide +kernel
theorem d_ST_countParts_40 : decode b_ST_countParts 40 = .ok (.invokevirtual 28, 3) := by decide +kernel
theorem d_ST_countParts_43 : decode b_ST_countParts 43 = .ok (.istore_n 3, 1) := by decide +kernel
theorem d_ST_countParts_44 : decode b_ST_countParts 44 = .ok (.iinc 4 1, 3) := by decide +kernel
theorem d_ST_countParts_47 : decode b_ST_countParts 47 = .ok (.iinc 5 1, 3) := by decide +kernel
theorem d_ST_countParts_50 : decode b_ST_countParts 50 = .ok (.goto (-29), 3) := by decide +kernel
theorem d_ST_countParts_53 : decode b_ST_countParts 53 = .ok (.iload 4, 2) := by decide +kernel
theorem d_ST_countParts_55 : decode b_ST_countParts 55 = .ok (.ireturn, 1) := by decide +kernel
abbrev b_ST_compareBytes : ByteArray := prog_10_method_18_code
def y_ST_compareBytes : MethodName := ⟨R_ST, "compareBytes", "(IIII)I"⟩
theorem kc_ST_compareBytes : Cond.code y_ST_compareBytes b_ST_compareBytes 8 (some .int) ∈ lw_g := lw_gm (List.mem_append_right _ (List.mem_of_getElem? (i := 408) (by decide +kernel))) rfl
abbrev mw_ST_compareBytes : List Cond := Cond.code y_ST_compareBytes b_ST_compareBytes 8 (some .int) :: lw_g
theorem hd_ST_compareBytes : y_ST_compareBytes.cls = R_ST ∧ y_ST_compareBytes.cls ≠ "java/lang/invoke/MethodHandle" ∧ y_ST_compareBytes.cls ≠ "java/lang/invoke/VarHandle" ∧ (parseMethodDescriptor y_ST_compareBytes.desc).map (fun d => d.parameters.length) = some 4 := by decide +kernel
theorem d_ST_compareBytes_0 : decode b_ST_compareBytes 0 = .ok (.iload_n 2, 1) := by decide +kernel
theorem d_ST_compareBytes_1 : decode b_ST_compareBytes 1 = .ok (.iload_n 1, 1) := by decide +kernel
theorem d_ST_compareBytes_2 : decode b_ST_compareBytes 2 = .ok (.isub, 1) := by decide +kernel
theorem d_ST_compareBytes_3 : decode b_ST_compareBytes 3 = .ok (.iload 4, 2) := by decide +kernel
theorem d_ST_compareBytes_5 : decode b_ST_compareBytes 5 = .ok (.iload_n 3, 1) := by decide +kernel
theorem d_ST_compareBytes_6 : decode b_ST_compareBytes 6 = .ok (.isub, 1) := by decide +kernel
theorem d_ST_compareBytes_7 : decode b_ST_compareBytes 7 = .ok (.invokestatic 51, 3) := by decide +kernel
theorem d_ST_compareBytes_10 : decode b_ST_compareBytes 10 = .ok (.istore 5, 2) := by decide +kernel
theorem d_ST_compareBytes_12 : decode b_ST_compareBytes 12 = .ok (.iload_n 1, 1) := by decide +kernel
theorem d_ST_compareBytes_13 : decode b_ST_compareBytes 13 = .ok (.ifCond .lt 31, 3) := by decide +kernel
theorem d_ST_compareBytes_16 : decode b_ST_compareBytes 16 = .ok (.iload_n 3, 1) := by decide +kernel
theorem d_ST_compareBytes_17 : decode b_ST_compareBytes 17 = .ok (.ifCond .lt 27, 3) := by decide +kernel
theorem d_ST_compareBytes_20 : decode b_ST_compareBytes 20 = .ok (.iload 5, 2) := by decide +kernel
theorem d_ST_compareBytes_22 : decode b_ST_compareBytes 22 = .ok (.aload_n 0, 1) := by decide +kernel
theorem d_ST_compareBytes_23 : decode b_ST_compareBytes 23 = .ok (.getfield 10, 3) := by decide +kernel
theorem d_ST_compareBytes_26 : decode b_ST_compareBytes 26 = .ok (.arraylength, 1) := by decide +kernel
theorem d_ST_compareBytes_27 : decode b_ST_compareBytes 27 = .ok (.iload_n 1, 1) := by decide +kernel
theorem d_ST_compareBytes_28 : decode b_ST_compareBytes 28 = .ok (.isub, 1) := by decide +kernel
theorem d_ST_compareBytes_29 : decode b_ST_compareBytes 29 = .ok (.if_icmp .gt 15, 3) := by decide +kernel
theorem d_ST_compareBytes_32 : decode b_ST_compareBytes 32 = .ok (.iload 5, 2) := by decide +kernel
theorem d_ST_compareBytes_34 : decode b_ST_compareBytes 34 = .ok (.aload_n 0, 1) := by decide +kernel
theorem d_ST_compareBytes_35 : decode b_ST_compareBytes 35 = .ok (.getfield 10, 3) := by decide +kernel
theorem d_ST_compareBytes_38 : decode b_ST_compareBytes 38 = .ok (.arraylength, 1) := by decide +kernel
theorem d_ST_compareBytes_39 : decode b_ST_compareBytes 39 = .ok (.iload_n 3, 1) := by decide +kernel
theorem d_ST_compareBytes_40 : decode b_ST_compareBytes 40 = .ok (.isub, 1) := by decide +kernel
theorem d_ST_compareBytes_41 : decode b_ST_compareBytes 41 = .ok (.if_icmp .le 5, 3) := by decide +kernel
theorem d_ST_compareBytes_44 : decode b_ST_compareBytes 44 = .ok (.iconst 0, 1) := by decide +kernel
theorem d_ST_compareBytes_45 : decode b_ST_compareBytes 45 = .ok (.ireturn, 1) := by decide +kernel
theorem d_ST_compareBytes_46 : decode b_ST_compareBytes 46 = .ok (.iconst 0, 1) := by decide +kernel
theorem d_ST_compareBytes_47 : decode b_ST_compareBytes 47 = .ok (.istore 6, 2) := by decide +kernel
theorem d_ST_compareBytes_49 : decode b_ST_compareBytes 49 = .ok (.iload 6, 2) := by decide +kernel
theorem d_ST_compareBytes_51 : decode b_ST_compareBytes 51 = .ok (.iload 5, 2) := by decide +kernel
theorem d_ST_compareBytes_53 : decode b_ST_compareBytes 53 = .ok (.if_icmp .ge 54, 3) := by decide +kernel
theorem d_ST_compareBytes_56 : decode b_ST_compareBytes 56 = .ok (.aload_n 0, 1) := by decide +kernel
theorem d_ST_compareBytes_57 : decode b_ST_compareBytes 57 = .ok (.getfield 10, 3) := by decide +kernel
theorem d_ST_compareBytes_60 : decode b_ST_compareBytes 60 = .ok (.iload_n 1, 1) := by decide +kernel
theorem d_ST_compareBytes_61 : decode b_ST_compareBytes 61 = .ok (.iload 6, 2) := by decide +kernel
theorem d_ST_compareBytes_63 : decode b_ST_compareBytes 63 = .ok (.iadd, 1) := by decide +kernel
theorem d_ST_compareBytes_64 : decode b_ST_compareBytes 64 = .ok (.baload, 1) := by decide +kernel
theorem d_ST_compareBytes_65 : decode b_ST_compareBytes 65 = .ok (.sipush 255, 3) := by decide +kernel
theorem d_ST_compareBytes_68 : decode b_ST_compareBytes 68 = .ok (.iand, 1) := by decide +kernel
theorem d_ST_compareBytes_69 : decode b_ST_compareBytes 69 = .ok (.aload_n 0, 1) := by decide +kernel
theorem d_ST_compareBytes_70 : decode b_ST_compareBytes 70 = .ok (.getfield 10, 3) := by decide +kernel
theorem d_ST_compareBytes_73 : decode b_ST_compareBytes 73 = .ok (.iload_n 3, 1) := by decide +kernel
theorem d_ST_compareBytes_74 : decode b_ST_compareBytes 74 = .ok (.iload 6, 2) := by decide +kernel
theorem d_ST_compareBytes_76 : decode b_ST_compareBytes 76 = .ok (.iadd, 1) := by decide +kernel
theorem d_ST_compareBytes_77 : decode b_ST_compareBytes 77 = .ok (.baload, 1) := by decide +kernel
theorem d_ST_compareBytes_78 : decode b_ST_compareBytes 78 = .ok (.sipush 255, 3) := by decide +kernel
theorem d_ST_compareBytes_81 : decode b_ST_compareBytes 81 = .ok (.iand, 1) := by decide +kernel
theorem d_ST_compareBytes_82 : decode b_ST_compareBytes 82 = .ok (.isub, 1) := by decide +kernel
theorem d_ST_compareBytes_83 : decode b_ST_compareBytes 83 = .ok (.istore 7, 2) := by decide +kernel
theorem d_ST_compareBytes_85 : decode b_ST_compareBytes 85 = .ok (.iload 7, 2) := by decide +kernel
theorem d_ST_compareBytes_87 : decode b_ST_compareBytes 87 = .ok (.ifCond .eq 14, 3) := by decide +kernel
theorem d_ST_compareBytes_90 : decode b_ST_compareBytes 90 = .ok (.iload 7, 2) := by decide +kernel
theorem d_ST_compareBytes_92 : decode b_ST_compareBytes 92 = .ok (.ifCond .ge 7, 3) := by decide +kernel
theorem d_ST_compareBytes_95 : decode b_ST_compareBytes 95 = .ok (.iconst (-1), 1) := by decide +kernel
theorem d_ST_compareBytes_96 : decode b_ST_compareBytes 96 = .ok (.goto 4, 3) := by decide +kernel
theorem d_ST_compareBytes_99 : decode b_ST_compareBytes 99 = .ok (.iconst 1, 1) := by decide +kernel
theorem d_ST_compareBytes_100 : decode b_ST_compareBytes 100 = .ok (.ireturn, 1) := by decide +kernel
theorem d_ST_compareBytes_101 : decode b_ST_compareBytes 101 = .ok (.iinc 6 1, 3) := by decide +kernel
theorem d_ST_compareBytes_104 : decode b_ST_compareBytes 104 = .ok (.goto (-55), 3) := by decide +kernel
theorem d_ST_compareBytes_107 : decode b_ST_compareBytes 107 = .ok (.iload_n 2, 1) := by decide +kernel
theorem d_ST_compareBytes_108 : decode b_ST_compareBytes 108 = .ok (.iload_n 1, 1) := by decide +kernel
theorem d_ST_compareBytes_109 : decode b_ST_compareBytes 109 = .ok (.isub, 1) := by decide +kernel
theorem d_ST_compareBytes_110 : decode b_ST_compareBytes 110 = .ok (.iload 4, 2) := by decide +kernel
theorem d_ST_compareBytes_112 : decode b_ST_compareBytes 112 = .ok (.iload_n 3, 1) := by decide +kernel
theorem d_ST_compareBytes_113 : decode b_ST_compareBytes 113 = .ok (.isub, 1) := by decide +kernel
theorem d_ST_compareBytes_114 : decode b_ST_compareBytes 114 = .ok (.invokestatic 57, 3) := by decide +kernel
theorem d_ST_compareBytes_117 : decode b_ST_compareBytes 117 = .ok (.ireturn, 1) := by decide +kernel
abbrev b_ST_find : ByteArray := prog_10_method_13_code
def y_ST_find : MethodName := ⟨R_ST, "find", "(III)I"⟩
theorem kc_ST_find : Cond.code y_ST_find b_ST_find 9 (some .int) ∈ lw_g := lw_gm (List.mem_append_right _ (List.mem_of_getElem? (i := 613) (by decide +kernel))) rfl
abbrev mw_ST_find : List Cond := Cond.code y_ST_find b_ST_find 9 (some .int) :: lw_g
theorem hd_ST_find : y_ST_find.cls = R_ST ∧ y_ST_find.cls ≠ "java/lang/invoke/MethodHandle" ∧ y_ST_find.cls ≠ "java/lang/invoke/VarHandle" ∧ (parseMethodDescriptor y_ST_find.desc).map (fun d => d.parameters.length) = some 3 := by decide +kernel
theorem d_ST_find_0 : decode b_ST_find 0 = .ok (.aload_n 0, 1) := by decide +kernel
theorem d_ST_find_1 : decode b_ST_find 1 = .ok (.iload_n 1, 1) := by decide +kernel
theorem d_ST_find_2 : decode b_ST_find 2 = .ok (.invokevirtual 28, 3) := by decide +kernel
theorem d_ST_find_5 : decode b_ST_find 5 = .ok (.iconst 1, 1) := by decide +kernel
theorem d_ST_find_6 : decode b_ST_find 6 = .ok (.isub, 1) := by decide +kernel
theorem d_ST_find_7 : decode b_ST_find 7 = .ok (.istore 4, 2) := by decide +kernel
theorem d_ST_find_9 : decode b_ST_find 9 = .ok (.iload_n 1, 1) := by decide +kernel
theorem d_ST_find_10 : decode b_ST_find 10 = .ok (.invokestatic 16, 3) := by decide +kernel
theorem d_ST_find_13 : decode b_ST_find 13 = .ok (.iconst 4, 1) := by decide +kernel
theorem d_ST_find_14 : decode b_ST_find 14 = .ok (.iadd, 1) := by decide +kernel
theorem d_ST_find_15 : decode b_ST_find 15 = .ok (.istore 5, 2) := by decide +kernel
theorem d_ST_find_17 : decode b_ST_find 17 = .ok (.iconst 0, 1) := by decide +kernel
theorem d_ST_find_18 : decode b_ST_find 18 = .ok (.istore 6, 2) := by decide +kernel
theorem d_ST_find_20 : decode b_ST_find 20 = .ok (.iload 6, 2) := by decide +kernel
theorem d_ST_find_22 : decode b_ST_find 22 = .ok (.sipush 1000, 3) := by decide +kernel
theorem d_ST_find_25 : decode b_ST_find 25 = .ok (.if_icmp .ge 72, 3) := by decide +kernel
theorem d_ST_find_28 : decode b_ST_find 28 = .ok (.iload 5, 2) := by decide +kernel
theorem d_ST_find_30 : decode b_ST_find 30 = .ok (.iload 4, 2) := by decide +kernel
theorem d_ST_find_32 : decode b_ST_find 32 = .ok (.if_icmp .ge 65, 3) := by decide +kernel
theorem d_ST_find_35 : decode b_ST_find 35 = .ok (.aload_n 0, 1) := by decide +kernel
theorem d_ST_find_36 : decode b_ST_find 36 = .ok (.iload 5, 2) := by decide +kernel
theorem d_ST_find_38 : decode b_ST_find 38 = .ok (.invokevirtual 31, 3) := by decide +kernel
theorem d_ST_find_41 : decode b_ST_find 41 = .ok (.istore 7, 2) := by decide +kernel
theorem d_ST_find_43 : decode b_ST_find 43 = .ok (.iload 7, 2) := by decide +kernel
theorem d_ST_find_45 : decode b_ST_find 45 = .ok (.invokestatic 16, 3) := by decide +kernel
theorem d_ST_find_48 : decode b_ST_find 48 = .ok (.iconst 1, 1) := by decide +kernel
theorem d_ST_find_49 : decode b_ST_find 49 = .ok (.isub, 1) := by decide +kernel
theorem d_ST_find_50 : decode b_ST_find 50 = .ok (.istore 8, 2) := by decide +kernel
theorem d_ST_find_52 : decode b_ST_find 52 = .ok (.iload 8, 2) := by decide +kernel
theorem d_ST_find_54 : decode b_ST_find 54 = .ok (.iload 5, 2) := by decide +kernel
theorem d_ST_find_56 : decode b_ST_find 56 = .ok (.isub, 1) := by decide +kernel
theorem d_ST_find_57 : decode b_ST_find 57 = .ok (.iconst 1, 1) := by decide +kernel
theorem d_ST_find_58 : decode b_ST_find 58 = .ok (.isub, 1) := by decide +kernel
theorem d_ST_find_59 : decode b_ST_find 59 = .ok (.iload_n 3, 1) := by decide +kernel
theorem d_ST_find_60 : decode b_ST_find 60 = .ok (.iload_n 2, 1) := by decide +kernel
theorem d_ST_find_61 : decode b_ST_find 61 = .ok (.isub, 1) := by decide +kernel
theorem d_ST_find_62 : decode b_ST_find 62 = .ok (.if_icmp .ne 21, 3) := by decide +kernel
theorem d_ST_find_65 : decode b_ST_find 65 = .ok (.aload_n 0, 1) := by decide +kernel
theorem d_ST_find_66 : decode b_ST_find 66 = .ok (.iload 5, 2) := by decide +kernel
theorem d_ST_find_68 : decode b_ST_find 68 = .ok (.iconst 1, 1) := by decide +kernel
theorem d_ST_find_69 : decode b_ST_find 69 = .ok (.iadd, 1) := by decide +kernel
theorem d_ST_find_70 : decode b_ST_find 70 = .ok (.iload 8, 2) := by decide +kernel
theorem d_ST_find_72 : decode b_ST_find 72 = .ok (.iload_n 2, 1) := by decide +kernel
theorem d_ST_find_73 : decode b_ST_find 73 = .ok (.iload_n 3, 1) := by decide +kernel
theorem d_ST_find_74 : decode b_ST_find 74 = .ok (.invokevirtual 34, 3) := by decide +kernel
theorem d_ST_find_77 : decode b_ST_find 77 = .ok (.ifCond .ne 6, 3) := by decide +kernel
theorem d_ST_find_80 : decode b_ST_find 80 = .ok (.iload 7, 2) := by decide +kernel
theorem d_ST_find_82 : decode b_ST_find 82 = .ok (.ireturn, 1) := by decide +kernel
theorem d_ST_find_83 : decode b_ST_find 83 = .ok (.aload_n 0, 1) := by decide +kernel
theorem d_ST_find_84 : decode b_ST_find 84 = .ok (.iload 7, 2) := by decide +kernel
theorem d_ST_find_86 : decode b_ST_find 86 = .ok (.invokevirtual 28, 3) := by decide +kernel
theorem d_ST_find_89 : decode b_ST_find 89 = .ok (.istore 5, 2) := by decide +kernel
theorem d_ST_find_91 : decode b_ST_find 91 = .ok (.iinc 6 1, 3) := by decide +kernel
theorem d_ST_find_94 : decode b_ST_find 94 = .ok (.goto (-74), 3) := by decide +kernel
theorem d_ST_find_97 : decode b_ST_find 97 = .ok (.iconst 0, 1) := by decide +kernel
theorem d_ST_find_98 : decode b_ST_find 98 = .ok (.ireturn, 1) := by decide +kernel
abbrev b_ST_item : ByteArray := prog_10_method_14_code
def y_ST_item : MethodName := ⟨R_ST, "item", "(II)I"⟩
theorem kc_ST_item : Cond.code y_ST_item b_ST_item 7 (some .int) ∈ lw_g := lw_gm (List.mem_append_right _ (List.mem_of_getElem? (i := 890) (by decide +kernel))) rfl
abbrev mw_ST_item : List Cond := Cond.code y_ST_item b_ST_item 7 (some .int) :: lw_g
theorem hd_ST_item : y_ST_item.cls = R_ST ∧ y_ST_item.cls ≠ "java/lang/invoke/MethodHandle" ∧ y_ST_item.cls ≠ "java/lang/invoke/VarHandle" ∧ (parseMethodDescriptor y_ST_item.desc).map (fun d => d.parameters.length) = some 2 := by decide +kernel
theorem d_ST_item_0 : decode b_ST_item 0 = .ok (.aload_n 0, 1) := by decide +kernel
theorem d_ST_item_1 : decode b_ST_item 1 = .ok (.iload_n 1, 1) := by decide +kernel
theorem d_ST_item_2 : decode b_ST_item 2 = .ok (.invokevirtual 28, 3) := by decide +kernel
theorem d_ST_item_5 : decode b_ST_item 5 = .ok (.iconst 1, 1) := by decide +kernel
theorem d_ST_item_6 : decode b_ST_item 6 = .ok (.isub, 1) := by decide +kernel
theorem d_ST_item_7 : decode b_ST_item 7 = .ok (.istore_n 3, 1) := by decide +kernel
theorem d_ST_item_8 : decode b_ST_item 8 = .ok (.iload_n 1, 1) := by decide +kernel
theorem d_ST_item_9 : decode b_ST_item 9 = .ok (.invokestatic 16, 3) := by decide +kernel
theorem d_ST_item_12 : decode b_ST_item 12 = .ok (.iconst 4, 1) := by decide +kernel
theorem d_ST_item_13 : decode b_ST_item 13 = .ok (.iadd, 1) := by decide +kernel
theorem d_ST_item_14 : decode b_ST_item 14 = .ok (.istore 4, 2) := by decide +kernel
theorem d_ST_item_16 : decode b_ST_item 16 = .ok (.iconst 0, 1) := by decide +kernel
theorem d_ST_item_17 : decode b_ST_item 17 = .ok (.istore 5, 2) := by decide +kernel
theorem d_ST_item_19 : decode b_ST_item 19 = .ok (.iload 5, 2) := by decide +kernel
theorem d_ST_item_21 : decode b_ST_item 21 = .ok (.sipush 1000, 3) := by decide +kernel
theorem d_ST_item_24 : decode b_ST_item 24 = .ok (.if_icmp .ge 40, 3) := by decide +kernel
theorem d_ST_item_27 : decode b_ST_item 27 = .ok (.iload 4, 2) := by decide +kernel
theorem d_ST_item_29 : decode b_ST_item 29 = .ok (.iload_n 3, 1) := by decide +kernel
theorem d_ST_item_30 : decode b_ST_item 30 = .ok (.if_icmp .ge 34, 3) := by decide +kernel
theorem d_ST_item_33 : decode b_ST_item 33 = .ok (.aload_n 0, 1) := by decide +kernel
theorem d_ST_item_34 : decode b_ST_item 34 = .ok (.iload 4, 2) := by decide +kernel
theorem d_ST_item_36 : decode b_ST_item 36 = .ok (.invokevirtual 31, 3) := by decide +kernel
theorem d_ST_item_39 : decode b_ST_item 39 = .ok (.istore 6, 2) := by decide +kernel
theorem d_ST_item_41 : decode b_ST_item 41 = .ok (.iload 5, 2) := by decide +kernel
theorem d_ST_item_43 : decode b_ST_item 43 = .ok (.iload_n 2, 1) := by decide +kernel
theorem d_ST_item_44 : decode b_ST_item 44 = .ok (.if_icmp .ne 6, 3) := by decide +kernel
theorem d_ST_item_47 : decode b_ST_item 47 = .ok (.iload 6, 2) := by decide +kernel
theorem d_ST_item_49 : decode b_ST_item 49 = .ok (.ireturn, 1) := by decide +kernel
theorem d_ST_item_50 : decode b_ST_item 50 = .ok (.aload_n 0, 1) := by decide +kernel
theorem d_ST_item_51 : decode b_ST_item 51 = .ok (.iload 6, 2) := by decide +kernel
theorem d_ST_item_53 : decode b_ST_item 53 = .ok (.invokevirtual 28, 3) := by decide +kernel
theorem d_ST_item_56 : decode b_ST_item 56 = .ok (.istore 4, 2) := by decide +kernel
theorem d_ST_item_58 : decode b_ST_item 58 = .ok (.iinc 5 1, 3) := by decide +kernel
theorem d_ST_item_61 : decode b_ST_item 61 = .ok (.goto (-42), 3) := by decide +kernel
theorem d_ST_item_64 : decode b_ST_item 64 = .ok (.iconst 0, 1) := by decide +kernel
theorem d_ST_item_65 : decode b_ST_item 65 = .ok (.ireturn, 1) := by decide +kernel
abbrev b_ST_isPlain : ByteArray := prog_10_method_16_code
def y_ST_isPlain : MethodName := ⟨R_ST, "isPlain", "(II)Z"⟩
theorem kc_ST_isPlain : Cond.code y_ST_isPlain b_ST_isPlain 5 (some .boolean) ∈ lw_g := lw_gm (List.mem_append_right _ (List.mem_of_getElem? (i := 564) (by decide +kernel))) rfl
abbrev mw_ST_isPlain : List Cond := Cond.code y_ST_isPlain b_ST_isPlain 5 (some .boolean) :: lw_g
theorem hd_ST_isPlain : y_ST_isPlain.cls = R_ST ∧ y_ST_isPlain.cls ≠ "java/lang/invoke/MethodHandle" ∧ y_ST_isPlain.cls ≠ "java/lang/invoke/VarHandle" ∧ (parseMethodDescriptor y_ST_isPlain.desc).map (fun d => d.parameters.length) = some 2 := by decide +kernel
theorem d_ST_isPlain_0 : decode b_ST_isPlain 0 = .ok (.iload_n 1, 1) := by decide +kernel
theorem d_ST_isPlain_1 : decode b_ST_isPlain 1 = .ok (.iload_n 2, 1) := by decide +kernel
theorem d_ST_isPlain_2 : decode b_ST_isPlain 2 = .ok (.if_icmp .ge 13, 3) := by decide +kernel
theorem d_ST_isPlain_5 : decode b_ST_isPlain 5 = .ok (.aload_n 0, 1) := by decide +kernel
theorem d_ST_isPlain_6 : decode b_ST_isPlain 6 = .ok (.iload_n 1, 1) := by decide +kernel
theorem d_ST_isPlain_7 : decode b_ST_isPlain 7 = .ok (.invokevirtual 44, 3) := by decide +kernel
theorem d_ST_isPlain_10 : decode b_ST_isPlain 10 = .ok (.bipush 36, 2) := by decide +kernel
theorem d_ST_isPlain_12 : decode b_ST_isPlain 12 = .ok (.if_icmp .ne 5, 3) := by decide +kernel
theorem d_ST_isPlain_15 : decode b_ST_isPlain 15 = .ok (.iconst 0, 1) := by decide +kernel
theorem d_ST_isPlain_16 : decode b_ST_isPlain 16 = .ok (.ireturn, 1) := by decide +kernel
theorem d_ST_isPlain_17 : decode b_ST_isPlain 17 = .ok (.iload_n 1, 1) := by decide +kernel
theorem d_ST_isPlain_18 : decode b_ST_isPlain 18 = .ok (.istore_n 3, 1) := by decide +kernel
theorem d_ST_isPlain_19 : decode b_ST_isPlain 19 = .ok (.iload_n 3, 1) := by decide +kernel
theorem d_ST_isPlain_20 : decode b_ST_isPlain 20 = .ok (.iload_n 2, 1) := by decide +kernel
theorem d_ST_isPlain_21 : decode b_ST_isPlain 21 = .ok (.if_icmp .ge 30, 3) := by decide +kernel
theorem d_ST_isPlain_24 : decode b_ST_isPlain 24 = .ok (.aload_n 0, 1) := by decide +kernel
theorem d_ST_isPlain_25 : decode b_ST_isPlain 25 = .ok (.iload_n 3, 1) := by decide +kernel
theorem d_ST_isPlain_26 : decode b_ST_isPlain 26 = .ok (.invokevirtual 44, 3) := by decide +kernel
theorem d_ST_isPlain_29 : decode b_ST_isPlain 29 = .ok (.istore 4, 2) := by decide +kernel
theorem d_ST_isPlain_31 : decode b_ST_isPlain 31 = .ok (.iload 4, 2) := by decide +kernel
theorem d_ST_isPlain_33 : decode b_ST_isPlain 33 = .ok (.bipush 46, 2) := by decide +kernel
theorem d_ST_isPlain_35 : decode b_ST_isPlain 35 = .ok (.if_icmp .eq 8, 3) := by decide +kernel
theorem d_ST_isPlain_38 : decode b_ST_isPlain 38 = .ok (.iload 4, 2) := by decide +kernel
theorem d_ST_isPlain_40 : decode b_ST_isPlain 40 = .ok (.ifCond .ne 5, 3) := by decide +kernel
theorem d_ST_isPlain_43 : decode b_ST_isPlain 43 = .ok (.iconst 0, 1) := by decide +kernel
theorem d_ST_isPlain_44 : decode b_ST_isPlain 44 = .ok (.ireturn, 1) := by decide +kernel
theorem d_ST_isPlain_45 : decode b_ST_isPlain 45 = .ok (.iinc 3 1, 3) := by decide +kernel
theorem d_ST_isPlain_48 : decode b_ST_isPlain 48 = .ok (.goto (-29), 3) := by decide +kernel
theorem d_ST_isPlain_51 : decode b_ST_isPlain 51 = .ok (.iconst 1, 1) := by decide +kernel
theorem d_ST_isPlain_52 : decode b_ST_isPlain 52 = .ok (.ireturn, 1) := by decide +kernel
abbrev b_ST_indexNamed : ByteArray := prog_10_method_17_code
def y_ST_indexNamed : MethodName := ⟨R_ST, "indexNamed", "(II)I"⟩
theorem kc_ST_indexNamed : Cond.code y_ST_indexNamed b_ST_indexNamed 7 (some .int) ∈ lw_g := lw_gm (List.mem_append_right _ (List.mem_of_getElem? (i := 384) (by decide +kernel))) rfl
abbrev mw_ST_indexNamed : List Cond := Cond.code y_ST_indexNamed b_ST_indexNamed 7 (some .int) :: lw_g
theorem hd_ST_indexNamed : y_ST_indexNamed.cls = R_ST ∧ y_ST_indexNamed.cls ≠ "java/lang/invoke/MethodHandle" ∧ y_ST_indexNamed.cls ≠ "java/lang/invoke/VarHandle" ∧ (parseMethodDescriptor y_ST_indexNamed.desc).map (fun d => d.parameters.length) = some 2 := by decide +kernel
theorem d_ST_indexNamed_0 : decode b_ST_indexNamed 0 = .ok (.iload_n 2, 1) := by decide +kernel
theorem d_ST_indexNamed_1 : decode b_ST_indexNamed 1 = .ok (.iload_n 1, 1) := by decide +kernel
theorem d_ST_indexNamed_2 : decode b_ST_indexNamed 2 = .ok (.isub, 1) := by decide +kernel
theorem d_ST_indexNamed_3 : decode b_ST_indexNamed 3 = .ok (.istore_n 3, 1) := by decide +kernel
theorem d_ST_indexNamed_4 : decode b_ST_indexNamed 4 = .ok (.iload_n 3, 1) := by decide +kernel
theorem d_ST_indexNamed_5 : decode b_ST_indexNamed 5 = .ok (.iconst 1, 1) := by decide +kernel
theorem d_ST_indexNamed_6 : decode b_ST_indexNamed 6 = .ok (.if_icmp .lt 23, 3) := by decide +kernel
theorem d_ST_indexNamed_9 : decode b_ST_indexNamed 9 = .ok (.iload_n 3, 1) := by decide +kernel
theorem d_ST_indexNamed_10 : decode b_ST_indexNamed 10 = .ok (.iconst 4, 1) := by decide +kernel
theorem d_ST_indexNamed_11 : decode b_ST_indexNamed 11 = .ok (.if_icmp .gt 18, 3) := by decide +kernel
theorem d_ST_indexNamed_14 : decode b_ST_indexNamed 14 = .ok (.iload_n 3, 1) := by decide +kernel
theorem d_ST_indexNamed_15 : decode b_ST_indexNamed 15 = .ok (.iconst 1, 1) := by decide +kernel
theorem d_ST_indexNamed_16 : decode b_ST_indexNamed 16 = .ok (.if_icmp .le 15, 3) := by decide +kernel
theorem d_ST_indexNamed_19 : decode b_ST_indexNamed 19 = .ok (.aload_n 0, 1) := by decide +kernel
theorem d_ST_indexNamed_20 : decode b_ST_indexNamed 20 = .ok (.iload_n 1, 1) := by decide +kernel
theorem d_ST_indexNamed_21 : decode b_ST_indexNamed 21 = .ok (.invokevirtual 44, 3) := by decide +kernel
theorem d_ST_indexNamed_24 : decode b_ST_indexNamed 24 = .ok (.bipush 48, 2) := by decide +kernel
theorem d_ST_indexNamed_26 : decode b_ST_indexNamed 26 = .ok (.if_icmp .ne 5, 3) := by decide +kernel
theorem d_ST_indexNamed_29 : decode b_ST_indexNamed 29 = .ok (.iconst (-1), 1) := by decide +kernel
theorem d_ST_indexNamed_30 : decode b_ST_indexNamed 30 = .ok (.ireturn, 1) := by decide +kernel
theorem d_ST_indexNamed_31 : decode b_ST_indexNamed 31 = .ok (.iconst 0, 1) := by decide +kernel
theorem d_ST_indexNamed_32 : decode b_ST_indexNamed 32 = .ok (.istore 4, 2) := by decide +kernel
theorem d_ST_indexNamed_34 : decode b_ST_indexNamed 34 = .ok (.iload_n 1, 1) := by decide +kernel
theorem d_ST_indexNamed_35 : decode b_ST_indexNamed 35 = .ok (.istore 5, 2) := by decide +kernel
theorem d_ST_indexNamed_37 : decode b_ST_indexNamed 37 = .ok (.iload 5, 2) := by decide +kernel
theorem d_ST_indexNamed_39 : decode b_ST_indexNamed 39 = .ok (.iload_n 2, 1) := by decide +kernel
theorem d_ST_indexNamed_40 : decode b_ST_indexNamed 40 = .ok (.if_icmp .ge 46, 3) := by decide +kernel
theorem d_ST_indexNamed_43 : decode b_ST_indexNamed 43 = .ok (.aload_n 0, 1) := by decide +kernel
theorem d_ST_indexNamed_44 : decode b_ST_indexNamed 44 = .ok (.iload 5, 2) := by decide +kernel
theorem d_ST_indexNamed_46 : decode b_ST_indexNamed 46 = .ok (.invokevirtual 44, 3) := by decide +kernel
theorem d_ST_indexNamed_49 : decode b_ST_indexNamed 49 = .ok (.istore 6, 2) := by decide +kernel
theorem d_ST_indexNamed_51 : decode b_ST_indexNamed 51 = .ok (.iload 6, 2) := by decide +kernel
theorem d_ST_indexNamed_53 : decode b_ST_indexNamed 53 = .ok (.bipush 48, 2) := by decide +kernel
theorem d_ST_indexNamed_55 : decode b_ST_indexNamed 55 = .ok (.if_icmp .lt 10, 3) := by decide +kernel
theorem d_ST_indexNamed_58 : decode b_ST_indexNamed 58 = .ok (.iload 6, 2) := by decide +kernel
theorem d_ST_indexNamed_60 : decode b_ST_indexNamed 60 = .ok (.bipush 57, 2) := by decide +kernel
theorem d_ST_indexNamed_62 : decode b_ST_indexNamed 62 = .ok (.if_icmp .le 5, 3) := by decide +kernel
theorem d_ST_indexNamed_65 : decode b_ST_indexNamed 65 = .ok (.iconst (-1), 1) := by decide +kernel
theorem d_ST_indexNamed_66 : decode b_ST_indexNamed 66 = .ok (.ireturn, 1) := by decide +kernel
theorem d_ST_indexNamed_67 : decode b_ST_indexNamed 67 = .ok (.iload 4, 2) := by decide +kernel
theorem d_ST_indexNamed_69 : decode b_ST_indexNamed 69 = .ok (.bipush 10, 2) := by decide +kernel
theorem d_ST_indexNamed_71 : decode b_ST_indexNamed 71 = .ok (.imul, 1) := by decide +kernel
theorem d_ST_indexNamed_72 : decode b_ST_indexNamed 72 = .ok (.iload 6, 2) := by decide +kernel
theorem d_ST_indexNamed_74 : decode b_ST_indexNamed 74 = .ok (.iadd, 1) := by decide +kernel
theorem d_ST_indexNamed_75 : decode b_ST_indexNamed 75 = .ok (.bipush 48, 2) := by decide +kernel
theorem d_ST_indexNamed_77 : decode b_ST_indexNamed 77 = .ok (.isub, 1) := by decide +kernel
theorem d_ST_indexNamed_78 : decode b_ST_indexNamed 78 = .ok (.istore 4, 2) := by decide +kernel
theorem d_ST_indexNamed_80 : decode b_ST_indexNamed 80 = .ok (.iinc 5 1, 3) := by decide +kernel
theorem d_ST_indexNamed_83 : decode b_ST_indexNamed 83 = .ok (.goto (-46), 3) := by decide +kernel
theorem d_ST_indexNamed_86 : decode b_ST_indexNamed 86 = .ok (.iload 4, 2) := by decide +kernel
theorem d_ST_indexNamed_88 : decode b_ST_indexNamed 88 = .ok (.ireturn, 1) := by decide +kernel
set_option maxHeartbeats 4000000 in
set_option maxRecDepth 100000 in
theorem c_JI_compare (l : Launch) (D : va_G) (cB cI : ClassId) (p0 : Int32) (p1 : Int32) : Met l y_JI_compare mw_JI_compare { frames := 0, cells := 0, slots := 0, locals := 0 } (va_Pc [.int p0, .int p1] (fun U => va_P D vwCl [] U.heap ∧ hk_ D cB cI U)) (vp_Si (fun r => r = tw_JI_compare p0 p1)) 0 0 (fun _ => False) := by
  refine Met.ofW (cc := b_JI_compare) (maxL := 2) (ret := (some .int)) (by decide) rfl ?_
  intro p e s m args below meth c s₁ B0 hml hv
  obtain ⟨rfl, hP, hk⟩ := hv
  have hK := hk.1
  have hN := hk.2.1
  have hx := B0.exec
  have hb := B0.bytes
  have hr := B0.returns
  have hT : ∀ w ∈ lw_g, w.before _ s = true := fun w h => atoms_spec (ws := mw_JI_compare) B0.pre w (List.mem_cons_of_mem _ h)
  have hown : s.vm.findClass R_JI = some m.cls := findClass_of_methodNamed B0.named
  have hlocks := B0.notSynchronized
  have hl := lv_entry ([.int p0, .int p1]) (n := 2) (Nat.le_of_ble_eq_true rfl)
  rw [lg_entry_eq]
  generalize (lg_sl ([.int p0, .int p1]) ++ List.replicate (2 - (lg_sl ([.int p0, .int p1])).length) Slot.unset).toArray = ls at hl ⊢
  have hl : lv_has ls 2 [(0, .int p0), (1, .int p1)] := hl
  refine lv_iload_n hx hb d_JI_compare_0 rfl (lv_at hl 0 rfl) ?_
  refine lv_iload_n hx hb d_JI_compare_1 rfl (lv_at hl 1 rfl) ?_
  refine lv_icmp_ge (tgt := 9) hx hb d_JI_compare_2 (by decide) (fun c_1 => ?_) (fun c_1 => ?_)
  · refine lv_iload_n hx hb d_JI_compare_9 rfl (lv_at hl 0 rfl) ?_
    refine lv_iload_n hx hb d_JI_compare_10 rfl (lv_at hl 1 rfl) ?_
    refine lv_icmp_ne (tgt := 18) hx hb d_JI_compare_11 (by decide) (fun c_2 => ?_) (fun c_2 => ?_)
    · refine lv_iconst (v := 1) hx hb d_JI_compare_18 (by decide) ?_
      exact W.iret (v := 1) hx hb hr (fun t ht hW => ⟨1, rfl, (by rw [tw_JI_compare, if_pos c_1, if_neg c_2]; first | done | rfl), ht⟩) (fun _ h => by cases h) d_JI_compare_19
    · refine lv_iconst (v := 0) hx hb d_JI_compare_14 (by decide) ?_
      refine lv_goto (tgt := 19) hx hb d_JI_compare_15 (by decide) ?_
      exact W.iret (v := 0) hx hb hr (fun t ht hW => ⟨0, rfl, (by rw [tw_JI_compare, if_pos c_1, if_pos c_2]; first | done | rfl), ht⟩) (fun _ h => by cases h) d_JI_compare_19
  · refine lv_iconst (v := -1) hx hb d_JI_compare_5 (by decide) ?_
    refine lv_goto (tgt := 19) hx hb d_JI_compare_6 (by decide) ?_
    exact W.iret (v := (-1)) hx hb hr (fun t ht hW => ⟨(-1), rfl, (by rw [tw_JI_compare, if_neg c_1]; first | done | rfl), ht⟩) (fun _ h => by cases h) d_JI_compare_19
set_option maxHeartbeats 4000000 in
set_option maxRecDepth 100000 in
theorem c_JL_compare (l : Launch) (D : va_G) (cB cI : ClassId) (p0 : Int64) (p1 : Int64) : Met l y_JL_compare mw_JL_compare { frames := 0, cells := 0, slots := 0, locals := 0 } (va_Pc [.long p0, .long p1] (fun U => va_P D vwCl [] U.heap ∧ hk_ D cB cI U)) (vp_Si (fun r => r = tw_JL_compare p0 p1)) 0 0 (fun _ => False) := by
  refine Met.ofW (cc := b_JL_compare) (maxL := 4) (ret := (some .int)) (by decide) rfl ?_
  intro p e s m args below meth c s₁ B0 hml hv
  obtain ⟨rfl, hP, hk⟩ := hv
  have hK := hk.1
  have hN := hk.2.1
  have hx := B0.exec
  have hb := B0.bytes
  have hr := B0.returns
  have hT : ∀ w ∈ lw_g, w.before _ s = true := fun w h => atoms_spec (ws := mw_JL_compare) B0.pre w (List.mem_cons_of_mem _ h)
  have hown : s.vm.findClass R_JL = some m.cls := findClass_of_methodNamed B0.named
  have hlocks := B0.notSynchronized
  have hl := lv_entry ([.long p0, .long p1]) (n := 4) (Nat.le_of_ble_eq_true rfl)
  rw [lg_entry_eq]
  generalize (lg_sl ([.long p0, .long p1]) ++ List.replicate (4 - (lg_sl ([.long p0, .long p1])).length) Slot.unset).toArray = ls at hl ⊢
  have hl : lv_has ls 4 [(0, .long p0), (2, .long p1)] := hl
  refine lv_lload_n hx hb d_JL_compare_0 rfl (lv_at hl 0 rfl) ?_
  refine lv_lload_n hx hb d_JL_compare_1 rfl (lv_at hl 1 rfl) ?_
  refine W.lcmp hx hb d_JL_compare_2 ?_
  refine lv_if_ge (tgt := 10) hx hb d_JL_compare_3 (by decide) (fun c_1 => ?_) (fun c_1 => ?_)
  · refine lv_lload_n hx hb d_JL_compare_10 rfl (lv_at hl 0 rfl) ?_
    refine lv_lload_n hx hb d_JL_compare_11 rfl (lv_at hl 1 rfl) ?_
    refine W.lcmp hx hb d_JL_compare_12 ?_
    refine lv_if_ne (tgt := 20) hx hb d_JL_compare_13 (by decide) (fun c_2 => ?_) (fun c_2 => ?_)
    · refine lv_iconst (v := 1) hx hb d_JL_compare_20 (by decide) ?_
      exact W.iret (v := 1) hx hb hr (fun t ht hW => ⟨1, rfl, (by rw [tw_JL_compare, if_pos c_1, if_neg c_2]; first | done | rfl), ht⟩) (fun _ h => by cases h) d_JL_compare_21
    · refine lv_iconst (v := 0) hx hb d_JL_compare_16 (by decide) ?_
      refine lv_goto (tgt := 21) hx hb d_JL_compare_17 (by decide) ?_
      exact W.iret (v := 0) hx hb hr (fun t ht hW => ⟨0, rfl, (by rw [tw_JL_compare, if_pos c_1, if_pos c_2]; first | done | rfl), ht⟩) (fun _ h => by cases h) d_JL_compare_21
  · refine lv_iconst (v := -1) hx hb d_JL_compare_6 (by decide) ?_
    refine lv_goto (tgt := 21) hx hb d_JL_compare_7 (by decide) ?_
    exact W.iret (v := (-1)) hx hb hr (fun t ht hW => ⟨(-1), rfl, (by rw [tw_JL_compare, if_neg c_1]; first | done | rfl), ht⟩) (fun _ h => by cases h) d_JL_compare_21
set_option maxHeartbeats 4000000 in
set_option maxRecDepth 100000 in
theorem c_ST_int32 (l : Launch) (D : va_G) (cB cI : ClassId) (aS aB : Nat) (b : Nat → UInt8) (p0 : Int32) : Met l y_ST_int32 mw_ST_int32 { frames := 0, cells := 0, slots := 0, locals := 0 } (va_Pc [.ref aS, .int p0] (fun U => va_P D vwCl [(aS, .inr (0, [.ref aB])), (aB, .inl (cB, 202000, .inl (by_ b)))] U.heap ∧ hk_ D cB cI U)) (vp_Si (fun r => r = tw_ST_int32 b p0)) 0 0 (fun _ => False) := by
  refine Met.ofW (cc := b_ST_int32) (maxL := 2) (ret := (some .int)) (by decide) rfl ?_
  intro p e s m args below meth c s₁ B0 hml hv
  obtain ⟨rfl, hP, hk⟩ := hv
  have hK := hk.1
  have hN := hk.2.1
  have hx := B0.exec
  have hb := B0.bytes
  have hr := B0.returns
  have hT : ∀ w ∈ lw_g, w.before _ s = true := fun w h => atoms_spec (ws := mw_ST_int32) B0.pre w (List.mem_cons_of_mem _ h)
  have hown : s.vm.findClass R_ST = some m.cls := findClass_of_methodNamed B0.named
  have hlocks := B0.notSynchronized
  have hl := lv_entry ([.ref aS, .int p0]) (n := 2) (Nat.le_of_ble_eq_true rfl)
  rw [lg_entry_eq]
  generalize (lg_sl ([.ref aS, .int p0]) ++ List.replicate (2 - (lg_sl ([.ref aS, .int p0])).length) Slot.unset).toArray = ls at hl ⊢
  have hl : lv_has ls 2 [(0, .ref aS), (1, .int p0)] := hl
  refine lv_iload_n hx hb d_ST_int32_0 rfl (lv_at hl 1 rfl) ?_
  refine lv_if_lt (tgt := 15) hx hb d_ST_int32_1 (by decide) (fun c_1 => ?_) (fun c_1 => ?_)
  · refine lv_iconst (v := 0) hx hb d_ST_int32_15 (by decide) ?_
    exact W.iret (v := 0) hx hb hr (fun t ht hW => ⟨0, rfl, (by rw [tw_ST_int32, if_pos c_1]; first | done | rfl), ht⟩) (fun _ h => by cases h) d_ST_int32_16
  · refine lv_iload_n hx hb d_ST_int32_4 rfl (lv_at hl 1 rfl) ?_
    refine lv_aload_n hx hb d_ST_int32_5 rfl (lv_at hl 0 rfl) ?_
    refine va_get (D := D) (ci := 0) (v := .ref aB) (C := R_ST) (T := T_ST) (N := 1) hx hb hT u_ST hown hK hP 0 rfl rfl 0 (by decide) (hT _ k_37) (fun _ h9 => h9) rfl d_ST_int32_6 ?_
    refine va_alen (v := 202000) hx hb hK hP 1 0 rfl rfl rfl d_ST_int32_9 ?_
    refine lv_iconst (v := 4) hx hb d_ST_int32_10 (by decide) ?_
    refine lv_isub hx hb d_ST_int32_11 ?_
    refine lv_icmp_le (tgt := 17) hx hb d_ST_int32_12 (by decide) (fun c_2 => ?_) (fun c_2 => ?_)
    · refine lv_aload_n hx hb d_ST_int32_17 rfl (lv_at hl 0 rfl) ?_
      refine va_get (D := D) (ci := 0) (v := .ref aB) (C := R_ST) (T := T_ST) (N := 1) hx hb hT u_ST hown hK hP 0 rfl rfl 0 (by decide) (hT _ k_37) (fun _ h9 => h9) rfl d_ST_int32_18 ?_
      refine lv_iload_n hx hb d_ST_int32_21 rfl (lv_at hl 1 rfl) ?_
      refine va_bald hx hb hK hP 1 0 rfl rfl (in_le c_1 c_2 (by decide)) d_ST_int32_22 ?_
      refine lv_sipush (v := 255) hx hb d_ST_int32_23 (by decide) ?_
      refine lv_iand hx hb d_ST_int32_26 ?_
      refine lv_aload_n hx hb d_ST_int32_27 rfl (lv_at hl 0 rfl) ?_
      refine va_get (D := D) (ci := 0) (v := .ref aB) (C := R_ST) (T := T_ST) (N := 1) hx hb hT u_ST hown hK hP 0 rfl rfl 0 (by decide) (hT _ k_37) (fun _ h9 => h9) rfl d_ST_int32_28 ?_
      refine lv_iload_n hx hb d_ST_int32_31 rfl (lv_at hl 1 rfl) ?_
      refine lv_iconst (v := 1) hx hb d_ST_int32_32 (by decide) ?_
      refine lv_iadd hx hb d_ST_int32_33 ?_
      refine va_bald hx hb hK hP 1 0 rfl rfl (in_addp c_1 c_2 (by decide) (by decide) (by decide)) d_ST_int32_34 ?_
      refine lv_sipush (v := 255) hx hb d_ST_int32_35 (by decide) ?_
      refine lv_iand hx hb d_ST_int32_38 ?_
      refine lv_bipush (v := 8) hx hb d_ST_int32_39 (by decide) ?_
      refine lv_ishl hx hb d_ST_int32_41 ?_
      refine lv_ior hx hb d_ST_int32_42 ?_
      refine lv_aload_n hx hb d_ST_int32_43 rfl (lv_at hl 0 rfl) ?_
      refine va_get (D := D) (ci := 0) (v := .ref aB) (C := R_ST) (T := T_ST) (N := 1) hx hb hT u_ST hown hK hP 0 rfl rfl 0 (by decide) (hT _ k_37) (fun _ h9 => h9) rfl d_ST_int32_44 ?_
      refine lv_iload_n hx hb d_ST_int32_47 rfl (lv_at hl 1 rfl) ?_
      refine lv_iconst (v := 2) hx hb d_ST_int32_48 (by decide) ?_
      refine lv_iadd hx hb d_ST_int32_49 ?_
      refine va_bald hx hb hK hP 1 0 rfl rfl (in_addp c_1 c_2 (by decide) (by decide) (by decide)) d_ST_int32_50 ?_
      refine lv_sipush (v := 255) hx hb d_ST_int32_51 (by decide) ?_
      refine lv_iand hx hb d_ST_int32_54 ?_
      refine lv_bipush (v := 16) hx hb d_ST_int32_55 (by decide) ?_
      refine lv_ishl hx hb d_ST_int32_57 ?_
      refine lv_ior hx hb d_ST_int32_58 ?_
      refine lv_aload_n hx hb d_ST_int32_59 rfl (lv_at hl 0 rfl) ?_
      refine va_get (D := D) (ci := 0) (v := .ref aB) (C := R_ST) (T := T_ST) (N := 1) hx hb hT u_ST hown hK hP 0 rfl rfl 0 (by decide) (hT _ k_37) (fun _ h9 => h9) rfl d_ST_int32_60 ?_
      refine lv_iload_n hx hb d_ST_int32_63 rfl (lv_at hl 1 rfl) ?_
      refine lv_iconst (v := 3) hx hb d_ST_int32_64 (by decide) ?_
      refine lv_iadd hx hb d_ST_int32_65 ?_
      refine va_bald hx hb hK hP 1 0 rfl rfl (in_addp c_1 c_2 (by decide) (by decide) (by decide)) d_ST_int32_66 ?_
      refine lv_sipush (v := 255) hx hb d_ST_int32_67 (by decide) ?_
      refine lv_iand hx hb d_ST_int32_70 ?_
      refine lv_bipush (v := 24) hx hb d_ST_int32_71 (by decide) ?_
      refine lv_ishl hx hb d_ST_int32_73 ?_
      refine lv_ior hx hb d_ST_int32_74 ?_
      exact W.iret (v := ((((by_ b p0.toNatClampNeg) &&& 255) ||| (((by_ b (p0 + 1).toNatClampNeg) &&& 255) <<< ((8 : Int32) &&& 31))) ||| (((by_ b (p0 + 2).toNatClampNeg) &&& 255) <<< ((16 : Int32) &&& 31))) ||| (((by_ b (p0 + 3).toNatClampNeg) &&& 255) <<< ((24 : Int32) &&& 31))) hx hb hr (fun t ht hW => ⟨((((by_ b p0.toNatClampNeg) &&& 255) ||| (((by_ b (p0 + 1).toNatClampNeg) &&& 255) <<< ((8 : Int32) &&& 31))) ||| (((by_ b (p0 + 2).toNatClampNeg) &&& 255) <<< ((16 : Int32) &&& 31))) ||| (((by_ b (p0 + 3).toNatClampNeg) &&& 255) <<< ((24 : Int32) &&& 31)), rfl, (by rw [tw_ST_int32, if_neg c_1, if_pos c_2]; first | done | rfl), ht⟩) (fun _ h => by cases h) d_ST_int32_75
    · refine lv_iconst (v := 0) hx hb d_ST_int32_15 (by decide) ?_
      exact W.iret (v := 0) hx hb hr (fun t ht hW => ⟨0, rfl, (by rw [tw_ST_int32, if_neg c_1, if_neg c_2]; first | done | rfl), ht⟩) (fun _ h => by cases h) d_ST_int32_16
set_option maxHeartbeats 4000000 in
set_option maxRecDepth 100000 in
theorem c_ST_number (l : Launch) (D : va_G) (cB cI : ClassId) (aS aB : Nat) (b : Nat → UInt8) (p0 : Int32) : Met l y_ST_number mw_ST_number { frames := 1, cells := 0, slots := 0, locals := 21 } (va_Pc [.ref aS, .int p0] (fun U => va_P D vwCl [(aS, .inr (0, [.ref aB])), (aB, .inl (cB, 202000, .inl (by_ b)))] U.heap ∧ hk_ D cB cI U)) (vp_Sl (fun r => r = tw_ST_number b p0)) 0 0 (fun _ => False) := by
  refine Met.ofW (cc := b_ST_number) (maxL := 5) (ret := (some .long)) (by decide) rfl ?_
  intro p e s m args below meth c s₁ B0 hml hv
  obtain ⟨rfl, hP, hk⟩ := hv
  have hK := hk.1
  have hN := hk.2.1
  have hx := B0.exec
  have hb := B0.bytes
  have hr := B0.returns
  have hT : ∀ w ∈ lw_g, w.before _ s = true := fun w h => atoms_spec (ws := mw_ST_number) B0.pre w (List.mem_cons_of_mem _ h)
  have hown : s.vm.findClass R_ST = some m.cls := findClass_of_methodNamed B0.named
  have hlocks := B0.notSynchronized
  have hl := lv_entry ([.ref aS, .int p0]) (n := 5) (Nat.le_of_ble_eq_true rfl)
  rw [lg_entry_eq]
  generalize (lg_sl ([.ref aS, .int p0]) ++ List.replicate (5 - (lg_sl ([.ref aS, .int p0])).length) Slot.unset).toArray = ls at hl ⊢
  have hl : lv_has ls 5 [(0, .ref aS), (1, .int p0)] := hl
  refine lv_iload_n hx hb d_ST_number_0 rfl (lv_at hl 1 rfl) ?_
  refine rd_S (val := tw_ST_placeOf p0) (As := [.int p0]) (rest := []) ⟨hx, hb, hml, hown, hT⟩ (c_ST_placeOf l D cB cI p0) (va_cwS 1 hT (gS_of k_484 k_403 k_2 kc_ST_placeOf) rfl rfl rfl hd_ST_placeOf ⟨Nat.le_of_ble_eq_true rfl, Nat.le_of_ble_eq_true rfl⟩) hk (va_P_nil) rfl hl.1 rfl (Nat.le_of_ble_eq_true rfl) d_ST_number_1 ⟨Nat.zero_le _, Nat.zero_le _⟩ ?_
  refine lv_istore_n (lv' := [(2, .int (tw_ST_placeOf p0)), (0, .ref aS), (1, .int p0)]) hx hb d_ST_number_4 rfl hl (by decide) rfl (fun ls hl => ?_)
  refine lv_aload_n hx hb d_ST_number_5 rfl (lv_at hl 1 rfl) ?_
  refine lv_iload_n hx hb d_ST_number_6 rfl (lv_at hl 0 rfl) ?_
  refine rd_V (val := tw_ST_int32 b (tw_ST_placeOf p0)) (As := [.int (tw_ST_placeOf p0)]) (rest := []) ⟨hx, hb, hml, hown, hT⟩ (c_ST_int32 l D cB cI aS aB b (tw_ST_placeOf p0)) (cwV 1 hT (gV_of k_764 k_370 k_371 k_2 kc_ST_int32) rfl rfl rfl hd_ST_int32 ⟨Nat.le_of_ble_eq_true rfl, Nat.le_of_ble_eq_true rfl⟩) hk hP (q0 := 0) rfl rfl rfl rfl hl.1 rfl (Nat.le_of_ble_eq_true rfl) d_ST_number_7 ⟨Nat.zero_le _, Nat.zero_le _⟩ ?_
  refine lv_i2l (v := (tw_ST_int32 b (tw_ST_placeOf p0)).toInt64) hx hb d_ST_number_10 rfl ?_
  refine lv_lstore_n (lv' := [(3, .long ((tw_ST_int32 b (tw_ST_placeOf p0)).toInt64)), (2, .int (tw_ST_placeOf p0)), (0, .ref aS), (1, .int p0)]) hx hb d_ST_number_11 rfl hl (by decide) rfl (fun ls hl => ?_)
  refine lv_iload_n hx hb d_ST_number_12 rfl (lv_at hl 3 rfl) ?_
  refine rd_S (val := tw_ST_kindOf p0) (As := [.int p0]) (rest := []) ⟨hx, hb, hml, hown, hT⟩ (c_ST_kindOf l D cB cI p0) (va_cwS 1 hT (gS_of k_667 k_555 k_2 kc_ST_kindOf) rfl rfl rfl hd_ST_kindOf ⟨Nat.le_of_ble_eq_true rfl, Nat.le_of_ble_eq_true rfl⟩) hk (va_P_nil) rfl hl.1 rfl (Nat.le_of_ble_eq_true rfl) d_ST_number_13 ⟨Nat.zero_le _, Nat.zero_le _⟩ ?_
  refine lv_bipush (v := 18) hx hb d_ST_number_16 (by decide) ?_
  refine lv_icmp_eq (tgt := 23) hx hb d_ST_number_18 (by decide) (fun c_1 => ?_) (fun c_1 => ?_)
  · refine lv_aload_n hx hb d_ST_number_23 rfl (lv_at hl 2 rfl) ?_
    refine lv_iload_n hx hb d_ST_number_24 rfl (lv_at hl 1 rfl) ?_
    refine lv_iconst (v := 4) hx hb d_ST_number_25 (by decide) ?_
    refine lv_iadd hx hb d_ST_number_26 ?_
    refine rd_V (val := tw_ST_int32 b ((tw_ST_placeOf p0) + 4)) (As := [.int ((tw_ST_placeOf p0) + 4)]) (rest := []) ⟨hx, hb, hml, hown, hT⟩ (c_ST_int32 l D cB cI aS aB b ((tw_ST_placeOf p0) + 4)) (cwV 1 hT (gV_of k_764 k_370 k_371 k_2 kc_ST_int32) rfl rfl rfl hd_ST_int32 ⟨Nat.le_of_ble_eq_true rfl, Nat.le_of_ble_eq_true rfl⟩) hk hP (q0 := 0) rfl rfl rfl rfl hl.1 rfl (Nat.le_of_ble_eq_true rfl) d_ST_number_27 ⟨Nat.zero_le _, Nat.zero_le _⟩ ?_
    refine lv_i2l (v := (tw_ST_int32 b ((tw_ST_placeOf p0) + 4)).toInt64) hx hb d_ST_number_30 rfl ?_
    refine lv_bipush (v := 32) hx hb d_ST_number_31 (by decide) ?_
    refine lv_lshl hx hb d_ST_number_33 rfl ?_
    refine lv_lload_n hx hb d_ST_number_34 rfl (lv_at hl 0 rfl) ?_
    refine lv_ldc2 (v := 4294967295) hx hb hown (hT _ k_765) d_ST_number_35 ?_
    refine lv_land hx hb d_ST_number_38 ?_
    refine lv_lor hx hb d_ST_number_39 ?_
    exact W.lret (v := (((tw_ST_int32 b ((tw_ST_placeOf p0) + 4)).toInt64) <<< ((32 : Int32).toInt64 &&& 63)) ||| (((tw_ST_int32 b (tw_ST_placeOf p0)).toInt64) &&& 4294967295)) hx hb hr (fun t ht hW => ⟨(((tw_ST_int32 b ((tw_ST_placeOf p0) + 4)).toInt64) <<< ((32 : Int32).toInt64 &&& 63)) ||| (((tw_ST_int32 b (tw_ST_placeOf p0)).toInt64) &&& 4294967295), rfl, (by rw [tw_ST_number, if_pos c_1]; first | done | rfl), ht⟩) (fun _ h => by cases h) d_ST_number_40
  · refine lv_lload_n hx hb d_ST_number_21 rfl (lv_at hl 0 rfl) ?_
    exact W.lret (v := (tw_ST_int32 b (tw_ST_placeOf p0)).toInt64) hx hb hr (fun t ht hW => ⟨(tw_ST_int32 b (tw_ST_placeOf p0)).toInt64, rfl, (by rw [tw_ST_number, if_neg c_1]; first | done | rfl), ht⟩) (fun _ h => by cases h) d_ST_number_22
set_option maxHeartbeats 4000000 in
set_option maxRecDepth 100000 in
theorem c_ST_endOf (l : Launch) (D : va_G) (cB cI : ClassId) (aS aB : Nat) (b : Nat → UInt8) (p0 : Int32) : Met l y_ST_endOf mw_ST_endOf { frames := 0, cells := 0, slots := 0, locals := 0 } (va_Pc [.ref aS, .int p0] (fun U => va_P D vwCl [(aS, .inr (0, [.ref aB])), (aB, .inl (cB, 202000, .inl (by_ b)))] U.heap ∧ hk_ D cB cI U)) (vp_Si (fun r => r = tw_ST_endOf b p0)) 0 0 (fun _ => False) := by
  refine Met.ofW (cc := b_ST_endOf) (maxL := 5) (ret := (some .int)) (by decide) rfl ?_
  intro p e s m args below meth c s₁ B0 hml hv
  obtain ⟨rfl, hP, hk⟩ := hv
  have hK := hk.1
  have hN := hk.2.1
  have hx := B0.exec
  have hb := B0.bytes
  have hr := B0.returns
  have hT : ∀ w ∈ lw_g, w.before _ s = true := fun w h => atoms_spec (ws := mw_ST_endOf) B0.pre w (List.mem_cons_of_mem _ h)
  have hown : s.vm.findClass R_ST = some m.cls := findClass_of_methodNamed B0.named
  have hlocks := B0.notSynchronized
  have hl := lv_entry ([.ref aS, .int p0]) (n := 5) (Nat.le_of_ble_eq_true rfl)
  rw [lg_entry_eq]
  generalize (lg_sl ([.ref aS, .int p0]) ++ List.replicate (5 - (lg_sl ([.ref aS, .int p0])).length) Slot.unset).toArray = ls at hl ⊢
  have hl : lv_has ls 5 [(0, .ref aS), (1, .int p0)] := hl
  refine lv_iload_n hx hb d_ST_endOf_0 rfl (lv_at hl 1 rfl) ?_
  refine lv_iconst (v := 5) hx hb d_ST_endOf_1 (by decide) ?_
  refine lv_iushr (v := (p0.toUInt32 >>> ((5 : Int32).toUInt32 &&& Int32.toUInt32 31)).toInt32) hx hb d_ST_endOf_2 rfl ?_
  refine lv_istore_n (lv' := [(2, .int ((p0.toUInt32 >>> ((5 : Int32).toUInt32 &&& Int32.toUInt32 31)).toInt32)), (0, .ref aS), (1, .int p0)]) hx hb d_ST_endOf_3 rfl hl (by decide) rfl (fun ls hl => ?_)
  refine lv_iload_n hx hb d_ST_endOf_4 rfl (lv_at hl 2 rfl) ?_
  refine lv_bipush (v := 31) hx hb d_ST_endOf_5 (by decide) ?_
  refine lv_iand hx hb d_ST_endOf_7 ?_
  refine lv_istore_n (lv' := [(3, .int (p0 &&& 31)), (2, .int ((p0.toUInt32 >>> ((5 : Int32).toUInt32 &&& Int32.toUInt32 31)).toInt32)), (0, .ref aS), (1, .int p0)]) hx hb d_ST_endOf_8 rfl hl (by decide) rfl (fun ls hl => ?_)
  refine lv_iload_n hx hb d_ST_endOf_9 rfl (lv_at hl 0 rfl) ?_
  refine lv_iconst (v := 2) hx hb d_ST_endOf_10 (by decide) ?_
  refine lv_icmp_eq (tgt := 24) hx hb d_ST_endOf_11 (by decide) (fun c_1 => ?_) (fun c_1 => ?_)
  · refine lv_iload_n hx hb d_ST_endOf_24 rfl (lv_at hl 1 rfl) ?_
    refine lv_aload_n hx hb d_ST_endOf_25 rfl (lv_at hl 2 rfl) ?_
    refine va_get (D := D) (ci := 0) (v := .ref aB) (C := R_ST) (T := T_ST) (N := 1) hx hb hT u_ST hown hK hP 0 rfl rfl 0 (by decide) (hT _ k_37) (fun _ h9 => h9) rfl d_ST_endOf_26 ?_
    refine va_alen (v := 202000) hx hb hK hP 1 0 rfl rfl rfl d_ST_endOf_29 ?_
    refine lv_iconst (v := 4) hx hb d_ST_endOf_30 (by decide) ?_
    refine lv_isub hx hb d_ST_endOf_31 ?_
    refine lv_icmp_le (tgt := 37) hx hb d_ST_endOf_32 (by decide) (fun c_2 => ?_) (fun c_2 => ?_)
    · refine lv_aload_n hx hb d_ST_endOf_37 rfl (lv_at hl 2 rfl) ?_
      refine va_get (D := D) (ci := 0) (v := .ref aB) (C := R_ST) (T := T_ST) (N := 1) hx hb hT u_ST hown hK hP 0 rfl rfl 0 (by decide) (hT _ k_37) (fun _ h9 => h9) rfl d_ST_endOf_38 ?_
      refine lv_iload_n hx hb d_ST_endOf_41 rfl (lv_at hl 1 rfl) ?_
      refine va_bald hx hb hK hP 1 0 rfl rfl (in_le (i_ush p0 5 (by decide) (by decide)) c_2 (by decide)) d_ST_endOf_42 ?_
      refine lv_sipush (v := 255) hx hb d_ST_endOf_43 (by decide) ?_
      refine lv_iand hx hb d_ST_endOf_46 ?_
      refine lv_aload_n hx hb d_ST_endOf_47 rfl (lv_at hl 2 rfl) ?_
      refine va_get (D := D) (ci := 0) (v := .ref aB) (C := R_ST) (T := T_ST) (N := 1) hx hb hT u_ST hown hK hP 0 rfl rfl 0 (by decide) (hT _ k_37) (fun _ h9 => h9) rfl d_ST_endOf_48 ?_
      refine lv_iload_n hx hb d_ST_endOf_51 rfl (lv_at hl 1 rfl) ?_
      refine lv_iconst (v := 1) hx hb d_ST_endOf_52 (by decide) ?_
      refine lv_iadd hx hb d_ST_endOf_53 ?_
      refine va_bald hx hb hK hP 1 0 rfl rfl (in_addp (i_ush p0 5 (by decide) (by decide)) c_2 (by decide) (by decide) (by decide)) d_ST_endOf_54 ?_
      refine lv_sipush (v := 255) hx hb d_ST_endOf_55 (by decide) ?_
      refine lv_iand hx hb d_ST_endOf_58 ?_
      refine lv_bipush (v := 8) hx hb d_ST_endOf_59 (by decide) ?_
      refine lv_ishl hx hb d_ST_endOf_61 ?_
      refine lv_ior hx hb d_ST_endOf_62 ?_
      refine lv_aload_n hx hb d_ST_endOf_63 rfl (lv_at hl 2 rfl) ?_
      refine va_get (D := D) (ci := 0) (v := .ref aB) (C := R_ST) (T := T_ST) (N := 1) hx hb hT u_ST hown hK hP 0 rfl rfl 0 (by decide) (hT _ k_37) (fun _ h9 => h9) rfl d_ST_endOf_64 ?_
      refine lv_iload_n hx hb d_ST_endOf_67 rfl (lv_at hl 1 rfl) ?_
      refine lv_iconst (v := 2) hx hb d_ST_endOf_68 (by decide) ?_
      refine lv_iadd hx hb d_ST_endOf_69 ?_
      refine va_bald hx hb hK hP 1 0 rfl rfl (in_addp (i_ush p0 5 (by decide) (by decide)) c_2 (by decide) (by decide) (by decide)) d_ST_endOf_70 ?_
      refine lv_sipush (v := 255) hx hb d_ST_endOf_71 (by decide) ?_
      refine lv_iand hx hb d_ST_endOf_74 ?_
      refine lv_bipush (v := 16) hx hb d_ST_endOf_75 (by decide) ?_
      refine lv_ishl hx hb d_ST_endOf_77 ?_
      refine lv_ior hx hb d_ST_endOf_78 ?_
      refine lv_aload_n hx hb d_ST_endOf_79 rfl (lv_at hl 2 rfl) ?_
      refine va_get (D := D) (ci := 0) (v := .ref aB) (C := R_ST) (T := T_ST) (N := 1) hx hb hT u_ST hown hK hP 0 rfl rfl 0 (by decide) (hT _ k_37) (fun _ h9 => h9) rfl d_ST_endOf_80 ?_
      refine lv_iload_n hx hb d_ST_endOf_83 rfl (lv_at hl 1 rfl) ?_
      refine lv_iconst (v := 3) hx hb d_ST_endOf_84 (by decide) ?_
      refine lv_iadd hx hb d_ST_endOf_85 ?_
      refine va_bald hx hb hK hP 1 0 rfl rfl (in_addp (i_ush p0 5 (by decide) (by decide)) c_2 (by decide) (by decide) (by decide)) d_ST_endOf_86 ?_
      refine lv_sipush (v := 255) hx hb d_ST_endOf_87 (by decide) ?_
      refine lv_iand hx hb d_ST_endOf_90 ?_
      refine lv_bipush (v := 24) hx hb d_ST_endOf_91 (by decide) ?_
      refine lv_ishl hx hb d_ST_endOf_93 ?_
      refine lv_ior hx hb d_ST_endOf_94 ?_
      refine lv_istore (lv' := [(4, .int (((((by_ b ((p0.toUInt32 >>> ((5 : Int32).toUInt32 &&& Int32.toUInt32 31)).toInt32).toNatClampNeg) &&& 255) ||| (((by_ b (((p0.toUInt32 >>> ((5 : Int32).toUInt32 &&& Int32.toUInt32 31)).toInt32) + 1).toNatClampNeg) &&& 255) <<< ((8 : Int32) &&& 31))) ||| (((by_ b (((p0.toUInt32 >>> ((5 : Int32).toUInt32 &&& Int32.toUInt32 31)).toInt32) + 2).toNatClampNeg) &&& 255) <<< ((16 : Int32) &&& 31))) ||| (((by_ b (((p0.toUInt32 >>> ((5 : Int32).toUInt32 &&& Int32.toUInt32 31)).toInt32) + 3).toNatClampNeg) &&& 255) <<< ((24 : Int32) &&& 31)))), (3, .int (p0 &&& 31)), (2, .int ((p0.toUInt32 >>> ((5 : Int32).toUInt32 &&& Int32.toUInt32 31)).toInt32)), (0, .ref aS), (1, .int p0)]) hx hb d_ST_endOf_95 hl (by decide) rfl (fun ls hl => ?_)
      refine lv_iload_n hx hb d_ST_endOf_97 rfl (lv_at hl 1 rfl) ?_
      refine lv_iconst (v := 2) hx hb d_ST_endOf_98 (by decide) ?_
      refine lv_icmp_ne (tgt := 111) hx hb d_ST_endOf_99 (by decide) (fun c_3 => ?_) (fun c_3 => ?_)
      · refine lv_iload_n hx hb d_ST_endOf_111 rfl (lv_at hl 2 rfl) ?_
        refine lv_iload hx hb d_ST_endOf_112 (lv_at hl 0 rfl) ?_
        refine lv_iadd hx hb d_ST_endOf_114 ?_
        exact W.iret (v := ((p0.toUInt32 >>> ((5 : Int32).toUInt32 &&& Int32.toUInt32 31)).toInt32) + (((((by_ b ((p0.toUInt32 >>> ((5 : Int32).toUInt32 &&& Int32.toUInt32 31)).toInt32).toNatClampNeg) &&& 255) ||| (((by_ b (((p0.toUInt32 >>> ((5 : Int32).toUInt32 &&& Int32.toUInt32 31)).toInt32) + 1).toNatClampNeg) &&& 255) <<< ((8 : Int32) &&& 31))) ||| (((by_ b (((p0.toUInt32 >>> ((5 : Int32).toUInt32 &&& Int32.toUInt32 31)).toInt32) + 2).toNatClampNeg) &&& 255) <<< ((16 : Int32) &&& 31))) ||| (((by_ b (((p0.toUInt32 >>> ((5 : Int32).toUInt32 &&& Int32.toUInt32 31)).toInt32) + 3).toNatClampNeg) &&& 255) <<< ((24 : Int32) &&& 31)))) hx hb hr (fun t ht hW => ⟨((p0.toUInt32 >>> ((5 : Int32).toUInt32 &&& Int32.toUInt32 31)).toInt32) + (((((by_ b ((p0.toUInt32 >>> ((5 : Int32).toUInt32 &&& Int32.toUInt32 31)).toInt32).toNatClampNeg) &&& 255) ||| (((by_ b (((p0.toUInt32 >>> ((5 : Int32).toUInt32 &&& Int32.toUInt32 31)).toInt32) + 1).toNatClampNeg) &&& 255) <<< ((8 : Int32) &&& 31))) ||| (((by_ b (((p0.toUInt32 >>> ((5 : Int32).toUInt32 &&& Int32.toUInt32 31)).toInt32) + 2).toNatClampNeg) &&& 255) <<< ((16 : Int32) &&& 31))) ||| (((by_ b (((p0.toUInt32 >>> ((5 : Int32).toUInt32 &&& Int32.toUInt32 31)).toInt32) + 3).toNatClampNeg) &&& 255) <<< ((24 : Int32) &&& 31))), rfl, (by rw [tw_ST_endOf, if_pos c_1, if_pos c_2, if_neg c_3]; first | done | rfl), ht⟩) (fun _ h => by cases h) d_ST_endOf_115
      · refine lv_iload_n hx hb d_ST_endOf_102 rfl (lv_at hl 2 rfl) ?_
        refine lv_iconst (v := 4) hx hb d_ST_endOf_103 (by decide) ?_
        refine lv_iadd hx hb d_ST_endOf_104 ?_
        refine lv_iload hx hb d_ST_endOf_105 (lv_at hl 0 rfl) ?_
        refine lv_iadd hx hb d_ST_endOf_107 ?_
        refine lv_goto (tgt := 115) hx hb d_ST_endOf_108 (by decide) ?_
        exact W.iret (v := (((p0.toUInt32 >>> ((5 : Int32).toUInt32 &&& Int32.toUInt32 31)).toInt32) + 4) + (((((by_ b ((p0.toUInt32 >>> ((5 : Int32).toUInt32 &&& Int32.toUInt32 31)).toInt32).toNatClampNeg) &&& 255) ||| (((by_ b (((p0.toUInt32 >>> ((5 : Int32).toUInt32 &&& Int32.toUInt32 31)).toInt32) + 1).toNatClampNeg) &&& 255) <<< ((8 : Int32) &&& 31))) ||| (((by_ b (((p0.toUInt32 >>> ((5 : Int32).toUInt32 &&& Int32.toUInt32 31)).toInt32) + 2).toNatClampNeg) &&& 255) <<< ((16 : Int32) &&& 31))) ||| (((by_ b (((p0.toUInt32 >>> ((5 : Int32).toUInt32 &&& Int32.toUInt32 31)).toInt32) + 3).toNatClampNeg) &&& 255) <<< ((24 : Int32) &&& 31)))) hx hb hr (fun t ht hW => ⟨(((p0.toUInt32 >>> ((5 : Int32).toUInt32 &&& Int32.toUInt32 31)).toInt32) + 4) + (((((by_ b ((p0.toUInt32 >>> ((5 : Int32).toUInt32 &&& Int32.toUInt32 31)).toInt32).toNatClampNeg) &&& 255) ||| (((by_ b (((p0.toUInt32 >>> ((5 : Int32).toUInt32 &&& Int32.toUInt32 31)).toInt32) + 1).toNatClampNeg) &&& 255) <<< ((8 : Int32) &&& 31))) ||| (((by_ b (((p0.toUInt32 >>> ((5 : Int32).toUInt32 &&& Int32.toUInt32 31)).toInt32) + 2).toNatClampNeg) &&& 255) <<< ((16 : Int32) &&& 31))) ||| (((by_ b (((p0.toUInt32 >>> ((5 : Int32).toUInt32 &&& Int32.toUInt32 31)).toInt32) + 3).toNatClampNeg) &&& 255) <<< ((24 : Int32) &&& 31))), rfl, (by rw [tw_ST_endOf, if_pos c_1, if_pos c_2, if_pos c_3]; first | done | rfl), ht⟩) (fun _ h => by cases h) d_ST_endOf_115
    · refine lv_iload_n hx hb d_ST_endOf_35 rfl (lv_at hl 1 rfl) ?_
      exact W.iret (v := (p0.toUInt32 >>> ((5 : Int32).toUInt32 &&& Int32.toUInt32 31)).toInt32) hx hb hr (fun t ht hW => ⟨(p0.toUInt32 >>> ((5 : Int32).toUInt32 &&& Int32.toUInt32 31)).toInt32, rfl, (by rw [tw_ST_endOf, if_pos c_1, if_neg c_2]; first | done | rfl), ht⟩) (fun _ h => by cases h) d_ST_endOf_36
  · refine lv_iload_n hx hb d_ST_endOf_14 rfl (lv_at hl 0 rfl) ?_
    refine lv_iconst (v := 3) hx hb d_ST_endOf_15 (by decide) ?_
    refine lv_icmp_eq (tgt := 24) hx hb d_ST_endOf_16 (by decide) (fun c_4 => ?_) (fun c_4 => ?_)
    · refine lv_iload_n hx hb d_ST_endOf_24 rfl (lv_at hl 1 rfl) ?_
      refine lv_aload_n hx hb d_ST_endOf_25 rfl (lv_at hl 2 rfl) ?_
      refine va_get (D := D) (ci := 0) (v := .ref aB) (C := R_ST) (T := T_ST) (N := 1) hx hb hT u_ST hown hK hP 0 rfl rfl 0 (by decide) (hT _ k_37) (fun _ h9 => h9) rfl d_ST_endOf_26 ?_
      refine va_alen (v := 202000) hx hb hK hP 1 0 rfl rfl rfl d_ST_endOf_29 ?_
      refine lv_iconst (v := 4) hx hb d_ST_endOf_30 (by decide) ?_
      refine lv_isub hx hb d_ST_endOf_31 ?_
      refine lv_icmp_le (tgt := 37) hx hb d_ST_endOf_32 (by decide) (fun c_5 => ?_) (fun c_5 => ?_)
      · refine lv_aload_n hx hb d_ST_endOf_37 rfl (lv_at hl 2 rfl) ?_
        refine va_get (D := D) (ci := 0) (v := .ref aB) (C := R_ST) (T := T_ST) (N := 1) hx hb hT u_ST hown hK hP 0 rfl rfl 0 (by decide) (hT _ k_37) (fun _ h9 => h9) rfl d_ST_endOf_38 ?_
        refine lv_iload_n hx hb d_ST_endOf_41 rfl (lv_at hl 1 rfl) ?_
        refine va_bald hx hb hK hP 1 0 rfl rfl (in_le (i_ush p0 5 (by decide) (by decide)) c_5 (by decide)) d_ST_endOf_42 ?_
        refine lv_sipush (v := 255) hx hb d_ST_endOf_43 (by decide) ?_
        refine lv_iand hx hb d_ST_endOf_46 ?_
        refine lv_aload_n hx hb d_ST_endOf_47 rfl (lv_at hl 2 rfl) ?_
        refine va_get (D := D) (ci := 0) (v := .ref aB) (C := R_ST) (T := T_ST) (N := 1) hx hb hT u_ST hown hK hP 0 rfl rfl 0 (by decide) (hT _ k_37) (fun _ h9 => h9) rfl d_ST_endOf_48 ?_
        refine lv_iload_n hx hb d_ST_endOf_51 rfl (lv_at hl 1 rfl) ?_
        refine lv_iconst (v := 1) hx hb d_ST_endOf_52 (by decide) ?_
        refine lv_iadd hx hb d_ST_endOf_53 ?_
        refine va_bald hx hb hK hP 1 0 rfl rfl (in_addp (i_ush p0 5 (by decide) (by decide)) c_5 (by decide) (by decide) (by decide)) d_ST_endOf_54 ?_
        refine lv_sipush (v := 255) hx hb d_ST_endOf_55 (by decide) ?_
        refine lv_iand hx hb d_ST_endOf_58 ?_
        refine lv_bipush (v := 8) hx hb d_ST_endOf_59 (by decide) ?_
        refine lv_ishl hx hb d_ST_endOf_61 ?_
        refine lv_ior hx hb d_ST_endOf_62 ?_
        refine lv_aload_n hx hb d_ST_endOf_63 rfl (lv_at hl 2 rfl) ?_
        refine va_get (D := D) (ci := 0) (v := .ref aB) (C := R_ST) (T := T_ST) (N := 1) hx hb hT u_ST hown hK hP 0 rfl rfl 0 (by decide) (hT _ k_37) (fun _ h9 => h9) rfl d_ST_endOf_64 ?_
        refine lv_iload_n hx hb d_ST_endOf_67 rfl (lv_at hl 1 rfl) ?_
        refine lv_iconst (v := 2) hx hb d_ST_endOf_68 (by decide) ?_
        refine lv_iadd hx hb d_ST_endOf_69 ?_
        refine va_bald hx hb hK hP 1 0 rfl rfl (in_addp (i_ush p0 5 (by decide) (by decide)) c_5 (by decide) (by decide) (by decide)) d_ST_endOf_70 ?_
        refine lv_sipush (v := 255) hx hb d_ST_endOf_71 (by decide) ?_
        refine lv_iand hx hb d_ST_endOf_74 ?_
        refine lv_bipush (v := 16) hx hb d_ST_endOf_75 (by decide) ?_
        refine lv_ishl hx hb d_ST_endOf_77 ?_
        refine lv_ior hx hb d_ST_endOf_78 ?_
        refine lv_aload_n hx hb d_ST_endOf_79 rfl (lv_at hl 2 rfl) ?_
        refine va_get (D := D) (ci := 0) (v := .ref aB) (C := R_ST) (T := T_ST) (N := 1) hx hb hT u_ST hown hK hP 0 rfl rfl 0 (by decide) (hT _ k_37) (fun _ h9 => h9) rfl d_ST_endOf_80 ?_
        refine lv_iload_n hx hb d_ST_endOf_83 rfl (lv_at hl 1 rfl) ?_
        refine lv_iconst (v := 3) hx hb d_ST_endOf_84 (by decide) ?_
        refine lv_iadd hx hb d_ST_endOf_85 ?_
        refine va_bald hx hb hK hP 1 0 rfl rfl (in_addp (i_ush p0 5 (by decide) (by decide)) c_5 (by decide) (by decide) (by decide)) d_ST_endOf_86 ?_
        refine lv_sipush (v := 255) hx hb d_ST_endOf_87 (by decide) ?_
        refine lv_iand hx hb d_ST_endOf_90 ?_
        refine lv_bipush (v := 24) hx hb d_ST_endOf_91 (by decide) ?_
        refine lv_ishl hx hb d_ST_endOf_93 ?_
        refine lv_ior hx hb d_ST_endOf_94 ?_
        refine lv_istore (lv' := [(4, .int (((((by_ b ((p0.toUInt32 >>> ((5 : Int32).toUInt32 &&& Int32.toUInt32 31)).toInt32).toNatClampNeg) &&& 255) ||| (((by_ b (((p0.toUInt32 >>> ((5 : Int32).toUInt32 &&& Int32.toUInt32 31)).toInt32) + 1).toNatClampNeg) &&& 255) <<< ((8 : Int32) &&& 31))) ||| (((by_ b (((p0.toUInt32 >>> ((5 : Int32).toUInt32 &&& Int32.toUInt32 31)).toInt32) + 2).toNatClampNeg) &&& 255) <<< ((16 : Int32) &&& 31))) ||| (((by_ b (((p0.toUInt32 >>> ((5 : Int32).toUInt32 &&& Int32.toUInt32 31)).toInt32) + 3).toNatClampNeg) &&& 255) <<< ((24 : Int32) &&& 31)))), (3, .int (p0 &&& 31)), (2, .int ((p0.toUInt32 >>> ((5 : Int32).toUInt32 &&& Int32.toUInt32 31)).toInt32)), (0, .ref aS), (1, .int p0)]) hx hb d_ST_endOf_95 hl (by decide) rfl (fun ls hl => ?_)
        refine lv_iload_n hx hb d_ST_endOf_97 rfl (lv_at hl 1 rfl) ?_
        refine lv_iconst (v := 2) hx hb d_ST_endOf_98 (by decide) ?_
        refine lv_icmp_ne (tgt := 111) hx hb d_ST_endOf_99 (by decide) (fun c_6 => ?_) (fun c_6 => ?_)
        · refine lv_iload_n hx hb d_ST_endOf_111 rfl (lv_at hl 2 rfl) ?_
          refine lv_iload hx hb d_ST_endOf_112 (lv_at hl 0 rfl) ?_
          refine lv_iadd hx hb d_ST_endOf_114 ?_
          exact W.iret (v := ((p0.toUInt32 >>> ((5 : Int32).toUInt32 &&& Int32.toUInt32 31)).toInt32) + (((((by_ b ((p0.toUInt32 >>> ((5 : Int32).toUInt32 &&& Int32.toUInt32 31)).toInt32).toNatClampNeg) &&& 255) ||| (((by_ b (((p0.toUInt32 >>> ((5 : Int32).toUInt32 &&& Int32.toUInt32 31)).toInt32) + 1).toNatClampNeg) &&& 255) <<< ((8 : Int32) &&& 31))) ||| (((by_ b (((p0.toUInt32 >>> ((5 : Int32).toUInt32 &&& Int32.toUInt32 31)).toInt32) + 2).toNatClampNeg) &&& 255) <<< ((16 : Int32) &&& 31))) ||| (((by_ b (((p0.toUInt32 >>> ((5 : Int32).toUInt32 &&& Int32.toUInt32 31)).toInt32) + 3).toNatClampNeg) &&& 255) <<< ((24 : Int32) &&& 31)))) hx hb hr (fun t ht hW => ⟨((p0.toUInt32 >>> ((5 : Int32).toUInt32 &&& Int32.toUInt32 31)).toInt32) + (((((by_ b ((p0.toUInt32 >>> ((5 : Int32).toUInt32 &&& Int32.toUInt32 31)).toInt32).toNatClampNeg) &&& 255) ||| (((by_ b (((p0.toUInt32 >>> ((5 : Int32).toUInt32 &&& Int32.toUInt32 31)).toInt32) + 1).toNatClampNeg) &&& 255) <<< ((8 : Int32) &&& 31))) ||| (((by_ b (((p0.toUInt32 >>> ((5 : Int32).toUInt32 &&& Int32.toUInt32 31)).toInt32) + 2).toNatClampNeg) &&& 255) <<< ((16 : Int32) &&& 31))) ||| (((by_ b (((p0.toUInt32 >>> ((5 : Int32).toUInt32 &&& Int32.toUInt32 31)).toInt32) + 3).toNatClampNeg) &&& 255) <<< ((24 : Int32) &&& 31))), rfl, (by rw [tw_ST_endOf, if_neg c_1, if_pos c_4, if_pos c_5, if_neg c_6]; first | done | rfl), ht⟩) (fun _ h => by cases h) d_ST_endOf_115
        · refine lv_iload_n hx hb d_ST_endOf_102 rfl (lv_at hl 2 rfl) ?_
          refine lv_iconst (v := 4) hx hb d_ST_endOf_103 (by decide) ?_
          refine lv_iadd hx hb d_ST_endOf_104 ?_
          refine lv_iload hx hb d_ST_endOf_105 (lv_at hl 0 rfl) ?_
          refine lv_iadd hx hb d_ST_endOf_107 ?_
          refine lv_goto (tgt := 115) hx hb d_ST_endOf_108 (by decide) ?_
          exact W.iret (v := (((p0.toUInt32 >>> ((5 : Int32).toUInt32 &&& Int32.toUInt32 31)).toInt32) + 4) + (((((by_ b ((p0.toUInt32 >>> ((5 : Int32).toUInt32 &&& Int32.toUInt32 31)).toInt32).toNatClampNeg) &&& 255) ||| (((by_ b (((p0.toUInt32 >>> ((5 : Int32).toUInt32 &&& Int32.toUInt32 31)).toInt32) + 1).toNatClampNeg) &&& 255) <<< ((8 : Int32) &&& 31))) ||| (((by_ b (((p0.toUInt32 >>> ((5 : Int32).toUInt32 &&& Int32.toUInt32 31)).toInt32) + 2).toNatClampNeg) &&& 255) <<< ((16 : Int32) &&& 31))) ||| (((by_ b (((p0.toUInt32 >>> ((5 : Int32).toUInt32 &&& Int32.toUInt32 31)).toInt32) + 3).toNatClampNeg) &&& 255) <<< ((24 : Int32) &&& 31)))) hx hb hr (fun t ht hW => ⟨(((p0.toUInt32 >>> ((5 : Int32).toUInt32 &&& Int32.toUInt32 31)).toInt32) + 4) + (((((by_ b ((p0.toUInt32 >>> ((5 : Int32).toUInt32 &&& Int32.toUInt32 31)).toInt32).toNatClampNeg) &&& 255) ||| (((by_ b (((p0.toUInt32 >>> ((5 : Int32).toUInt32 &&& Int32.toUInt32 31)).toInt32) + 1).toNatClampNeg) &&& 255) <<< ((8 : Int32) &&& 31))) ||| (((by_ b (((p0.toUInt32 >>> ((5 : Int32).toUInt32 &&& Int32.toUInt32 31)).toInt32) + 2).toNatClampNeg) &&& 255) <<< ((16 : Int32) &&& 31))) ||| (((by_ b (((p0.toUInt32 >>> ((5 : Int32).toUInt32 &&& Int32.toUInt32 31)).toInt32) + 3).toNatClampNeg) &&& 255) <<< ((24 : Int32) &&& 31))), rfl, (by rw [tw_ST_endOf, if_neg c_1, if_pos c_4, if_pos c_5, if_pos c_6]; first | done | rfl), ht⟩) (fun _ h => by cases h) d_ST_endOf_115
      · refine lv_iload_n hx hb d_ST_endOf_35 rfl (lv_at hl 1 rfl) ?_
        exact W.iret (v := (p0.toUInt32 >>> ((5 : Int32).toUInt32 &&& Int32.toUInt32 31)).toInt32) hx hb hr (fun t ht hW => ⟨(p0.toUInt32 >>> ((5 : Int32).toUInt32 &&& Int32.toUInt32 31)).toInt32, rfl, (by rw [tw_ST_endOf, if_neg c_1, if_pos c_4, if_neg c_5]; first | done | rfl), ht⟩) (fun _ h => by cases h) d_ST_endOf_36
    · refine lv_iload_n hx hb d_ST_endOf_19 rfl (lv_at hl 0 rfl) ?_
      refine lv_iconst (v := 4) hx hb d_ST_endOf_20 (by decide) ?_
      refine lv_icmp_ne (tgt := 116) hx hb d_ST_endOf_21 (by decide) (fun c_7 => ?_) (fun c_7 => ?_)
      · refine lv_iload_n hx hb d_ST_endOf_116 rfl (lv_at hl 1 rfl) ?_
        refine lv_iload_n hx hb d_ST_endOf_117 rfl (lv_at hl 0 rfl) ?_
        refine lv_bipush (v := 18) hx hb d_ST_endOf_118 (by decide) ?_
        refine lv_icmp_ne (tgt := 128) hx hb d_ST_endOf_120 (by decide) (fun c_8 => ?_) (fun c_8 => ?_)
        · refine lv_iload_n hx hb d_ST_endOf_128 rfl (lv_at hl 0 rfl) ?_
          refine lv_bipush (v := 16) hx hb d_ST_endOf_129 (by decide) ?_
          refine lv_icmp_ne (tgt := 138) hx hb d_ST_endOf_131 (by decide) (fun c_9 => ?_) (fun c_9 => ?_)
          · refine lv_iload_n hx hb d_ST_endOf_138 rfl (lv_at hl 0 rfl) ?_
            refine lv_bipush (v := 8) hx hb d_ST_endOf_139 (by decide) ?_
            refine lv_icmp_ne (tgt := 148) hx hb d_ST_endOf_141 (by decide) (fun c_10 => ?_) (fun c_10 => ?_)
            · refine lv_iconst (v := 0) hx hb d_ST_endOf_148 (by decide) ?_
              refine lv_iadd hx hb d_ST_endOf_149 ?_
              exact W.iret (v := ((p0.toUInt32 >>> ((5 : Int32).toUInt32 &&& Int32.toUInt32 31)).toInt32) + 0) hx hb hr (fun t ht hW => ⟨((p0.toUInt32 >>> ((5 : Int32).toUInt32 &&& Int32.toUInt32 31)).toInt32) + 0, rfl, (by rw [tw_ST_endOf, if_neg c_1, if_neg c_4, if_neg c_7, if_neg c_8, if_neg c_9, if_neg c_10]; first | done | rfl), ht⟩) (fun _ h => by cases h) d_ST_endOf_150
            · refine lv_iconst (v := 1) hx hb d_ST_endOf_144 (by decide) ?_
              refine lv_goto (tgt := 149) hx hb d_ST_endOf_145 (by decide) ?_
              refine lv_iadd hx hb d_ST_endOf_149 ?_
              exact W.iret (v := ((p0.toUInt32 >>> ((5 : Int32).toUInt32 &&& Int32.toUInt32 31)).toInt32) + 1) hx hb hr (fun t ht hW => ⟨((p0.toUInt32 >>> ((5 : Int32).toUInt32 &&& Int32.toUInt32 31)).toInt32) + 1, rfl, (by rw [tw_ST_endOf, if_neg c_1, if_neg c_4, if_neg c_7, if_neg c_8, if_neg c_9, if_pos c_10]; first | done | rfl), ht⟩) (fun _ h => by cases h) d_ST_endOf_150
          · refine lv_iconst (v := 4) hx hb d_ST_endOf_134 (by decide) ?_
            refine lv_goto (tgt := 149) hx hb d_ST_endOf_135 (by decide) ?_
            refine lv_iadd hx hb d_ST_endOf_149 ?_
            exact W.iret (v := ((p0.toUInt32 >>> ((5 : Int32).toUInt32 &&& Int32.toUInt32 31)).toInt32) + 4) hx hb hr (fun t ht hW => ⟨((p0.toUInt32 >>> ((5 : Int32).toUInt32 &&& Int32.toUInt32 31)).toInt32) + 4, rfl, (by rw [tw_ST_endOf, if_neg c_1, if_neg c_4, if_neg c_7, if_neg c_8, if_pos c_9]; first | done | rfl), ht⟩) (fun _ h => by cases h) d_ST_endOf_150
        · refine lv_bipush (v := 8) hx hb d_ST_endOf_123 (by decide) ?_
          refine lv_goto (tgt := 149) hx hb d_ST_endOf_125 (by decide) ?_
          refine lv_iadd hx hb d_ST_endOf_149 ?_
          exact W.iret (v := ((p0.toUInt32 >>> ((5 : Int32).toUInt32 &&& Int32.toUInt32 31)).toInt32) + 8) hx hb hr (fun t ht hW => ⟨((p0.toUInt32 >>> ((5 : Int32).toUInt32 &&& Int32.toUInt32 31)).toInt32) + 8, rfl, (by rw [tw_ST_endOf, if_neg c_1, if_neg c_4, if_neg c_7, if_pos c_8]; first | done | rfl), ht⟩) (fun _ h => by cases h) d_ST_endOf_150
      · refine lv_iload_n hx hb d_ST_endOf_24 rfl (lv_at hl 1 rfl) ?_
        refine lv_aload_n hx hb d_ST_endOf_25 rfl (lv_at hl 2 rfl) ?_
        refine va_get (D := D) (ci := 0) (v := .ref aB) (C := R_ST) (T := T_ST) (N := 1) hx hb hT u_ST hown hK hP 0 rfl rfl 0 (by decide) (hT _ k_37) (fun _ h9 => h9) rfl d_ST_endOf_26 ?_
        refine va_alen (v := 202000) hx hb hK hP 1 0 rfl rfl rfl d_ST_endOf_29 ?_
        refine lv_iconst (v := 4) hx hb d_ST_endOf_30 (by decide) ?_
        refine lv_isub hx hb d_ST_endOf_31 ?_
        refine lv_icmp_le (tgt := 37) hx hb d_ST_endOf_32 (by decide) (fun c_11 => ?_) (fun c_11 => ?_)
        · refine lv_aload_n hx hb d_ST_endOf_37 rfl (lv_at hl 2 rfl) ?_
          refine va_get (D := D) (ci := 0) (v := .ref aB) (C := R_ST) (T := T_ST) (N := 1) hx hb hT u_ST hown hK hP 0 rfl rfl 0 (by decide) (hT _ k_37) (fun _ h9 => h9) rfl d_ST_endOf_38 ?_
          refine lv_iload_n hx hb d_ST_endOf_41 rfl (lv_at hl 1 rfl) ?_
          refine va_bald hx hb hK hP 1 0 rfl rfl (in_le (i_ush p0 5 (by decide) (by decide)) c_11 (by decide)) d_ST_endOf_42 ?_
          refine lv_sipush (v := 255) hx hb d_ST_endOf_43 (by decide) ?_
          refine lv_iand hx hb d_ST_endOf_46 ?_
          refine lv_aload_n hx hb d_ST_endOf_47 rfl (lv_at hl 2 rfl) ?_
          refine va_get (D := D) (ci := 0) (v := .ref aB) (C := R_ST) (T := T_ST) (N := 1) hx hb hT u_ST hown hK hP 0 rfl rfl 0 (by decide) (hT _ k_37) (fun _ h9 => h9) rfl d_ST_endOf_48 ?_
          refine lv_iload_n hx hb d_ST_endOf_51 rfl (lv_at hl 1 rfl) ?_
          refine lv_iconst (v := 1) hx hb d_ST_endOf_52 (by decide) ?_
          refine lv_iadd hx hb d_ST_endOf_53 ?_
          refine va_bald hx hb hK hP 1 0 rfl rfl (in_addp (i_ush p0 5 (by decide) (by decide)) c_11 (by decide) (by decide) (by decide)) d_ST_endOf_54 ?_
          refine lv_sipush (v := 255) hx hb d_ST_endOf_55 (by decide) ?_
          refine lv_iand hx hb d_ST_endOf_58 ?_
          refine lv_bipush (v := 8) hx hb d_ST_endOf_59 (by decide) ?_
          refine lv_ishl hx hb d_ST_endOf_61 ?_
          refine lv_ior hx hb d_ST_endOf_62 ?_
          refine lv_aload_n hx hb d_ST_endOf_63 rfl (lv_at hl 2 rfl) ?_
          refine va_get (D := D) (ci := 0) (v := .ref aB) (C := R_ST) (T := T_ST) (N := 1) hx hb hT u_ST hown hK hP 0 rfl rfl 0 (by decide) (hT _ k_37) (fun _ h9 => h9) rfl d_ST_endOf_64 ?_
          refine lv_iload_n hx hb d_ST_endOf_67 rfl (lv_at hl 1 rfl) ?_
          refine lv_iconst (v := 2) hx hb d_ST_endOf_68 (by decide) ?_
          refine lv_iadd hx hb d_ST_endOf_69 ?_
          refine va_bald hx hb hK hP 1 0 rfl rfl (in_addp (i_ush p0 5 (by decide) (by decide)) c_11 (by decide) (by decide) (by decide)) d_ST_endOf_70 ?_
          refine lv_sipush (v := 255) hx hb d_ST_endOf_71 (by decide) ?_
          refine lv_iand hx hb d_ST_endOf_74 ?_
          refine lv_bipush (v := 16) hx hb d_ST_endOf_75 (by decide) ?_
          refine lv_ishl hx hb d_ST_endOf_77 ?_
          refine lv_ior hx hb d_ST_endOf_78 ?_
          refine lv_aload_n hx hb d_ST_endOf_79 rfl (lv_at hl 2 rfl) ?_
          refine va_get (D := D) (ci := 0) (v := .ref aB) (C := R_ST) (T := T_ST) (N := 1) hx hb hT u_ST hown hK hP 0 rfl rfl 0 (by decide) (hT _ k_37) (fun _ h9 => h9) rfl d_ST_endOf_80 ?_
          refine lv_iload_n hx hb d_ST_endOf_83 rfl (lv_at hl 1 rfl) ?_
          refine lv_iconst (v := 3) hx hb d_ST_endOf_84 (by decide) ?_
          refine lv_iadd hx hb d_ST_endOf_85 ?_
          refine va_bald hx hb hK hP 1 0 rfl rfl (in_addp (i_ush p0 5 (by decide) (by decide)) c_11 (by decide) (by decide) (by decide)) d_ST_endOf_86 ?_
          refine lv_sipush (v := 255) hx hb d_ST_endOf_87 (by decide) ?_
          refine lv_iand hx hb d_ST_endOf_90 ?_
          refine lv_bipush (v := 24) hx hb d_ST_endOf_91 (by decide) ?_
          refine lv_ishl hx hb d_ST_endOf_93 ?_
          refine lv_ior hx hb d_ST_endOf_94 ?_
          refine lv_istore (lv' := [(4, .int (((((by_ b ((p0.toUInt32 >>> ((5 : Int32).toUInt32 &&& Int32.toUInt32 31)).toInt32).toNatClampNeg) &&& 255) ||| (((by_ b (((p0.toUInt32 >>> ((5 : Int32).toUInt32 &&& Int32.toUInt32 31)).toInt32) + 1).toNatClampNeg) &&& 255) <<< ((8 : Int32) &&& 31))) ||| (((by_ b (((p0.toUInt32 >>> ((5 : Int32).toUInt32 &&& Int32.toUInt32 31)).toInt32) + 2).toNatClampNeg) &&& 255) <<< ((16 : Int32) &&& 31))) ||| (((by_ b (((p0.toUInt32 >>> ((5 : Int32).toUInt32 &&& Int32.toUInt32 31)).toInt32) + 3).toNatClampNeg) &&& 255) <<< ((24 : Int32) &&& 31)))), (3, .int (p0 &&& 31)), (2, .int ((p0.toUInt32 >>> ((5 : Int32).toUInt32 &&& Int32.toUInt32 31)).toInt32)), (0, .ref aS), (1, .int p0)]) hx hb d_ST_endOf_95 hl (by decide) rfl (fun ls hl => ?_)
          refine lv_iload_n hx hb d_ST_endOf_97 rfl (lv_at hl 1 rfl) ?_
          refine lv_iconst (v := 2) hx hb d_ST_endOf_98 (by decide) ?_
          refine lv_icmp_ne (tgt := 111) hx hb d_ST_endOf_99 (by decide) (fun c_12 => ?_) (fun c_12 => ?_)
          · refine lv_iload_n hx hb d_ST_endOf_111 rfl (lv_at hl 2 rfl) ?_
            refine lv_iload hx hb d_ST_endOf_112 (lv_at hl 0 rfl) ?_
            refine lv_iadd hx hb d_ST_endOf_114 ?_
            exact W.iret (v := ((p0.toUInt32 >>> ((5 : Int32).toUInt32 &&& Int32.toUInt32 31)).toInt32) + (((((by_ b ((p0.toUInt32 >>> ((5 : Int32).toUInt32 &&& Int32.toUInt32 31)).toInt32).toNatClampNeg) &&& 255) ||| (((by_ b (((p0.toUInt32 >>> ((5 : Int32).toUInt32 &&& Int32.toUInt32 31)).toInt32) + 1).toNatClampNeg) &&& 255) <<< ((8 : Int32) &&& 31))) ||| (((by_ b (((p0.toUInt32 >>> ((5 : Int32).toUInt32 &&& Int32.toUInt32 31)).toInt32) + 2).toNatClampNeg) &&& 255) <<< ((16 : Int32) &&& 31))) ||| (((by_ b (((p0.toUInt32 >>> ((5 : Int32).toUInt32 &&& Int32.toUInt32 31)).toInt32) + 3).toNatClampNeg) &&& 255) <<< ((24 : Int32) &&& 31)))) hx hb hr (fun t ht hW => ⟨((p0.toUInt32 >>> ((5 : Int32).toUInt32 &&& Int32.toUInt32 31)).toInt32) + (((((by_ b ((p0.toUInt32 >>> ((5 : Int32).toUInt32 &&& Int32.toUInt32 31)).toInt32).toNatClampNeg) &&& 255) ||| (((by_ b (((p0.toUInt32 >>> ((5 : Int32).toUInt32 &&& Int32.toUInt32 31)).toInt32) + 1).toNatClampNeg) &&& 255) <<< ((8 : Int32) &&& 31))) ||| (((by_ b (((p0.toUInt32 >>> ((5 : Int32).toUInt32 &&& Int32.toUInt32 31)).toInt32) + 2).toNatClampNeg) &&& 255) <<< ((16 : Int32) &&& 31))) ||| (((by_ b (((p0.toUInt32 >>> ((5 : Int32).toUInt32 &&& Int32.toUInt32 31)).toInt32) + 3).toNatClampNeg) &&& 255) <<< ((24 : Int32) &&& 31))), rfl, (by rw [tw_ST_endOf, if_neg c_1, if_neg c_4, if_pos c_7, if_pos c_11, if_neg c_12]; first | done | rfl), ht⟩) (fun _ h => by cases h) d_ST_endOf_115
          · refine lv_iload_n hx hb d_ST_endOf_102 rfl (lv_at hl 2 rfl) ?_
            refine lv_iconst (v := 4) hx hb d_ST_endOf_103 (by decide) ?_
            refine lv_iadd hx hb d_ST_endOf_104 ?_
            refine lv_iload hx hb d_ST_endOf_105 (lv_at hl 0 rfl) ?_
            refine lv_iadd hx hb d_ST_endOf_107 ?_
            refine lv_goto (tgt := 115) hx hb d_ST_endOf_108 (by decide) ?_
            exact W.iret (v := (((p0.toUInt32 >>> ((5 : Int32).toUInt32 &&& Int32.toUInt32 31)).toInt32) + 4) + (((((by_ b ((p0.toUInt32 >>> ((5 : Int32).toUInt32 &&& Int32.toUInt32 31)).toInt32).toNatClampNeg) &&& 255) ||| (((by_ b (((p0.toUInt32 >>> ((5 : Int32).toUInt32 &&& Int32.toUInt32 31)).toInt32) + 1).toNatClampNeg) &&& 255) <<< ((8 : Int32) &&& 31))) ||| (((by_ b (((p0.toUInt32 >>> ((5 : Int32).toUInt32 &&& Int32.toUInt32 31)).toInt32) + 2).toNatClampNeg) &&& 255) <<< ((16 : Int32) &&& 31))) ||| (((by_ b (((p0.toUInt32 >>> ((5 : Int32).toUInt32 &&& Int32.toUInt32 31)).toInt32) + 3).toNatClampNeg) &&& 255) <<< ((24 : Int32) &&& 31)))) hx hb hr (fun t ht hW => ⟨(((p0.toUInt32 >>> ((5 : Int32).toUInt32 &&& Int32.toUInt32 31)).toInt32) + 4) + (((((by_ b ((p0.toUInt32 >>> ((5 : Int32).toUInt32 &&& Int32.toUInt32 31)).toInt32).toNatClampNeg) &&& 255) ||| (((by_ b (((p0.toUInt32 >>> ((5 : Int32).toUInt32 &&& Int32.toUInt32 31)).toInt32) + 1).toNatClampNeg) &&& 255) <<< ((8 : Int32) &&& 31))) ||| (((by_ b (((p0.toUInt32 >>> ((5 : Int32).toUInt32 &&& Int32.toUInt32 31)).toInt32) + 2).toNatClampNeg) &&& 255) <<< ((16 : Int32) &&& 31))) ||| (((by_ b (((p0.toUInt32 >>> ((5 : Int32).toUInt32 &&& Int32.toUInt32 31)).toInt32) + 3).toNatClampNeg) &&& 255) <<< ((24 : Int32) &&& 31))), rfl, (by rw [tw_ST_endOf, if_neg c_1, if_neg c_4, if_pos c_7, if_pos c_11, if_pos c_12]; first | done | rfl), ht⟩) (fun _ h => by cases h) d_ST_endOf_115
        · refine lv_iload_n hx hb d_ST_endOf_35 rfl (lv_at hl 1 rfl) ?_
          exact W.iret (v := (p0.toUInt32 >>> ((5 : Int32).toUInt32 &&& Int32.toUInt32 31)).toInt32) hx hb hr (fun t ht hW => ⟨(p0.toUInt32 >>> ((5 : Int32).toUInt32 &&& Int32.toUInt32 31)).toInt32, rfl, (by rw [tw_ST_endOf, if_neg c_1, if_neg c_4, if_pos c_7, if_neg c_11]; first | done | rfl), ht⟩) (fun _ h => by cases h) d_ST_endOf_36
set_option maxHeartbeats 4000000 in
set_option maxRecDepth 100000 in
theorem l_ST_countParts_h21 {p : Program} {e : Env} {s : State} {m : MethodId} {args : Array Value} {below : List Frame} {meth : Method} {c : Code} {V : Int32} (C0 : lc_C p s m meth c args b_ST_countParts 6 (some .int) R_ST lw_g) (l : Launch) (D : va_G) (cB cI : ClassId) (aS aB : Nat) (b : Nat → UInt8) (hP : va_P D vwCl [(aS, .inr (0, [.ref aB])), (aB, .inl (cB, 202000, .inl (by_ b)))] s.heap) (hk : hk_ D cB cI s) (x2 : Int32) : ∀ (n : Nat) (x3 : Int32) (x4 : Int32) (x5 : Int32), ((1000 : Int32).toInt - x5.toInt).toNat < n → V = tw_ST_countParts_h21 b x2 n x3 x4 x5 → ∀ ls : Array Slot, lv_has ls 6 [(0, .ref aS), (2, .int x2), (3, .int x3), (4, .int x4), (5, .int x5)] → W p l e ({ frames := 1, cells := 0, slots := 0, locals := 24 }) s m args below meth c s.heap [] 0 0 (MQ below (vp_Si (fun r => r = V)) args s 0 0 (fun _ => False)) (F0 m 21 ls []) := by
  obtain ⟨hx, hb, hml, hr, hown, hlocks, hT⟩ := id C0
  have hK := hk.1
  have hN := hk.2.1
  intro n
  induction n with
  | zero =>
    intro x3 x4 x5 hm
    exact absurd hm (Nat.not_lt_zero _)
  | succ n ih =>
    intro x3 x4 x5 hm hV ls hl
    refine lv_iload hx hb d_ST_countParts_21 (lv_at hl 4 rfl) ?_
    refine lv_sipush (v := 1000) hx hb d_ST_countParts_23 (by decide) ?_
    refine lv_icmp_ge (tgt := 53) hx hb d_ST_countParts_26 (by decide) (fun c_1 => ?_) (fun c_1 => ?_)
    · refine lv_iload hx hb d_ST_countParts_53 (lv_at hl 3 rfl) ?_
      exact W.iret (v := x4) hx hb hr (fun t ht hW => ⟨x4, rfl, (by rw [hV, tw_ST_countParts_h21, if_pos c_1]; first | done | rfl), ht⟩) (fun _ h => by cases h) d_ST_countParts_55
    · refine lv_iload_n hx hb d_ST_countParts_29 rfl (lv_at hl 2 rfl) ?_
      refine lv_iload_n hx hb d_ST_countParts_30 rfl (lv_at hl 1 rfl) ?_
      refine lv_icmp_ge (tgt := 53) hx hb d_ST_countParts_31 (by decide) (fun c_2 => ?_) (fun c_2 => ?_)
      · refine lv_iload hx hb d_ST_countParts_53 (lv_at hl 3 rfl) ?_
        exact W.iret (v := x4) hx hb hr (fun t ht hW => ⟨x4, rfl, (by rw [hV, tw_ST_countParts_h21, if_neg c_1, if_pos c_2]; first | done | rfl), ht⟩) (fun _ h => by cases h) d_ST_countParts_55
      · refine lv_aload_n hx hb d_ST_countParts_34 rfl (lv_at hl 0 rfl) ?_
        refine lv_aload_n hx hb d_ST_countParts_35 rfl (lv_at hl 0 rfl) ?_
        refine lv_iload_n hx hb d_ST_countParts_36 rfl (lv_at hl 2 rfl) ?_
        refine rd_V (val := tw_ST_valueOf b x3) (As := [.int x3]) (rest := [.ref aS]) ⟨hx, hb, hml, hown, hT⟩ (c_ST_valueOf l D cB cI aS aB b x3) (cwV 1 hT (gV_of k_485 k_399 k_400 k_2 kc_ST_valueOf) rfl rfl rfl hd_ST_valueOf ⟨Nat.le_of_ble_eq_true rfl, Nat.le_of_ble_eq_true rfl⟩) hk hP (q0 := 0) rfl rfl rfl rfl hl.1 rfl (Nat.le_of_ble_eq_true rfl) d_ST_countParts_37 ⟨Nat.zero_le _, Nat.zero_le _⟩ ?_
        refine rd_V (val := tw_ST_endOf b (tw_ST_valueOf b x3)) (As := [.int (tw_ST_valueOf b x3)]) (rest := []) ⟨hx, hb, hml, hown, hT⟩ (c_ST_endOf l D cB cI aS aB b (tw_ST_valueOf b x3)) (cwV 1 hT (gV_of k_483 k_416 k_417 k_2 kc_ST_endOf) rfl rfl rfl hd_ST_endOf ⟨Nat.le_of_ble_eq_true rfl, Nat.le_of_ble_eq_true rfl⟩) hk hP (q0 := 0) rfl rfl rfl rfl hl.1 rfl (Nat.le_of_ble_eq_true rfl) d_ST_countParts_40 ⟨Nat.zero_le _, Nat.zero_le _⟩ ?_
        refine lv_istore_n (lv' := [(3, .int (tw_ST_endOf b (tw_ST_valueOf b x3))), (0, .ref aS), (2, .int x2), (4, .int x4), (5, .int x5)]) hx hb d_ST_countParts_43 rfl hl (by decide) rfl (fun ls hl => ?_)
        refine lv_iinc (v := x4 + 1) (lv' := [(4, .int (x4 + 1)), (3, .int (tw_ST_endOf b (tw_ST_valueOf b x3))), (0, .ref aS), (2, .int x2), (5, .int x5)]) hx hb d_ST_countParts_44 hl (k := 3) rfl rfl (by decide) rfl (fun ls hl => ?_)
        refine lv_iinc (v := x5 + 1) (lv' := [(5, .int (x5 + 1)), (4, .int (x4 + 1)), (3, .int (tw_ST_endOf b (tw_ST_valueOf b x3))), (0, .ref aS), (2, .int x2)]) hx hb d_ST_countParts_47 hl (k := 4) rfl rfl (by decide) rfl (fun ls hl => ?_)
        refine lv_goto (tgt := 21) hx hb d_ST_countParts_50 (by decide) ?_
        exact ih (tw_ST_endOf b (tw_ST_valueOf b x3)) (x4 + 1) (x5 + 1) (lp_up hm c_1) (by rw [hV, tw_ST_countParts_h21, if_neg c_1, if_neg c_2]) ls (lv_sub hl [3, 4, 2, 1, 0] rfl)
set_option maxHeartbeats 4000000 in
set_option maxRecDepth 100000 in
theorem c_ST_countParts (l : Launch) (D : va_G) (cB cI : ClassId) (aS aB : Nat) (b : Nat → UInt8) (p0 : Int32) : Met l y_ST_countParts mw_ST_countParts { frames := 1, cells := 0, slots := 0, locals := 24 } (va_Pc [.ref aS, .int p0] (fun U => va_P D vwCl [(aS, .inr (0, [.ref aB])), (aB, .inl (cB, 202000, .inl (by_ b)))] U.heap ∧ hk_ D cB cI U)) (vp_Si (fun r => r = tw_ST_countParts b p0)) 0 0 (fun _ => False) := by
  refine Met.ofW (cc := b_ST_countParts) (maxL := 6) (ret := (some .int)) (by decide) rfl ?_
  intro p e s m args below meth c s₁ B0 hml hv
  obtain ⟨rfl, hP, hk⟩ := hv
  have hK := hk.1
  have hN := hk.2.1
  have hx := B0.exec
  have hb := B0.bytes
  have hr := B0.returns
  have hT : ∀ w ∈ lw_g, w.before _ s = true := fun w h => atoms_spec (ws := mw_ST_countParts) B0.pre w (List.mem_cons_of_mem _ h)
  have hown : s.vm.findClass R_ST = some m.cls := findClass_of_methodNamed B0.named
  have hlocks := B0.notSynchronized
  have hl := lv_entry ([.ref aS, .int p0]) (n := 6) (Nat.le_of_ble_eq_true rfl)
  rw [lg_entry_eq]
  generalize (lg_sl ([.ref aS, .int p0]) ++ List.replicate (6 - (lg_sl ([.ref aS, .int p0])).length) Slot.unset).toArray = ls at hl ⊢
  have hl : lv_has ls 6 [(0, .ref aS), (1, .int p0)] := hl
  have C0 : lc_C p s m meth c _ b_ST_countParts 6 (some .int) R_ST lw_g := ⟨hx, hb, hml, hr, hown, hlocks, hT⟩
  refine lv_aload_n hx hb d_ST_countParts_0 rfl (lv_at hl 0 rfl) ?_
  refine lv_iload_n hx hb d_ST_countParts_1 rfl (lv_at hl 1 rfl) ?_
  refine rd_V (val := tw_ST_endOf b p0) (As := [.int p0]) (rest := []) ⟨hx, hb, hml, hown, hT⟩ (c_ST_endOf l D cB cI aS aB b p0) (cwV 1 hT (gV_of k_483 k_416 k_417 k_2 kc_ST_endOf) rfl rfl rfl hd_ST_endOf ⟨Nat.le_of_ble_eq_true rfl, Nat.le_of_ble_eq_true rfl⟩) hk hP (q0 := 0) rfl rfl rfl rfl hl.1 rfl (Nat.le_of_ble_eq_true rfl) d_ST_countParts_2 ⟨Nat.zero_le _, Nat.zero_le _⟩ ?_
  refine lv_iconst (v := 1) hx hb d_ST_countParts_5 (by decide) ?_
  refine lv_isub hx hb d_ST_countParts_6 ?_
  refine lv_istore_n (lv' := [(2, .int ((tw_ST_endOf b p0) - 1)), (0, .ref aS), (1, .int p0)]) hx hb d_ST_countParts_7 rfl hl (by decide) rfl (fun ls hl => ?_)
  refine lv_iload_n hx hb d_ST_countParts_8 rfl (lv_at hl 2 rfl) ?_
  refine rd_S (val := tw_ST_placeOf p0) (As := [.int p0]) (rest := []) ⟨hx, hb, hml, hown, hT⟩ (c_ST_placeOf l D cB cI p0) (va_cwS 1 hT (gS_of k_484 k_403 k_2 kc_ST_placeOf) rfl rfl rfl hd_ST_placeOf ⟨Nat.le_of_ble_eq_true rfl, Nat.le_of_ble_eq_true rfl⟩) hk (va_P_nil) rfl hl.1 rfl (Nat.le_of_ble_eq_true rfl) d_ST_countParts_9 ⟨Nat.zero_le _, Nat.zero_le _⟩ ?_
  refine lv_iconst (v := 4) hx hb d_ST_countParts_12 (by decide) ?_
  refine lv_iadd hx hb d_ST_countParts_13 ?_
  refine lv_istore_n (lv' := [(3, .int ((tw_ST_placeOf p0) + 4)), (2, .int ((tw_ST_endOf b p0) - 1)), (0, .ref aS), (1, .int p0)]) hx hb d_ST_countParts_14 rfl hl (by decide) rfl (fun ls hl => ?_)
  refine lv_iconst (v := 0) hx hb d_ST_countParts_15 (by decide) ?_
  refine lv_istore (lv' := [(4, .int 0), (3, .int ((tw_ST_placeOf p0) + 4)), (2, .int ((tw_ST_endOf b p0) - 1)), (0, .ref aS), (1, .int p0)]) hx hb d_ST_countParts_16 hl (by decide) rfl (fun ls hl => ?_)
  refine lv_iconst (v := 0) hx hb d_ST_countParts_18 (by decide) ?_
  refine lv_istore (lv' := [(5, .int 0), (4, .int 0), (3, .int ((tw_ST_placeOf p0) + 4)), (2, .int ((tw_ST_endOf b p0) - 1)), (0, .ref aS), (1, .int p0)]) hx hb d_ST_countParts_19 hl (by decide) rfl (fun ls hl => ?_)
  exact l_ST_countParts_h21 C0 l D cB cI aS aB b hP hk ((tw_ST_endOf b p0) - 1)  ((((1000 : Int32).toInt - (0 : Int32).toInt).toNat) + 1) ((tw_ST_placeOf p0) + 4) 0 0 (Nat.lt_succ_self _) (by rw [tw_ST_countParts]) ls (lv_sub hl [4, 3, 2, 1, 0] rfl)
set_option maxHeartbeats 4000000 in
set_option maxRecDepth 100000 in
theorem l_ST_compareBytes_h49 {p : Program} {e : Env} {s : State} {m : MethodId} {args : Array Value} {below : List Frame} {meth : Method} {c : Code} {V : Int32} (C0 : lc_C p s m meth c args b_ST_compareBytes 8 (some .int) R_ST lw_g) (l : Launch) (D : va_G) (cB cI : ClassId) (aS aB : Nat) (b : Nat → UInt8) (hP : va_P D vwCl [(aS, .inr (0, [.ref aB])), (aB, .inl (cB, 202000, .inl (by_ b)))] s.heap) (hk : hk_ D cB cI s) (p0 : Int32) (p1 : Int32) (p2 : Int32) (p3 : Int32) (x5 : Int32) (hf1 : ¬ p0 < 0) (hf2 : ¬ p2 < 0) (hf3 : ¬ (202000 - p0) < x5) (hf4 : x5 ≤ (202000 - p2)) : ∀ (n : Nat) (x6 : Int32), (x5.toInt - x6.toInt).toNat < n → ¬ x6 < 0 → V = tw_ST_compareBytes_h49 b p0 p1 p2 p3 x5 n x6 → ∀ ls : Array Slot, lv_has ls 8 [(0, .ref aS), (1, .int p0), (2, .int p1), (3, .int p2), (4, .int p3), (5, .int x5), (6, .int x6)] → W p l e ({ frames := 1, cells := 0, slots := 0, locals := 21 }) s m args below meth c s.heap [] 0 0 (MQ below (vp_Si (fun r => r = V)) args s 0 0 (fun _ => False)) (F0 m 49 ls []) := by
  obtain ⟨hx, hb, hml, hr, hown, hlocks, hT⟩ := id C0
  have hK := hk.1
  have hN := hk.2.1
  intro n
  induction n with
  | zero =>
    intro x6 hm
    exact absurd hm (Nat.not_lt_zero _)
  | succ n ih =>
    intro x6 hm hv1 hV ls hl
    refine lv_iload hx hb d_ST_compareBytes_49 (lv_at hl 6 rfl) ?_
    refine lv_iload hx hb d_ST_compareBytes_51 (lv_at hl 5 rfl) ?_
    refine lv_icmp_ge (tgt := 107) hx hb d_ST_compareBytes_53 (by decide) (fun c_5 => ?_) (fun c_5 => ?_)
    · refine lv_iload_n hx hb d_ST_compareBytes_107 rfl (lv_at hl 2 rfl) ?_
      refine lv_iload_n hx hb d_ST_compareBytes_108 rfl (lv_at hl 1 rfl) ?_
      refine lv_isub hx hb d_ST_compareBytes_109 ?_
      refine lv_iload hx hb d_ST_compareBytes_110 (lv_at hl 4 rfl) ?_
      refine lv_iload_n hx hb d_ST_compareBytes_112 rfl (lv_at hl 3 rfl) ?_
      refine lv_isub hx hb d_ST_compareBytes_113 ?_
      refine rd_S (val := tw_JI_compare (p1 - p0) (p3 - p2)) (As := [.int (p1 - p0), .int (p3 - p2)]) (rest := []) ⟨hx, hb, hml, hown, hT⟩ (c_JI_compare l D cB cI (p1 - p0) (p3 - p2)) (va_cwS 2 hT (gS_of k_412 k_413 k_14 kc_JI_compare) rfl rfl rfl hd_JI_compare ⟨Nat.le_of_ble_eq_true rfl, Nat.le_of_ble_eq_true rfl⟩) hk (va_P_nil) rfl hl.1 rfl (Nat.le_of_ble_eq_true rfl) d_ST_compareBytes_114 ⟨Nat.zero_le _, Nat.zero_le _⟩ ?_
      exact W.iret (v := tw_JI_compare (p1 - p0) (p3 - p2)) hx hb hr (fun t ht hW => ⟨tw_JI_compare (p1 - p0) (p3 - p2), rfl, (by rw [hV, tw_ST_compareBytes_h49, if_pos c_5]; first | done | rfl), ht⟩) (fun _ h => by cases h) d_ST_compareBytes_117
    · refine lv_aload_n hx hb d_ST_compareBytes_56 rfl (lv_at hl 0 rfl) ?_
      refine va_get (D := D) (ci := 0) (v := .ref aB) (C := R_ST) (T := T_ST) (N := 1) hx hb hT u_ST hown hK hP 0 rfl rfl 0 (by decide) (hT _ k_37) (fun _ h9 => h9) rfl d_ST_compareBytes_57 ?_
      refine lv_iload_n hx hb d_ST_compareBytes_60 rfl (lv_at hl 1 rfl) ?_
      refine lv_iload hx hb d_ST_compareBytes_61 (lv_at hl 6 rfl) ?_
      refine lv_iadd hx hb d_ST_compareBytes_63 ?_
      refine va_bald hx hb hK hP 1 0 rfl rfl (in_cb hf1 (i_le_of hf3) rfl hv1 c_5) d_ST_compareBytes_64 ?_
      refine lv_sipush (v := 255) hx hb d_ST_compareBytes_65 (by decide) ?_
      refine lv_iand hx hb d_ST_compareBytes_68 ?_
      refine lv_aload_n hx hb d_ST_compareBytes_69 rfl (lv_at hl 0 rfl) ?_
      refine va_get (D := D) (ci := 0) (v := .ref aB) (C := R_ST) (T := T_ST) (N := 1) hx hb hT u_ST hown hK hP 0 rfl rfl 0 (by decide) (hT _ k_37) (fun _ h9 => h9) rfl d_ST_compareBytes_70 ?_
      refine lv_iload_n hx hb d_ST_compareBytes_73 rfl (lv_at hl 3 rfl) ?_
      refine lv_iload hx hb d_ST_compareBytes_74 (lv_at hl 6 rfl) ?_
      refine lv_iadd hx hb d_ST_compareBytes_76 ?_
      refine va_bald hx hb hK hP 1 0 rfl rfl (in_cb hf2 hf4 rfl hv1 c_5) d_ST_compareBytes_77 ?_
      refine lv_sipush (v := 255) hx hb d_ST_compareBytes_78 (by decide) ?_
      refine lv_iand hx hb d_ST_compareBytes_81 ?_
      refine lv_isub hx hb d_ST_compareBytes_82 ?_
      refine lv_istore (lv' := [(7, .int (((by_ b (p0 + x6).toNatClampNeg) &&& 255) - ((by_ b (p2 + x6).toNatClampNeg) &&& 255))), (0, .ref aS), (1, .int p0), (2, .int p1), (3, .int p2), (4, .int p3), (5, .int x5), (6, .int x6)]) hx hb d_ST_compareBytes_83 hl (by decide) rfl (fun ls hl => ?_)
      refine lv_iload hx hb d_ST_compareBytes_85 (lv_at hl 0 rfl) ?_
      refine lv_if_eq (tgt := 101) hx hb d_ST_compareBytes_87 (by decide) (fun c_6 => ?_) (fun c_6 => ?_)
      · refine lv_iinc (v := x6 + 1) (lv' := [(6, .int (x6 + 1)), (7, .int (((by_ b (p0 + x6).toNatClampNeg) &&& 255) - ((by_ b (p2 + x6).toNatClampNeg) &&& 255))), (0, .ref aS), (1, .int p0), (2, .int p1), (3, .int p2), (4, .int p3), (5, .int x5)]) hx hb d_ST_compareBytes_101 hl (k := 7) rfl rfl (by decide) rfl (fun ls hl => ?_)
        refine lv_goto (tgt := 49) hx hb d_ST_compareBytes_104 (by decide) ?_
        exact ih (x6 + 1) (lp_up hm c_5) (i_upn hv1 c_5) (by rw [hV, tw_ST_compareBytes_h49, if_neg c_5, if_pos c_6]) ls (lv_sub hl [2, 3, 4, 5, 6, 7, 0] rfl)
      · refine lv_iload hx hb d_ST_compareBytes_90 (lv_at hl 0 rfl) ?_
        refine lv_if_ge (tgt := 99) hx hb d_ST_compareBytes_92 (by decide) (fun c_7 => ?_) (fun c_7 => ?_)
        · refine lv_iconst (v := 1) hx hb d_ST_compareBytes_99 (by decide) ?_
          exact W.iret (v := 1) hx hb hr (fun t ht hW => ⟨1, rfl, (by rw [hV, tw_ST_compareBytes_h49, if_neg c_5, if_neg c_6, if_pos c_7]; first | done | rfl), ht⟩) (fun _ h => by cases h) d_ST_compareBytes_100
        · refine lv_iconst (v := -1) hx hb d_ST_compareBytes_95 (by decide) ?_
          refine lv_goto (tgt := 100) hx hb d_ST_compareBytes_96 (by decide) ?_
          exact W.iret (v := (-1)) hx hb hr (fun t ht hW => ⟨(-1), rfl, (by rw [hV, tw_ST_compareBytes_h49, if_neg c_5, if_neg c_6, if_neg c_7]; first | done | rfl), ht⟩) (fun _ h => by cases h) d_ST_compareBytes_100
set_option maxHeartbeats 4000000 in
set_option maxRecDepth 100000 in
theorem c_ST_compareBytes (l : Launch) (D : va_G) (cB cI : ClassId) (aS aB : Nat) (b : Nat → UInt8) (p0 : Int32) (p1 : Int32) (p2 : Int32) (p3 : Int32) : Met l y_ST_compareBytes mw_ST_compareBytes { frames := 1, cells := 0, slots := 0, locals := 21 } (va_Pc [.ref aS, .int p0, .int p1, .int p2, .int p3] (fun U => va_P D vwCl [(aS, .inr (0, [.ref aB])), (aB, .inl (cB, 202000, .inl (by_ b)))] U.heap ∧ hk_ D cB cI U)) (vp_Si (fun r => r = tw_ST_compareBytes b p0 p1 p2 p3)) 0 0 (fun _ => False) := by
  refine Met.ofW (cc := b_ST_compareBytes) (maxL := 8) (ret := (some .int)) (by decide) rfl ?_
  intro p e s m args below meth c s₁ B0 hml hv
  obtain ⟨rfl, hP, hk⟩ := hv
  have hK := hk.1
  have hN := hk.2.1
  have hx := B0.exec
  have hb := B0.bytes
  have hr := B0.returns
  have hT : ∀ w ∈ lw_g, w.before _ s = true := fun w h => atoms_spec (ws := mw_ST_compareBytes) B0.pre w (List.mem_cons_of_mem _ h)
  have hown : s.vm.findClass R_ST = some m.cls := findClass_of_methodNamed B0.named
  have hlocks := B0.notSynchronized
  have hl := lv_entry ([.ref aS, .int p0, .int p1, .int p2, .int p3]) (n := 8) (Nat.le_of_ble_eq_true rfl)
  rw [lg_entry_eq]
  generalize (lg_sl ([.ref aS, .int p0, .int p1, .int p2, .int p3]) ++ List.replicate (8 - (lg_sl ([.ref aS, .int p0, .int p1, .int p2, .int p3])).length) Slot.unset).toArray = ls at hl ⊢
  have hl : lv_has ls 8 [(0, .ref aS), (1, .int p0), (2, .int p1), (3, .int p2), (4, .int p3)] := hl
  have C0 : lc_C p s m meth c _ b_ST_compareBytes 8 (some .int) R_ST lw_g := ⟨hx, hb, hml, hr, hown, hlocks, hT⟩
  refine lv_iload_n hx hb d_ST_compareBytes_0 rfl (lv_at hl 2 rfl) ?_
  refine lv_iload_n hx hb d_ST_compareBytes_1 rfl (lv_at hl 1 rfl) ?_
  refine lv_isub hx hb d_ST_compareBytes_2 ?_
  refine lv_iload hx hb d_ST_compareBytes_3 (lv_at hl 4 rfl) ?_
  refine lv_iload_n hx hb d_ST_compareBytes_5 rfl (lv_at hl 3 rfl) ?_
  refine lv_isub hx hb d_ST_compareBytes_6 ?_
  refine va_mmin hx hb (hml.trans hl.1.symm) hown (hT _ k_409) (hT _ k_410) (hT _ k_13) (hT _ kc_JM_min) (Nat.le_of_ble_eq_true rfl) (Nat.le_of_ble_eq_true rfl) (Nat.zero_le _) (Nat.zero_le _) d_ST_compareBytes_7 ?_
  refine lv_istore (lv' := [(5, .int (if (p3 - p2) < (p1 - p0) then (p3 - p2) else (p1 - p0))), (0, .ref aS), (1, .int p0), (2, .int p1), (3, .int p2), (4, .int p3)]) hx hb d_ST_compareBytes_10 hl (by decide) rfl (fun ls hl => ?_)
  refine lv_iload_n hx hb d_ST_compareBytes_12 rfl (lv_at hl 2 rfl) ?_
  refine lv_if_lt (tgt := 44) hx hb d_ST_compareBytes_13 (by decide) (fun c_1 => ?_) (fun c_1 => ?_)
  · refine lv_iconst (v := 0) hx hb d_ST_compareBytes_44 (by decide) ?_
    exact W.iret (v := 0) hx hb hr (fun t ht hW => ⟨0, rfl, (by rw [tw_ST_compareBytes, if_pos c_1]; first | done | rfl), ht⟩) (fun _ h => by cases h) d_ST_compareBytes_45
  · refine lv_iload_n hx hb d_ST_compareBytes_16 rfl (lv_at hl 4 rfl) ?_
    refine lv_if_lt (tgt := 44) hx hb d_ST_compareBytes_17 (by decide) (fun c_2 => ?_) (fun c_2 => ?_)
    · refine lv_iconst (v := 0) hx hb d_ST_compareBytes_44 (by decide) ?_
      exact W.iret (v := 0) hx hb hr (fun t ht hW => ⟨0, rfl, (by rw [tw_ST_compareBytes, if_neg c_1, if_pos c_2]; first | done | rfl), ht⟩) (fun _ h => by cases h) d_ST_compareBytes_45
    · refine lv_iload hx hb d_ST_compareBytes_20 (lv_at hl 0 rfl) ?_
      refine lv_aload_n hx hb d_ST_compareBytes_22 rfl (lv_at hl 1 rfl) ?_
      refine va_get (D := D) (ci := 0) (v := .ref aB) (C := R_ST) (T := T_ST) (N := 1) hx hb hT u_ST hown hK hP 0 rfl rfl 0 (by decide) (hT _ k_37) (fun _ h9 => h9) rfl d_ST_compareBytes_23 ?_
      refine va_alen (v := 202000) hx hb hK hP 1 0 rfl rfl rfl d_ST_compareBytes_26 ?_
      refine lv_iload_n hx hb d_ST_compareBytes_27 rfl (lv_at hl 2 rfl) ?_
      refine lv_isub hx hb d_ST_compareBytes_28 ?_
      refine lv_icmp_gt (tgt := 44) hx hb d_ST_compareBytes_29 (by decide) (fun c_3 => ?_) (fun c_3 => ?_)
      · refine lv_iconst (v := 0) hx hb d_ST_compareBytes_44 (by decide) ?_
        exact W.iret (v := 0) hx hb hr (fun t ht hW => ⟨0, rfl, (by rw [tw_ST_compareBytes, if_neg c_1, if_neg c_2, if_pos c_3]; first | done | rfl), ht⟩) (fun _ h => by cases h) d_ST_compareBytes_45
      · refine lv_iload hx hb d_ST_compareBytes_32 (lv_at hl 0 rfl) ?_
        refine lv_aload_n hx hb d_ST_compareBytes_34 rfl (lv_at hl 1 rfl) ?_
        refine va_get (D := D) (ci := 0) (v := .ref aB) (C := R_ST) (T := T_ST) (N := 1) hx hb hT u_ST hown hK hP 0 rfl rfl 0 (by decide) (hT _ k_37) (fun _ h9 => h9) rfl d_ST_compareBytes_35 ?_
        refine va_alen (v := 202000) hx hb hK hP 1 0 rfl rfl rfl d_ST_compareBytes_38 ?_
        refine lv_iload_n hx hb d_ST_compareBytes_39 rfl (lv_at hl 4 rfl) ?_
        refine lv_isub hx hb d_ST_compareBytes_40 ?_
        refine lv_icmp_le (tgt := 46) hx hb d_ST_compareBytes_41 (by decide) (fun c_4 => ?_) (fun c_4 => ?_)
        · refine lv_iconst (v := 0) hx hb d_ST_compareBytes_46 (by decide) ?_
          refine lv_istore (lv' := [(6, .int 0), (5, .int (if (p3 - p2) < (p1 - p0) then (p3 - p2) else (p1 - p0))), (0, .ref aS), (1, .int p0), (2, .int p1), (3, .int p2), (4, .int p3)]) hx hb d_ST_compareBytes_47 hl (by decide) rfl (fun ls hl => ?_)
          exact l_ST_compareBytes_h49 C0 l D cB cI aS aB b hP hk p0 p1 p2 p3 (if (p3 - p2) < (p1 - p0) then (p3 - p2) else (p1 - p0)) c_1 c_2 c_3 c_4 ((((if (p3 - p2) < (p1 - p0) then (p3 - p2) else (p1 - p0)).toInt - (0 : Int32).toInt).toNat) + 1) 0 (Nat.lt_succ_self _) (by decide) (by rw [tw_ST_compareBytes, if_neg c_1, if_neg c_2, if_neg c_3, if_pos c_4]) ls (lv_sub hl [2, 3, 4, 5, 6, 1, 0] rfl)
        · refine lv_iconst (v := 0) hx hb d_ST_compareBytes_44 (by decide) ?_
          exact W.iret (v := 0) hx hb hr (fun t ht hW => ⟨0, rfl, (by rw [tw_ST_compareBytes, if_neg c_1, if_neg c_2, if_neg c_3, if_neg c_4]; first | done | rfl), ht⟩) (fun _ h => by cases h) d_ST_compareBytes_45
set_option maxHeartbeats 4000000 in
set_option maxRecDepth 100000 in
theorem l_ST_find_h20 {p : Program} {e : Env} {s : State} {m : MethodId} {args : Array Value} {below : List Frame} {meth : Method} {c : Code} {V : Int32} (C0 : lc_C p s m meth c args b_ST_find 9 (some .int) R_ST lw_g) (l : Launch) (D : va_G) (cB cI : ClassId) (aS aB : Nat) (b : Nat → UInt8) (hP : va_P D vwCl [(aS, .inr (0, [.ref aB])), (aB, .inl (cB, 202000, .inl (by_ b)))] s.heap) (hk : hk_ D cB cI s) (p1 : Int32) (p2 : Int32) (x4 : Int32) : ∀ (n : Nat) (x5 : Int32) (x6 : Int32), ((1000 : Int32).toInt - x6.toInt).toNat < n → V = tw_ST_find_h20 b p1 p2 x4 n x5 x6 → ∀ ls : Array Slot, lv_has ls 9 [(0, .ref aS), (2, .int p1), (3, .int p2), (4, .int x4), (5, .int x5), (6, .int x6)] → W p l e ({ frames := 2, cells := 0, slots := 0, locals := 48 }) s m args below meth c s.heap [] 0 0 (MQ below (vp_Si (fun r => r = V)) args s 0 0 (fun _ => False)) (F0 m 20 ls []) := by
  obtain ⟨hx, hb, hml, hr, hown, hlocks, hT⟩ := id C0
  have hK := hk.1
  have hN := hk.2.1
  intro n
  induction n with
  | zero =>
    intro x5 x6 hm
    exact absurd hm (Nat.not_lt_zero _)
  | succ n ih =>
    intro x5 x6 hm hV ls hl
    refine lv_iload hx hb d_ST_find_20 (lv_at hl 5 rfl) ?_
    refine lv_sipush (v := 1000) hx hb d_ST_find_22 (by decide) ?_
    refine lv_icmp_ge (tgt := 97) hx hb d_ST_find_25 (by decide) (fun c_1 => ?_) (fun c_1 => ?_)
    · refine lv_iconst (v := 0) hx hb d_ST_find_97 (by decide) ?_
      exact W.iret (v := 0) hx hb hr (fun t ht hW => ⟨0, rfl, (by rw [hV, tw_ST_find_h20, if_pos c_1]; first | done | rfl), ht⟩) (fun _ h => by cases h) d_ST_find_98
    · refine lv_iload hx hb d_ST_find_28 (lv_at hl 4 rfl) ?_
      refine lv_iload hx hb d_ST_find_30 (lv_at hl 3 rfl) ?_
      refine lv_icmp_ge (tgt := 97) hx hb d_ST_find_32 (by decide) (fun c_2 => ?_) (fun c_2 => ?_)
      · refine lv_iconst (v := 0) hx hb d_ST_find_97 (by decide) ?_
        exact W.iret (v := 0) hx hb hr (fun t ht hW => ⟨0, rfl, (by rw [hV, tw_ST_find_h20, if_neg c_1, if_pos c_2]; first | done | rfl), ht⟩) (fun _ h => by cases h) d_ST_find_98
      · refine lv_aload_n hx hb d_ST_find_35 rfl (lv_at hl 0 rfl) ?_
        refine lv_iload hx hb d_ST_find_36 (lv_at hl 4 rfl) ?_
        refine rd_V (val := tw_ST_valueOf b x5) (As := [.int x5]) (rest := []) ⟨hx, hb, hml, hown, hT⟩ (c_ST_valueOf l D cB cI aS aB b x5) (cwV 1 hT (gV_of k_485 k_399 k_400 k_2 kc_ST_valueOf) rfl rfl rfl hd_ST_valueOf ⟨Nat.le_of_ble_eq_true rfl, Nat.le_of_ble_eq_true rfl⟩) hk hP (q0 := 0) rfl rfl rfl rfl hl.1 rfl (Nat.le_of_ble_eq_true rfl) d_ST_find_38 ⟨Nat.zero_le _, Nat.zero_le _⟩ ?_
        refine lv_istore (lv' := [(7, .int (tw_ST_valueOf b x5)), (0, .ref aS), (2, .int p1), (3, .int p2), (4, .int x4), (5, .int x5), (6, .int x6)]) hx hb d_ST_find_41 hl (by decide) rfl (fun ls hl => ?_)
        refine lv_iload hx hb d_ST_find_43 (lv_at hl 0 rfl) ?_
        refine rd_S (val := tw_ST_placeOf (tw_ST_valueOf b x5)) (As := [.int (tw_ST_valueOf b x5)]) (rest := []) ⟨hx, hb, hml, hown, hT⟩ (c_ST_placeOf l D cB cI (tw_ST_valueOf b x5)) (va_cwS 1 hT (gS_of k_484 k_403 k_2 kc_ST_placeOf) rfl rfl rfl hd_ST_placeOf ⟨Nat.le_of_ble_eq_true rfl, Nat.le_of_ble_eq_true rfl⟩) hk (va_P_nil) rfl hl.1 rfl (Nat.le_of_ble_eq_true rfl) d_ST_find_45 ⟨Nat.zero_le _, Nat.zero_le _⟩ ?_
        refine lv_iconst (v := 1) hx hb d_ST_find_48 (by decide) ?_
        refine lv_isub hx hb d_ST_find_49 ?_
        refine lv_istore (lv' := [(8, .int ((tw_ST_placeOf (tw_ST_valueOf b x5)) - 1)), (7, .int (tw_ST_valueOf b x5)), (0, .ref aS), (2, .int p1), (3, .int p2), (4, .int x4), (5, .int x5), (6, .int x6)]) hx hb d_ST_find_50 hl (by decide) rfl (fun ls hl => ?_)
        refine lv_iload hx hb d_ST_find_52 (lv_at hl 0 rfl) ?_
        refine lv_iload hx hb d_ST_find_54 (lv_at hl 6 rfl) ?_
        refine lv_isub hx hb d_ST_find_56 ?_
        refine lv_iconst (v := 1) hx hb d_ST_find_57 (by decide) ?_
        refine lv_isub hx hb d_ST_find_58 ?_
        refine lv_iload_n hx hb d_ST_find_59 rfl (lv_at hl 4 rfl) ?_
        refine lv_iload_n hx hb d_ST_find_60 rfl (lv_at hl 3 rfl) ?_
        refine lv_isub hx hb d_ST_find_61 ?_
        refine lv_icmp_ne (tgt := 83) hx hb d_ST_find_62 (by decide) (fun c_3 => ?_) (fun c_3 => ?_)
        · refine lv_aload_n hx hb d_ST_find_83 rfl (lv_at hl 2 rfl) ?_
          refine lv_iload hx hb d_ST_find_84 (lv_at hl 1 rfl) ?_
          refine rd_V (val := tw_ST_endOf b (tw_ST_valueOf b x5)) (As := [.int (tw_ST_valueOf b x5)]) (rest := []) ⟨hx, hb, hml, hown, hT⟩ (c_ST_endOf l D cB cI aS aB b (tw_ST_valueOf b x5)) (cwV 1 hT (gV_of k_483 k_416 k_417 k_2 kc_ST_endOf) rfl rfl rfl hd_ST_endOf ⟨Nat.le_of_ble_eq_true rfl, Nat.le_of_ble_eq_true rfl⟩) hk hP (q0 := 0) rfl rfl rfl rfl hl.1 rfl (Nat.le_of_ble_eq_true rfl) d_ST_find_86 ⟨Nat.zero_le _, Nat.zero_le _⟩ ?_
          refine lv_istore (lv' := [(5, .int (tw_ST_endOf b (tw_ST_valueOf b x5))), (8, .int ((tw_ST_placeOf (tw_ST_valueOf b x5)) - 1)), (7, .int (tw_ST_valueOf b x5)), (0, .ref aS), (2, .int p1), (3, .int p2), (4, .int x4), (6, .int x6)]) hx hb d_ST_find_89 hl (by decide) rfl (fun ls hl => ?_)
          refine lv_iinc (v := x6 + 1) (lv' := [(6, .int (x6 + 1)), (5, .int (tw_ST_endOf b (tw_ST_valueOf b x5))), (8, .int ((tw_ST_placeOf (tw_ST_valueOf b x5)) - 1)), (7, .int (tw_ST_valueOf b x5)), (0, .ref aS), (2, .int p1), (3, .int p2), (4, .int x4)]) hx hb d_ST_find_91 hl (k := 7) rfl rfl (by decide) rfl (fun ls hl => ?_)
          refine lv_goto (tgt := 20) hx hb d_ST_find_94 (by decide) ?_
          exact ih (tw_ST_endOf b (tw_ST_valueOf b x5)) (x6 + 1) (lp_up hm c_1) (by rw [hV, tw_ST_find_h20, if_neg c_1, if_neg c_2, if_neg c_3]) ls (lv_sub hl [4, 5, 6, 7, 1, 0] rfl)
        · refine lv_aload_n hx hb d_ST_find_65 rfl (lv_at hl 2 rfl) ?_
          refine lv_iload hx hb d_ST_find_66 (lv_at hl 6 rfl) ?_
          refine lv_iconst (v := 1) hx hb d_ST_find_68 (by decide) ?_
          refine lv_iadd hx hb d_ST_find_69 ?_
          refine lv_iload hx hb d_ST_find_70 (lv_at hl 0 rfl) ?_
          refine lv_iload_n hx hb d_ST_find_72 rfl (lv_at hl 3 rfl) ?_
          refine lv_iload_n hx hb d_ST_find_73 rfl (lv_at hl 4 rfl) ?_
          refine rd_V (val := tw_ST_compareBytes b (x5 + 1) ((tw_ST_placeOf (tw_ST_valueOf b x5)) - 1) p1 p2) (As := [.int (x5 + 1), .int ((tw_ST_placeOf (tw_ST_valueOf b x5)) - 1), .int p1, .int p2]) (rest := []) ⟨hx, hb, hml, hown, hT⟩ (c_ST_compareBytes l D cB cI aS aB b (x5 + 1) ((tw_ST_placeOf (tw_ST_valueOf b x5)) - 1) p1 p2) (cwV 4 hT (gV_of k_614 k_406 k_407 k_2 kc_ST_compareBytes) rfl rfl rfl hd_ST_compareBytes ⟨Nat.le_of_ble_eq_true rfl, Nat.le_of_ble_eq_true rfl⟩) hk hP (q0 := 0) rfl rfl rfl rfl hl.1 rfl (Nat.le_of_ble_eq_true rfl) d_ST_find_74 ⟨Nat.zero_le _, Nat.zero_le _⟩ ?_
          refine lv_if_ne (tgt := 83) hx hb d_ST_find_77 (by decide) (fun c_4 => ?_) (fun c_4 => ?_)
          · refine lv_aload_n hx hb d_ST_find_83 rfl (lv_at hl 2 rfl) ?_
            refine lv_iload hx hb d_ST_find_84 (lv_at hl 1 rfl) ?_
            refine rd_V (val := tw_ST_endOf b (tw_ST_valueOf b x5)) (As := [.int (tw_ST_valueOf b x5)]) (rest := []) ⟨hx, hb, hml, hown, hT⟩ (c_ST_endOf l D cB cI aS aB b (tw_ST_valueOf b x5)) (cwV 1 hT (gV_of k_483 k_416 k_417 k_2 kc_ST_endOf) rfl rfl rfl hd_ST_endOf ⟨Nat.le_of_ble_eq_true rfl, Nat.le_of_ble_eq_true rfl⟩) hk hP (q0 := 0) rfl rfl rfl rfl hl.1 rfl (Nat.le_of_ble_eq_true rfl) d_ST_find_86 ⟨Nat.zero_le _, Nat.zero_le _⟩ ?_
            refine lv_istore (lv' := [(5, .int (tw_ST_endOf b (tw_ST_valueOf b x5))), (8, .int ((tw_ST_placeOf (tw_ST_valueOf b x5)) - 1)), (7, .int (tw_ST_valueOf b x5)), (0, .ref aS), (2, .int p1), (3, .int p2), (4, .int x4), (6, .int x6)]) hx hb d_ST_find_89 hl (by decide) rfl (fun ls hl => ?_)
            refine lv_iinc (v := x6 + 1) (lv' := [(6, .int (x6 + 1)), (5, .int (tw_ST_endOf b (tw_ST_valueOf b x5))), (8, .int ((tw_ST_placeOf (tw_ST_valueOf b x5)) - 1)), (7, .int (tw_ST_valueOf b x5)), (0, .ref aS), (2, .int p1), (3, .int p2), (4, .int x4)]) hx hb d_ST_find_91 hl (k := 7) rfl rfl (by decide) rfl (fun ls hl => ?_)
            refine lv_goto (tgt := 20) hx hb d_ST_find_94 (by decide) ?_
            exact ih (tw_ST_endOf b (tw_ST_valueOf b x5)) (x6 + 1) (lp_up hm c_1) (by rw [hV, tw_ST_find_h20, if_neg c_1, if_neg c_2, if_pos c_3, if_neg c_4]) ls (lv_sub hl [4, 5, 6, 7, 1, 0] rfl)
          · refine lv_iload hx hb d_ST_find_80 (lv_at hl 1 rfl) ?_
            exact W.iret (v := tw_ST_valueOf b x5) hx hb hr (fun t ht hW => ⟨tw_ST_valueOf b x5, rfl, (by rw [hV, tw_ST_find_h20, if_neg c_1, if_neg c_2, if_pos c_3, if_pos c_4]; first | done | rfl), ht⟩) (fun _ h => by cases h) d_ST_find_82
set_option maxHeartbeats 4000000 in
set_option maxRecDepth 100000 in
theorem c_ST_find (l : Launch) (D : va_G) (cB cI : ClassId) (aS aB : Nat) (b : Nat → UInt8) (p0 : Int32) (p1 : Int32) (p2 : Int32) : Met l y_ST_find mw_ST_find { frames := 2, cells := 0, slots := 0, locals := 48 } (va_Pc [.ref aS, .int p0, .int p1, .int p2] (fun U => va_P D vwCl [(aS, .inr (0, [.ref aB])), (aB, .inl (cB, 202000, .inl (by_ b)))] U.heap ∧ hk_ D cB cI U)) (vp_Si (fun r => r = tw_ST_find b p0 p1 p2)) 0 0 (fun _ => False) := by
  refine Met.ofW (cc := b_ST_find) (maxL := 9) (ret := (some .int)) (by decide) rfl ?_
  intro p e s m args below meth c s₁ B0 hml hv
  obtain ⟨rfl, hP, hk⟩ := hv
  have hK := hk.1
  have hN := hk.2.1
  have hx := B0.exec
  have hb := B0.bytes
  have hr := B0.returns
  have hT : ∀ w ∈ lw_g, w.before _ s = true := fun w h => atoms_spec (ws := mw_ST_find) B0.pre w (List.mem_cons_of_mem _ h)
  have hown : s.vm.findClass R_ST = some m.cls := findClass_of_methodNamed B0.named
  have hlocks := B0.notSynchronized
  have hl := lv_entry ([.ref aS, .int p0, .int p1, .int p2]) (n := 9) (Nat.le_of_ble_eq_true rfl)
  rw [lg_entry_eq]
  generalize (lg_sl ([.ref aS, .int p0, .int p1, .int p2]) ++ List.replicate (9 - (lg_sl ([.ref aS, .int p0, .int p1, .int p2])).length) Slot.unset).toArray = ls at hl ⊢
  have hl : lv_has ls 9 [(0, .ref aS), (1, .int p0), (2, .int p1), (3, .int p2)] := hl
  have C0 : lc_C p s m meth c _ b_ST_find 9 (some .int) R_ST lw_g := ⟨hx, hb, hml, hr, hown, hlocks, hT⟩
  refine lv_aload_n hx hb d_ST_find_0 rfl (lv_at hl 0 rfl) ?_
  refine lv_iload_n hx hb d_ST_find_1 rfl (lv_at hl 1 rfl) ?_
  refine rd_V (val := tw_ST_endOf b p0) (As := [.int p0]) (rest := []) ⟨hx, hb, hml, hown, hT⟩ (c_ST_endOf l D cB cI aS aB b p0) (cwV 1 hT (gV_of k_483 k_416 k_417 k_2 kc_ST_endOf) rfl rfl rfl hd_ST_endOf ⟨Nat.le_of_ble_eq_true rfl, Nat.le_of_ble_eq_true rfl⟩) hk hP (q0 := 0) rfl rfl rfl rfl hl.1 rfl (Nat.le_of_ble_eq_true rfl) d_ST_find_2 ⟨Nat.zero_le _, Nat.zero_le _⟩ ?_
  refine lv_iconst (v := 1) hx hb d_ST_find_5 (by decide) ?_
  refine lv_isub hx hb d_ST_find_6 ?_
  refine lv_istore (lv' := [(4, .int ((tw_ST_endOf b p0) - 1)), (0, .ref aS), (1, .int p0), (2, .int p1), (3, .int p2)]) hx hb d_ST_find_7 hl (by decide) rfl (fun ls hl => ?_)
  refine lv_iload_n hx hb d_ST_find_9 rfl (lv_at hl 2 rfl) ?_
  refine rd_S (val := tw_ST_placeOf p0) (As := [.int p0]) (rest := []) ⟨hx, hb, hml, hown, hT⟩ (c_ST_placeOf l D cB cI p0) (va_cwS 1 hT (gS_of k_484 k_403 k_2 kc_ST_placeOf) rfl rfl rfl hd_ST_placeOf ⟨Nat.le_of_ble_eq_true rfl, Nat.le_of_ble_eq_true rfl⟩) hk (va_P_nil) rfl hl.1 rfl (Nat.le_of_ble_eq_true rfl) d_ST_find_10 ⟨Nat.zero_le _, Nat.zero_le _⟩ ?_
  refine lv_iconst (v := 4) hx hb d_ST_find_13 (by decide) ?_
  refine lv_iadd hx hb d_ST_find_14 ?_
  refine lv_istore (lv' := [(5, .int ((tw_ST_placeOf p0) + 4)), (4, .int ((tw_ST_endOf b p0) - 1)), (0, .ref aS), (1, .int p0), (2, .int p1), (3, .int p2)]) hx hb d_ST_find_15 hl (by decide) rfl (fun ls hl => ?_)
  refine lv_iconst (v := 0) hx hb d_ST_find_17 (by decide) ?_
  refine lv_istore (lv' := [(6, .int 0), (5, .int ((tw_ST_placeOf p0) + 4)), (4, .int ((tw_ST_endOf b p0) - 1)), (0, .ref aS), (1, .int p0), (2, .int p1), (3, .int p2)]) hx hb d_ST_find_18 hl (by decide) rfl (fun ls hl => ?_)
  exact l_ST_find_h20 C0 l D cB cI aS aB b hP hk p1 p2 ((tw_ST_endOf b p0) - 1)  ((((1000 : Int32).toInt - (0 : Int32).toInt).toNat) + 1) ((tw_ST_placeOf p0) + 4) 0 (Nat.lt_succ_self _) (by rw [tw_ST_find]) ls (lv_sub hl [3, 5, 6, 2, 1, 0] rfl)
set_option maxHeartbeats 4000000 in
set_option maxRecDepth 100000 in
theorem l_ST_item_h19 {p : Program} {e : Env} {s : State} {m : MethodId} {args : Array Value} {below : List Frame} {meth : Method} {c : Code} {V : Int32} (C0 : lc_C p s m meth c args b_ST_item 7 (some .int) R_ST lw_g) (l : Launch) (D : va_G) (cB cI : ClassId) (aS aB : Nat) (b : Nat → UInt8) (hP : va_P D vwCl [(aS, .inr (0, [.ref aB])), (aB, .inl (cB, 202000, .inl (by_ b)))] s.heap) (hk : hk_ D cB cI s) (p1 : Int32) (x3 : Int32) : ∀ (n : Nat) (x4 : Int32) (x5 : Int32), ((1000 : Int32).toInt - x5.toInt).toNat < n → V = tw_ST_item_h19 b p1 x3 n x4 x5 → ∀ ls : Array Slot, lv_has ls 7 [(0, .ref aS), (2, .int p1), (3, .int x3), (4, .int x4), (5, .int x5)] → W p l e ({ frames := 1, cells := 0, slots := 0, locals := 24 }) s m args below meth c s.heap [] 0 0 (MQ below (vp_Si (fun r => r = V)) args s 0 0 (fun _ => False)) (F0 m 19 ls []) := by
  obtain ⟨hx, hb, hml, hr, hown, hlocks, hT⟩ := id C0
  have hK := hk.1
  have hN := hk.2.1
  intro n
  induction n with
  | zero =>
    intro x4 x5 hm
    exact absurd hm (Nat.not_lt_zero _)
  | succ n ih =>
    intro x4 x5 hm hV ls hl
    refine lv_iload hx hb d_ST_item_19 (lv_at hl 4 rfl) ?_
    refine lv_sipush (v := 1000) hx hb d_ST_item_21 (by decide) ?_
    refine lv_icmp_ge (tgt := 64) hx hb d_ST_item_24 (by decide) (fun c_1 => ?_) (fun c_1 => ?_)
    · refine lv_iconst (v := 0) hx hb d_ST_item_64 (by decide) ?_
      exact W.iret (v := 0) hx hb hr (fun t ht hW => ⟨0, rfl, (by rw [hV, tw_ST_item_h19, if_pos c_1]; first | done | rfl), ht⟩) (fun _ h => by cases h) d_ST_item_65
    · refine lv_iload hx hb d_ST_item_27 (lv_at hl 3 rfl) ?_
      refine lv_iload_n hx hb d_ST_item_29 rfl (lv_at hl 2 rfl) ?_
      refine lv_icmp_ge (tgt := 64) hx hb d_ST_item_30 (by decide) (fun c_2 => ?_) (fun c_2 => ?_)
      · refine lv_iconst (v := 0) hx hb d_ST_item_64 (by decide) ?_
        exact W.iret (v := 0) hx hb hr (fun t ht hW => ⟨0, rfl, (by rw [hV, tw_ST_item_h19, if_neg c_1, if_pos c_2]; first | done | rfl), ht⟩) (fun _ h => by cases h) d_ST_item_65
      · refine lv_aload_n hx hb d_ST_item_33 rfl (lv_at hl 0 rfl) ?_
        refine lv_iload hx hb d_ST_item_34 (lv_at hl 3 rfl) ?_
        refine rd_V (val := tw_ST_valueOf b x4) (As := [.int x4]) (rest := []) ⟨hx, hb, hml, hown, hT⟩ (c_ST_valueOf l D cB cI aS aB b x4) (cwV 1 hT (gV_of k_485 k_399 k_400 k_2 kc_ST_valueOf) rfl rfl rfl hd_ST_valueOf ⟨Nat.le_of_ble_eq_true rfl, Nat.le_of_ble_eq_true rfl⟩) hk hP (q0 := 0) rfl rfl rfl rfl hl.1 rfl (Nat.le_of_ble_eq_true rfl) d_ST_item_36 ⟨Nat.zero_le _, Nat.zero_le _⟩ ?_
        refine lv_istore (lv' := [(6, .int (tw_ST_valueOf b x4)), (0, .ref aS), (2, .int p1), (3, .int x3), (4, .int x4), (5, .int x5)]) hx hb d_ST_item_39 hl (by decide) rfl (fun ls hl => ?_)
        refine lv_iload hx hb d_ST_item_41 (lv_at hl 5 rfl) ?_
        refine lv_iload_n hx hb d_ST_item_43 rfl (lv_at hl 2 rfl) ?_
        refine lv_icmp_ne (tgt := 50) hx hb d_ST_item_44 (by decide) (fun c_3 => ?_) (fun c_3 => ?_)
        · refine lv_aload_n hx hb d_ST_item_50 rfl (lv_at hl 1 rfl) ?_
          refine lv_iload hx hb d_ST_item_51 (lv_at hl 0 rfl) ?_
          refine rd_V (val := tw_ST_endOf b (tw_ST_valueOf b x4)) (As := [.int (tw_ST_valueOf b x4)]) (rest := []) ⟨hx, hb, hml, hown, hT⟩ (c_ST_endOf l D cB cI aS aB b (tw_ST_valueOf b x4)) (cwV 1 hT (gV_of k_483 k_416 k_417 k_2 kc_ST_endOf) rfl rfl rfl hd_ST_endOf ⟨Nat.le_of_ble_eq_true rfl, Nat.le_of_ble_eq_true rfl⟩) hk hP (q0 := 0) rfl rfl rfl rfl hl.1 rfl (Nat.le_of_ble_eq_true rfl) d_ST_item_53 ⟨Nat.zero_le _, Nat.zero_le _⟩ ?_
          refine lv_istore (lv' := [(4, .int (tw_ST_endOf b (tw_ST_valueOf b x4))), (6, .int (tw_ST_valueOf b x4)), (0, .ref aS), (2, .int p1), (3, .int x3), (5, .int x5)]) hx hb d_ST_item_56 hl (by decide) rfl (fun ls hl => ?_)
          refine lv_iinc (v := x5 + 1) (lv' := [(5, .int (x5 + 1)), (4, .int (tw_ST_endOf b (tw_ST_valueOf b x4))), (6, .int (tw_ST_valueOf b x4)), (0, .ref aS), (2, .int p1), (3, .int x3)]) hx hb d_ST_item_58 hl (k := 5) rfl rfl (by decide) rfl (fun ls hl => ?_)
          refine lv_goto (tgt := 19) hx hb d_ST_item_61 (by decide) ?_
          exact ih (tw_ST_endOf b (tw_ST_valueOf b x4)) (x5 + 1) (lp_up hm c_1) (by rw [hV, tw_ST_item_h19, if_neg c_1, if_neg c_2, if_neg c_3]) ls (lv_sub hl [3, 4, 5, 1, 0] rfl)
        · refine lv_iload hx hb d_ST_item_47 (lv_at hl 0 rfl) ?_
          exact W.iret (v := tw_ST_valueOf b x4) hx hb hr (fun t ht hW => ⟨tw_ST_valueOf b x4, rfl, (by rw [hV, tw_ST_item_h19, if_neg c_1, if_neg c_2, if_pos c_3]; first | done | rfl), ht⟩) (fun _ h => by cases h) d_ST_item_49
set_option maxHeartbeats 4000000 in
set_option maxRecDepth 100000 in
theorem c_ST_item (l : Launch) (D : va_G) (cB cI : ClassId) (aS aB : Nat) (b : Nat → UInt8) (p0 : Int32) (p1 : Int32) : Met l y_ST_item mw_ST_item { frames := 1, cells := 0, slots := 0, locals := 24 } (va_Pc [.ref aS, .int p0, .int p1] (fun U => va_P D vwCl [(aS, .inr (0, [.ref aB])), (aB, .inl (cB, 202000, .inl (by_ b)))] U.heap ∧ hk_ D cB cI U)) (vp_Si (fun r => r = tw_ST_item b p0 p1)) 0 0 (fun _ => False) := by
  refine Met.ofW (cc := b_ST_item) (maxL := 7) (ret := (some .int)) (by decide) rfl ?_
  intro p e s m args below meth c s₁ B0 hml hv
  obtain ⟨rfl, hP, hk⟩ := hv
  have hK := hk.1
  have hN := hk.2.1
  have hx := B0.exec
  have hb := B0.bytes
  have hr := B0.returns
  have hT : ∀ w ∈ lw_g, w.before _ s = true := fun w h => atoms_spec (ws := mw_ST_item) B0.pre w (List.mem_cons_of_mem _ h)
  have hown : s.vm.findClass R_ST = some m.cls := findClass_of_methodNamed B0.named
  have hlocks := B0.notSynchronized
  have hl := lv_entry ([.ref aS, .int p0, .int p1]) (n := 7) (Nat.le_of_ble_eq_true rfl)
  rw [lg_entry_eq]
  generalize (lg_sl ([.ref aS, .int p0, .int p1]) ++ List.replicate (7 - (lg_sl ([.ref aS, .int p0, .int p1])).length) Slot.unset).toArray = ls at hl ⊢
  have hl : lv_has ls 7 [(0, .ref aS), (1, .int p0), (2, .int p1)] := hl
  have C0 : lc_C p s m meth c _ b_ST_item 7 (some .int) R_ST lw_g := ⟨hx, hb, hml, hr, hown, hlocks, hT⟩
  refine lv_aload_n hx hb d_ST_item_0 rfl (lv_at hl 0 rfl) ?_
  refine lv_iload_n hx hb d_ST_item_1 rfl (lv_at hl 1 rfl) ?_
  refine rd_V (val := tw_ST_endOf b p0) (As := [.int p0]) (rest := []) ⟨hx, hb, hml, hown, hT⟩ (c_ST_endOf l D cB cI aS aB b p0) (cwV 1 hT (gV_of k_483 k_416 k_417 k_2 kc_ST_endOf) rfl rfl rfl hd_ST_endOf ⟨Nat.le_of_ble_eq_true rfl, Nat.le_of_ble_eq_true rfl⟩) hk hP (q0 := 0) rfl rfl rfl rfl hl.1 rfl (Nat.le_of_ble_eq_true rfl) d_ST_item_2 ⟨Nat.zero_le _, Nat.zero_le _⟩ ?_
  refine lv_iconst (v := 1) hx hb d_ST_item_5 (by decide) ?_
  refine lv_isub hx hb d_ST_item_6 ?_
  refine lv_istore_n (lv' := [(3, .int ((tw_ST_endOf b p0) - 1)), (0, .ref aS), (1, .int p0), (2, .int p1)]) hx hb d_ST_item_7 rfl hl (by decide) rfl (fun ls hl => ?_)
  refine lv_iload_n hx hb d_ST_item_8 rfl (lv_at hl 2 rfl) ?_
  refine rd_S (val := tw_ST_placeOf p0) (As := [.int p0]) (rest := []) ⟨hx, hb, hml, hown, hT⟩ (c_ST_placeOf l D cB cI p0) (va_cwS 1 hT (gS_of k_484 k_403 k_2 kc_ST_placeOf) rfl rfl rfl hd_ST_placeOf ⟨Nat.le_of_ble_eq_true rfl, Nat.le_of_ble_eq_true rfl⟩) hk (va_P_nil) rfl hl.1 rfl (Nat.le_of_ble_eq_true rfl) d_ST_item_9 ⟨Nat.zero_le _, Nat.zero_le _⟩ ?_
  refine lv_iconst (v := 4) hx hb d_ST_item_12 (by decide) ?_
  refine lv_iadd hx hb d_ST_item_13 ?_
  refine lv_istore (lv' := [(4, .int ((tw_ST_placeOf p0) + 4)), (3, .int ((tw_ST_endOf b p0) - 1)), (0, .ref aS), (1, .int p0), (2, .int p1)]) hx hb d_ST_item_14 hl (by decide) rfl (fun ls hl => ?_)
  refine lv_iconst (v := 0) hx hb d_ST_item_16 (by decide) ?_
  refine lv_istore (lv' := [(5, .int 0), (4, .int ((tw_ST_placeOf p0) + 4)), (3, .int ((tw_ST_endOf b p0) - 1)), (0, .ref aS), (1, .int p0), (2, .int p1)]) hx hb d_ST_item_17 hl (by decide) rfl (fun ls hl => ?_)
  exact l_ST_item_h19 C0 l D cB cI aS aB b hP hk p1 ((tw_ST_endOf b p0) - 1)  ((((1000 : Int32).toInt - (0 : Int32).toInt).toNat) + 1) ((tw_ST_placeOf p0) + 4) 0 (Nat.lt_succ_self _) (by rw [tw_ST_item]) ls (lv_sub hl [3, 5, 2, 1, 0] rfl)
set_option maxHeartbeats 4000000 in
set_option maxRecDepth 100000 in
theorem l_ST_isPlain_h19 {p : Program} {e : Env} {s : State} {m : MethodId} {args : Array Value} {below : List Frame} {meth : Method} {c : Code} {V : Bool} (C0 : lc_C p s m meth c args b_ST_isPlain 5 (some .boolean) R_ST lw_g) (l : Launch) (D : va_G) (cB cI : ClassId) (aS aB : Nat) (b : Nat → UInt8) (hP : va_P D vwCl [(aS, .inr (0, [.ref aB])), (aB, .inl (cB, 202000, .inl (by_ b)))] s.heap) (hk : hk_ D cB cI s) (p1 : Int32) : ∀ (n : Nat) (x3 : Int32), (p1.toInt - x3.toInt).toNat < n → V = tw_ST_isPlain_h19 b p1 n x3 → ∀ ls : Array Slot, lv_has ls 5 [(0, .ref aS), (2, .int p1), (3, .int x3)] → W p l e ({ frames := 1, cells := 0, slots := 0, locals := 21 }) s m args below meth c s.heap [] 0 0 (MQ below (vp_Si (fun r => r = b2i V)) args s 0 0 (fun _ => False)) (F0 m 19 ls []) := by
  obtain ⟨hx, hb, hml, hr, hown, hlocks, hT⟩ := id C0
  have hK := hk.1
  have hN := hk.2.1
  intro n
  induction n with
  | zero =>
    intro x3 hm
    exact absurd hm (Nat.not_lt_zero _)
  | succ n ih =>
    intro x3 hm hV ls hl
    refine lv_iload_n hx hb d_ST_isPlain_19 rfl (lv_at hl 2 rfl) ?_
    refine lv_iload_n hx hb d_ST_isPlain_20 rfl (lv_at hl 1 rfl) ?_
    refine lv_icmp_ge (tgt := 51) hx hb d_ST_isPlain_21 (by decide) (fun c_3 => ?_) (fun c_3 => ?_)
    · refine lv_iconst (v := 1) hx hb d_ST_isPlain_51 (by decide) ?_
      exact W.zret (v := 1) (ty := .boolean) hx hb hr (rfl) (fun t ht hW => ⟨1, rfl, (by rw [hV, tw_ST_isPlain_h19, if_pos c_3]; first | done | rfl), ht⟩) (fun _ h => by cases h) d_ST_isPlain_52
    · refine lv_aload_n hx hb d_ST_isPlain_24 rfl (lv_at hl 0 rfl) ?_
      refine lv_iload_n hx hb d_ST_isPlain_25 rfl (lv_at hl 2 rfl) ?_
      refine rd_V (val := tw_ST_at b x3) (As := [.int x3]) (rest := []) ⟨hx, hb, hml, hown, hT⟩ (c_ST_at l D cB cI aS aB b x3) (cwV 1 hT (gV_of k_385 k_378 k_379 k_2 kc_ST_at) rfl rfl rfl hd_ST_at ⟨Nat.le_of_ble_eq_true rfl, Nat.le_of_ble_eq_true rfl⟩) hk hP (q0 := 0) rfl rfl rfl rfl hl.1 rfl (Nat.le_of_ble_eq_true rfl) d_ST_isPlain_26 ⟨Nat.zero_le _, Nat.zero_le _⟩ ?_
      refine lv_istore (lv' := [(4, .int (tw_ST_at b x3)), (0, .ref aS), (2, .int p1), (3, .int x3)]) hx hb d_ST_isPlain_29 hl (by decide) rfl (fun ls hl => ?_)
      refine lv_iload hx hb d_ST_isPlain_31 (lv_at hl 0 rfl) ?_
      refine lv_bipush (v := 46) hx hb d_ST_isPlain_33 (by decide) ?_
      refine lv_icmp_eq (tgt := 43) hx hb d_ST_isPlain_35 (by decide) (fun c_4 => ?_) (fun c_4 => ?_)
      · refine lv_iconst (v := 0) hx hb d_ST_isPlain_43 (by decide) ?_
        exact W.zret (v := 0) (ty := .boolean) hx hb hr (rfl) (fun t ht hW => ⟨0, rfl, (by rw [hV, tw_ST_isPlain_h19, if_neg c_3, if_pos c_4]; first | done | rfl), ht⟩) (fun _ h => by cases h) d_ST_isPlain_44
      · refine lv_iload hx hb d_ST_isPlain_38 (lv_at hl 0 rfl) ?_
        refine lv_if_ne (tgt := 45) hx hb d_ST_isPlain_40 (by decide) (fun c_5 => ?_) (fun c_5 => ?_)
        · refine lv_iinc (v := x3 + 1) (lv' := [(3, .int (x3 + 1)), (4, .int (tw_ST_at b x3)), (0, .ref aS), (2, .int p1)]) hx hb d_ST_isPlain_45 hl (k := 3) rfl rfl (by decide) rfl (fun ls hl => ?_)
          refine lv_goto (tgt := 19) hx hb d_ST_isPlain_48 (by decide) ?_
          exact ih (x3 + 1) (lp_up hm c_3) (by rw [hV, tw_ST_isPlain_h19, if_neg c_3, if_neg c_4, if_neg c_5]) ls (lv_sub hl [2, 3, 0] rfl)
        · refine lv_iconst (v := 0) hx hb d_ST_isPlain_43 (by decide) ?_
          exact W.zret (v := 0) (ty := .boolean) hx hb hr (rfl) (fun t ht hW => ⟨0, rfl, (by rw [hV, tw_ST_isPlain_h19, if_neg c_3, if_neg c_4, if_pos c_5]; first | done | rfl), ht⟩) (fun _ h => by cases h) d_ST_isPlain_44
set_option maxHeartbeats 4000000 in
set_option maxRecDepth 100000 in
theorem c_ST_isPlain (l : Launch) (D : va_G) (cB cI : ClassId) (aS aB : Nat) (b : Nat → UInt8) (p0 : Int32) (p1 : Int32) : Met l y_ST_isPlain mw_ST_isPlain { frames := 1, cells := 0, slots := 0, locals := 21 } (va_Pc [.ref aS, .int p0, .int p1] (fun U => va_P D vwCl [(aS, .inr (0, [.ref aB])), (aB, .inl (cB, 202000, .inl (by_ b)))] U.heap ∧ hk_ D cB cI U)) (vp_Si (fun r => r = b2i (tw_ST_isPlain b p0 p1))) 0 0 (fun _ => False) := by
  refine Met.ofW (cc := b_ST_isPlain) (maxL := 5) (ret := (some .boolean)) (by decide) rfl ?_
  intro p e s m args below meth c s₁ B0 hml hv
  obtain ⟨rfl, hP, hk⟩ := hv
  have hK := hk.1
  have hN := hk.2.1
  have hx := B0.exec
  have hb := B0.bytes
  have hr := B0.returns
  have hT : ∀ w ∈ lw_g, w.before _ s = true := fun w h => atoms_spec (ws := mw_ST_isPlain) B0.pre w (List.mem_cons_of_mem _ h)
  have hown : s.vm.findClass R_ST = some m.cls := findClass_of_methodNamed B0.named
  have hlocks := B0.notSynchronized
  have hl := lv_entry ([.ref aS, .int p0, .int p1]) (n := 5) (Nat.le_of_ble_eq_true rfl)
  rw [lg_entry_eq]
  generalize (lg_sl ([.ref aS, .int p0, .int p1]) ++ List.replicate (5 - (lg_sl ([.ref aS, .int p0, .int p1])).length) Slot.unset).toArray = ls at hl ⊢
  have hl : lv_has ls 5 [(0, .ref aS), (1, .int p0), (2, .int p1)] := hl
  have C0 : lc_C p s m meth c _ b_ST_isPlain 5 (some .boolean) R_ST lw_g := ⟨hx, hb, hml, hr, hown, hlocks, hT⟩
  refine lv_iload_n hx hb d_ST_isPlain_0 rfl (lv_at hl 1 rfl) ?_
  refine lv_iload_n hx hb d_ST_isPlain_1 rfl (lv_at hl 2 rfl) ?_
  refine lv_icmp_ge (tgt := 15) hx hb d_ST_isPlain_2 (by decide) (fun c_1 => ?_) (fun c_1 => ?_)
  · refine lv_iconst (v := 0) hx hb d_ST_isPlain_15 (by decide) ?_
    exact W.zret (v := 0) (ty := .boolean) hx hb hr (rfl) (fun t ht hW => ⟨0, rfl, (by rw [tw_ST_isPlain, if_pos c_1]; first | done | rfl), ht⟩) (fun _ h => by cases h) d_ST_isPlain_16
  · refine lv_aload_n hx hb d_ST_isPlain_5 rfl (lv_at hl 0 rfl) ?_
    refine lv_iload_n hx hb d_ST_isPlain_6 rfl (lv_at hl 1 rfl) ?_
    refine rd_V (val := tw_ST_at b p0) (As := [.int p0]) (rest := []) ⟨hx, hb, hml, hown, hT⟩ (c_ST_at l D cB cI aS aB b p0) (cwV 1 hT (gV_of k_385 k_378 k_379 k_2 kc_ST_at) rfl rfl rfl hd_ST_at ⟨Nat.le_of_ble_eq_true rfl, Nat.le_of_ble_eq_true rfl⟩) hk hP (q0 := 0) rfl rfl rfl rfl hl.1 rfl (Nat.le_of_ble_eq_true rfl) d_ST_isPlain_7 ⟨Nat.zero_le _, Nat.zero_le _⟩ ?_
    refine lv_bipush (v := 36) hx hb d_ST_isPlain_10 (by decide) ?_
    refine lv_icmp_ne (tgt := 17) hx hb d_ST_isPlain_12 (by decide) (fun c_2 => ?_) (fun c_2 => ?_)
    · refine lv_iload_n hx hb d_ST_isPlain_17 rfl (lv_at hl 1 rfl) ?_
      refine lv_istore_n (lv' := [(3, .int p0), (0, .ref aS), (1, .int p0), (2, .int p1)]) hx hb d_ST_isPlain_18 rfl hl (by decide) rfl (fun ls hl => ?_)
      exact l_ST_isPlain_h19 C0 l D cB cI aS aB b hP hk p1  (((p1.toInt - p0.toInt).toNat) + 1) p0 (Nat.lt_succ_self _) (by rw [tw_ST_isPlain, if_neg c_1, if_neg c_2]) ls (lv_sub hl [1, 3, 0] rfl)
    · refine lv_iconst (v := 0) hx hb d_ST_isPlain_15 (by decide) ?_
      exact W.zret (v := 0) (ty := .boolean) hx hb hr (rfl) (fun t ht hW => ⟨0, rfl, (by rw [tw_ST_isPlain, if_neg c_1, if_pos c_2]; first | done | rfl), ht⟩) (fun _ h => by cases h) d_ST_isPlain_16
set_option maxHeartbeats 4000000 in
set_option maxRecDepth 100000 in
theorem l_ST_indexNamed_h37 {p : Program} {e : Env} {s : State} {m : MethodId} {args : Array Value} {below : List Frame} {meth : Method} {c : Code} {V : Int32} (C0 : lc_C p s m meth c args b_ST_indexNamed 7 (some .int) R_ST lw_g) (l : Launch) (D : va_G) (cB cI : ClassId) (aS aB : Nat) (b : Nat → UInt8) (hP : va_P D vwCl [(aS, .inr (0, [.ref aB])), (aB, .inl (cB, 202000, .inl (by_ b)))] s.heap) (hk : hk_ D cB cI s) (p1 : Int32) : ∀ (n : Nat) (x4 : Int32) (x5 : Int32), (p1.toInt - x5.toInt).toNat < n → V = tw_ST_indexNamed_h37 b p1 n x4 x5 → ∀ ls : Array Slot, lv_has ls 7 [(0, .ref aS), (2, .int p1), (4, .int x4), (5, .int x5)] → W p l e ({ frames := 1, cells := 0, slots := 0, locals := 21 }) s m args below meth c s.heap [] 0 0 (MQ below (vp_Si (fun r => r = V)) args s 0 0 (fun _ => False)) (F0 m 37 ls []) := by
  obtain ⟨hx, hb, hml, hr, hown, hlocks, hT⟩ := id C0
  have hK := hk.1
  have hN := hk.2.1
  intro n
  induction n with
  | zero =>
    intro x4 x5 hm
    exact absurd hm (Nat.not_lt_zero _)
  | succ n ih =>
    intro x4 x5 hm hV ls hl
    refine lv_iload hx hb d_ST_indexNamed_37 (lv_at hl 3 rfl) ?_
    refine lv_iload_n hx hb d_ST_indexNamed_39 rfl (lv_at hl 1 rfl) ?_
    refine lv_icmp_ge (tgt := 86) hx hb d_ST_indexNamed_40 (by decide) (fun c_4 => ?_) (fun c_4 => ?_)
    · refine lv_iload hx hb d_ST_indexNamed_86 (lv_at hl 2 rfl) ?_
      exact W.iret (v := x4) hx hb hr (fun t ht hW => ⟨x4, rfl, (by rw [hV, tw_ST_indexNamed_h37, if_pos c_4]; first | done | rfl), ht⟩) (fun _ h => by cases h) d_ST_indexNamed_88
    · refine lv_aload_n hx hb d_ST_indexNamed_43 rfl (lv_at hl 0 rfl) ?_
      refine lv_iload hx hb d_ST_indexNamed_44 (lv_at hl 3 rfl) ?_
      refine rd_V (val := tw_ST_at b x5) (As := [.int x5]) (rest := []) ⟨hx, hb, hml, hown, hT⟩ (c_ST_at l D cB cI aS aB b x5) (cwV 1 hT (gV_of k_385 k_378 k_379 k_2 kc_ST_at) rfl rfl rfl hd_ST_at ⟨Nat.le_of_ble_eq_true rfl, Nat.le_of_ble_eq_true rfl⟩) hk hP (q0 := 0) rfl rfl rfl rfl hl.1 rfl (Nat.le_of_ble_eq_true rfl) d_ST_indexNamed_46 ⟨Nat.zero_le _, Nat.zero_le _⟩ ?_
      refine lv_istore (lv' := [(6, .int (tw_ST_at b x5)), (0, .ref aS), (2, .int p1), (4, .int x4), (5, .int x5)]) hx hb d_ST_indexNamed_49 hl (by decide) rfl (fun ls hl => ?_)
      refine lv_iload hx hb d_ST_indexNamed_51 (lv_at hl 0 rfl) ?_
      refine lv_bipush (v := 48) hx hb d_ST_indexNamed_53 (by decide) ?_
      refine lv_icmp_lt (tgt := 65) hx hb d_ST_indexNamed_55 (by decide) (fun c_5 => ?_) (fun c_5 => ?_)
      · refine lv_iconst (v := -1) hx hb d_ST_indexNamed_65 (by decide) ?_
        exact W.iret (v := (-1)) hx hb hr (fun t ht hW => ⟨(-1), rfl, (by rw [hV, tw_ST_indexNamed_h37, if_neg c_4, if_pos c_5]; first | done | rfl), ht⟩) (fun _ h => by cases h) d_ST_indexNamed_66
      · refine lv_iload hx hb d_ST_indexNamed_58 (lv_at hl 0 rfl) ?_
        refine lv_bipush (v := 57) hx hb d_ST_indexNamed_60 (by decide) ?_
        refine lv_icmp_le (tgt := 67) hx hb d_ST_indexNamed_62 (by decide) (fun c_6 => ?_) (fun c_6 => ?_)
        · refine lv_iload hx hb d_ST_indexNamed_67 (lv_at hl 3 rfl) ?_
          refine lv_bipush (v := 10) hx hb d_ST_indexNamed_69 (by decide) ?_
          refine lv_imul hx hb d_ST_indexNamed_71 ?_
          refine lv_iload hx hb d_ST_indexNamed_72 (lv_at hl 0 rfl) ?_
          refine lv_iadd hx hb d_ST_indexNamed_74 ?_
          refine lv_bipush (v := 48) hx hb d_ST_indexNamed_75 (by decide) ?_
          refine lv_isub hx hb d_ST_indexNamed_77 ?_
          refine lv_istore (lv' := [(4, .int (((x4 * 10) + (tw_ST_at b x5)) - 48)), (6, .int (tw_ST_at b x5)), (0, .ref aS), (2, .int p1), (5, .int x5)]) hx hb d_ST_indexNamed_78 hl (by decide) rfl (fun ls hl => ?_)
          refine lv_iinc (v := x5 + 1) (lv' := [(5, .int (x5 + 1)), (4, .int (((x4 * 10) + (tw_ST_at b x5)) - 48)), (6, .int (tw_ST_at b x5)), (0, .ref aS), (2, .int p1)]) hx hb d_ST_indexNamed_80 hl (k := 4) rfl rfl (by decide) rfl (fun ls hl => ?_)
          refine lv_goto (tgt := 37) hx hb d_ST_indexNamed_83 (by decide) ?_
          exact ih (((x4 * 10) + (tw_ST_at b x5)) - 48) (x5 + 1) (lp_up hm c_4) (by rw [hV, tw_ST_indexNamed_h37, if_neg c_4, if_neg c_5, if_pos c_6]) ls (lv_sub hl [3, 4, 1, 0] rfl)
        · refine lv_iconst (v := -1) hx hb d_ST_indexNamed_65 (by decide) ?_
          exact W.iret (v := (-1)) hx hb hr (fun t ht hW => ⟨(-1), rfl, (by rw [hV, tw_ST_indexNamed_h37, if_neg c_4, if_neg c_5, if_neg c_6]; first | done | rfl), ht⟩) (fun _ h => by cases h) d_ST_indexNamed_66
set_option maxHeartbeats 4000000 in
set_option maxRecDepth 100000 in
theorem c_ST_indexNamed (l : Launch) (D : va_G) (cB cI : ClassId) (aS aB : Nat) (b : Nat → UInt8) (p0 : Int32) (p1 : Int32) : Met l y_ST_indexNamed mw_ST_indexNamed { frames := 1, cells := 0, slots := 0, locals := 21 } (va_Pc [.ref aS, .int p0, .int p1] (fun U => va_P D vwCl [(aS, .inr (0, [.ref aB])), (aB, .inl (cB, 202000, .inl (by_ b)))] U.heap ∧ hk_ D cB cI U)) (vp_Si (fun r => r = tw_ST_indexNamed b p0 p1)) 0 0 (fun _ => False) := by
  refine Met.ofW (cc := b_ST_indexNamed) (maxL := 7) (ret := (some .int)) (by decide) rfl ?_
  intro p e s m args below meth c s₁ B0 hml hv
  obtain ⟨rfl, hP, hk⟩ := hv
  have hK := hk.1
  have hN := hk.2.1
  have hx := B0.exec
  have hb := B0.bytes
  have hr := B0.returns
  have hT : ∀ w ∈ lw_g, w.before _ s = true := fun w h => atoms_spec (ws := mw_ST_indexNamed) B0.pre w (List.mem_cons_of_mem _ h)
  have hown : s.vm.findClass R_ST = some m.cls := findClass_of_methodNamed B0.named
  have hlocks := B0.notSynchronized
  have hl := lv_entry ([.ref aS, .int p0, .int p1]) (n := 7) (Nat.le_of_ble_eq_true rfl)
  rw [lg_entry_eq]
  generalize (lg_sl ([.ref aS, .int p0, .int p1]) ++ List.replicate (7 - (lg_sl ([.ref aS, .int p0, .int p1])).length) Slot.unset).toArray = ls at hl ⊢
  have hl : lv_has ls 7 [(0, .ref aS), (1, .int p0), (2, .int p1)] := hl
  have C0 : lc_C p s m meth c _ b_ST_indexNamed 7 (some .int) R_ST lw_g := ⟨hx, hb, hml, hr, hown, hlocks, hT⟩
  refine lv_iload_n hx hb d_ST_indexNamed_0 rfl (lv_at hl 2 rfl) ?_
  refine lv_iload_n hx hb d_ST_indexNamed_1 rfl (lv_at hl 1 rfl) ?_
  refine lv_isub hx hb d_ST_indexNamed_2 ?_
  refine lv_istore_n (lv' := [(3, .int (p1 - p0)), (0, .ref aS), (1, .int p0), (2, .int p1)]) hx hb d_ST_indexNamed_3 rfl hl (by decide) rfl (fun ls hl => ?_)
  refine lv_iload_n hx hb d_ST_indexNamed_4 rfl (lv_at hl 0 rfl) ?_
  refine lv_iconst (v := 1) hx hb d_ST_indexNamed_5 (by decide) ?_
  refine lv_icmp_lt (tgt := 29) hx hb d_ST_indexNamed_6 (by decide) (fun c_1 => ?_) (fun c_1 => ?_)
  · refine lv_iconst (v := -1) hx hb d_ST_indexNamed_29 (by decide) ?_
    exact W.iret (v := (-1)) hx hb hr (fun t ht hW => ⟨(-1), rfl, (by rw [tw_ST_indexNamed, if_pos c_1]; first | done | rfl), ht⟩) (fun _ h => by cases h) d_ST_indexNamed_30
  · refine lv_iload_n hx hb d_ST_indexNamed_9 rfl (lv_at hl 0 rfl) ?_
    refine lv_iconst (v := 4) hx hb d_ST_indexNamed_10 (by decide) ?_
    refine lv_icmp_gt (tgt := 29) hx hb d_ST_indexNamed_11 (by decide) (fun c_2 => ?_) (fun c_2 => ?_)
    · refine lv_iconst (v := -1) hx hb d_ST_indexNamed_29 (by decide) ?_
      exact W.iret (v := (-1)) hx hb hr (fun t ht hW => ⟨(-1), rfl, (by rw [tw_ST_indexNamed, if_neg c_1, if_pos c_2]; first | done | rfl), ht⟩) (fun _ h => by cases h) d_ST_indexNamed_30
    · refine lv_iload_n hx hb d_ST_indexNamed_14 rfl (lv_at hl 0 rfl) ?_
      refine lv_iconst (v := 1) hx hb d_ST_indexNamed_15 (by decide) ?_
      refine lv_icmp_le (tgt := 31) hx hb d_ST_indexNamed_16 (by decide) (fun c_3 => ?_) (fun c_3 => ?_)
      · refine lv_iconst (v := 0) hx hb d_ST_indexNamed_31 (by decide) ?_
        refine lv_istore (lv' := [(4, .int 0), (3, .int (p1 - p0)), (0, .ref aS), (1, .int p0), (2, .int p1)]) hx hb d_ST_indexNamed_32 hl (by decide) rfl (fun ls hl => ?_)
        refine lv_iload_n hx hb d_ST_indexNamed_34 rfl (lv_at hl 3 rfl) ?_
        refine lv_istore (lv' := [(5, .int p0), (4, .int 0), (3, .int (p1 - p0)), (0, .ref aS), (1, .int p0), (2, .int p1)]) hx hb d_ST_indexNamed_35 hl (by decide) rfl (fun ls hl => ?_)
        exact l_ST_indexNamed_h37 C0 l D cB cI aS aB b hP hk p1  (((p1.toInt - p0.toInt).toNat) + 1) 0 p0 (Nat.lt_succ_self _) (by rw [tw_ST_indexNamed, if_neg c_1, if_neg c_2, if_pos c_3]) ls (lv_sub hl [3, 5, 1, 0] rfl)
      · refine lv_aload_n hx hb d_ST_indexNamed_19 rfl (lv_at hl 1 rfl) ?_
        refine lv_iload_n hx hb d_ST_indexNamed_20 rfl (lv_at hl 2 rfl) ?_
        refine rd_V (val := tw_ST_at b p0) (As := [.int p0]) (rest := []) ⟨hx, hb, hml, hown, hT⟩ (c_ST_at l D cB cI aS aB b p0) (cwV 1 hT (gV_of k_385 k_378 k_379 k_2 kc_ST_at) rfl rfl rfl hd_ST_at ⟨Nat.le_of_ble_eq_true rfl, Nat.le_of_ble_eq_true rfl⟩) hk hP (q0 := 0) rfl rfl rfl rfl hl.1 rfl (Nat.le_of_ble_eq_true rfl) d_ST_indexNamed_21 ⟨Nat.zero_le _, Nat.zero_le _⟩ ?_
        refine lv_bipush (v := 48) hx hb d_ST_indexNamed_24 (by decide) ?_
        refine lv_icmp_ne (tgt := 31) hx hb d_ST_indexNamed_26 (by decide) (fun c_7 => ?_) (fun c_7 => ?_)
        · refine lv_iconst (v := 0) hx hb d_ST_indexNamed_31 (by decide) ?_
          refine lv_istore (lv' := [(4, .int 0), (3, .int (p1 - p0)), (0, .ref aS), (1, .int p0), (2, .int p1)]) hx hb d_ST_indexNamed_32 hl (by decide) rfl (fun ls hl => ?_)
          refine lv_iload_n hx hb d_ST_indexNamed_34 rfl (lv_at hl 3 rfl) ?_
          refine lv_istore (lv' := [(5, .int p0), (4, .int 0), (3, .int (p1 - p0)), (0, .ref aS), (1, .int p0), (2, .int p1)]) hx hb d_ST_indexNamed_35 hl (by decide) rfl (fun ls hl => ?_)
          exact l_ST_indexNamed_h37 C0 l D cB cI aS aB b hP hk p1  (((p1.toInt - p0.toInt).toNat) + 1) 0 p0 (Nat.lt_succ_self _) (by rw [tw_ST_indexNamed, if_neg c_1, if_neg c_2, if_neg c_3, if_neg c_7]) ls (lv_sub hl [3, 5, 1, 0] rfl)
        · refine lv_iconst (v := -1) hx hb d_ST_indexNamed_29 (by decide) ?_
          exact W.iret (v := (-1)) hx hb hr (fun t ht hW => ⟨(-1), rfl, (by rw [tw_ST_indexNamed, if_neg c_1, if_neg c_2, if_neg c_3, if_pos c_7]; first | done | rfl), ht⟩) (fun _ h => by cases h) d_ST_indexNamed_30
