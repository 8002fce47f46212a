/-! printed by wip/gen -/
theorem k_3 : (Jvm.Cond.initialized "PipelineBelt$Checker") ∈ lw_g := lw_gm (List.mem_append_right _ (List.mem_of_getElem? (i := 3) (by decide +kernel))) rfl
theorem k_49 : (Jvm.Cond.fieldLink "PipelineBelt$Checker" (9 : Nat) "PipelineBelt$Checker" "store" "LPipelineBelt$Store;") ∈ lw_g := lw_gm (List.mem_append_right _ (List.mem_of_getElem? (i := 49) (by decide +kernel))) rfl
theorem k_365 : (Jvm.Cond.methodLink "PipelineBelt$Checker" (15 : Nat) ({ cls := "PipelineBelt$Checker", name := "isNest", desc := "(IIZI)Z" } : Jvm.MethodName)) ∈ lw_g := lw_gm (List.mem_append_right _ (List.mem_of_getElem? (i := 365) (by decide +kernel))) rfl
theorem k_367 : (Jvm.Cond.instanceMethod ({ cls := "PipelineBelt$Checker", name := "isNest", desc := "(IIZI)Z" } : Jvm.MethodName)) ∈ lw_g := lw_gm (List.mem_append_right _ (List.mem_of_getElem? (i := 367) (by decide +kernel))) rfl
theorem k_369 : (Jvm.Cond.methodLink "PipelineBelt$Checker" (19 : Nat) ({ cls := "PipelineBelt$Store", name := "int32", desc := "(I)I" } : Jvm.MethodName)) ∈ lw_g := lw_gm (List.mem_append_right _ (List.mem_of_getElem? (i := 369) (by decide +kernel))) rfl
theorem k_373 : (Jvm.Cond.methodLink "PipelineBelt$Checker" (25 : Nat) ({ cls := "PipelineBelt$Checker", name := "endOfName", desc := "(II)I" } : Jvm.MethodName)) ∈ lw_g := lw_gm (List.mem_append_right _ (List.mem_of_getElem? (i := 373) (by decide +kernel))) rfl
theorem k_375 : (Jvm.Cond.instanceMethod ({ cls := "PipelineBelt$Checker", name := "endOfName", desc := "(II)I" } : Jvm.MethodName)) ∈ lw_g := lw_gm (List.mem_append_right _ (List.mem_of_getElem? (i := 375) (by decide +kernel))) rfl
theorem k_377 : (Jvm.Cond.methodLink "PipelineBelt$Checker" (36 : Nat) ({ cls := "PipelineBelt$Store", name := "at", desc := "(I)I" } : Jvm.MethodName)) ∈ lw_g := lw_gm (List.mem_append_right _ (List.mem_of_getElem? (i := 377) (by decide +kernel))) rfl
theorem k_381 : (Jvm.Cond.methodLink "PipelineBelt$Checker" (29 : Nat) ({ cls := "PipelineBelt$Store", name := "indexNamed", desc := "(II)I" } : Jvm.MethodName)) ∈ lw_g := lw_gm (List.mem_append_right _ (List.mem_of_getElem? (i := 381) (by decide +kernel))) rfl
theorem k_382 : (Jvm.Cond.instanceMethod ({ cls := "PipelineBelt$Store", name := "indexNamed", desc := "(II)I" } : Jvm.MethodName)) ∈ lw_g := lw_gm (List.mem_append_right _ (List.mem_of_getElem? (i := 382) (by decide +kernel))) rfl
theorem k_383 : (Jvm.Cond.selects "PipelineBelt$Store" ({ cls := "PipelineBelt$Store", name := "indexNamed", desc := "(II)I" } : Jvm.MethodName) ({ cls := "PipelineBelt$Store", name := "indexNamed", desc := "(II)I" } : Jvm.MethodName)) ∈ lw_g := lw_gm (List.mem_append_right _ (List.mem_of_getElem? (i := 383) (by decide +kernel))) rfl
theorem k_386 : (Jvm.Cond.methodLink "PipelineBelt$Checker" (32 : Nat) ({ cls := "PipelineBelt$Checker", name := "isNewName", desc := "(III)Z" } : Jvm.MethodName)) ∈ lw_g := lw_gm (List.mem_append_right _ (List.mem_of_getElem? (i := 386) (by decide +kernel))) rfl
theorem k_388 : (Jvm.Cond.instanceMethod ({ cls := "PipelineBelt$Checker", name := "isNewName", desc := "(III)Z" } : Jvm.MethodName)) ∈ lw_g := lw_gm (List.mem_append_right _ (List.mem_of_getElem? (i := 388) (by decide +kernel))) rfl
theorem k_390 : (Jvm.Cond.methodLink "PipelineBelt$Checker" (43 : Nat) ({ cls := "PipelineBelt$Checker", name := "isUtf8", desc := "(II)Z" } : Jvm.MethodName)) ∈ lw_g := lw_gm (List.mem_append_right _ (List.mem_of_getElem? (i := 390) (by decide +kernel))) rfl
theorem k_392 : (Jvm.Cond.instanceMethod ({ cls := "PipelineBelt$Checker", name := "isUtf8", desc := "(II)Z" } : Jvm.MethodName)) ∈ lw_g := lw_gm (List.mem_append_right _ (List.mem_of_getElem? (i := 392) (by decide +kernel))) rfl
theorem k_394 : (Jvm.Cond.methodLink "PipelineBelt$Checker" (66 : Nat) ({ cls := "PipelineBelt$Checker", name := "lengthOfCharacter", desc := "(II)I" } : Jvm.MethodName)) ∈ lw_g := lw_gm (List.mem_append_right _ (List.mem_of_getElem? (i := 394) (by decide +kernel))) rfl
theorem k_396 : (Jvm.Cond.instanceMethod ({ cls := "PipelineBelt$Checker", name := "lengthOfCharacter", desc := "(II)I" } : Jvm.MethodName)) ∈ lw_g := lw_gm (List.mem_append_right _ (List.mem_of_getElem? (i := 396) (by decide +kernel))) rfl
theorem k_398 : (Jvm.Cond.methodLink "PipelineBelt$Checker" (47 : Nat) ({ cls := "PipelineBelt$Store", name := "valueOf", desc := "(I)I" } : Jvm.MethodName)) ∈ lw_g := lw_gm (List.mem_append_right _ (List.mem_of_getElem? (i := 398) (by decide +kernel))) rfl
theorem k_402 : (Jvm.Cond.methodLink "PipelineBelt$Checker" (50 : Nat) ({ cls := "PipelineBelt$Store", name := "placeOf", desc := "(I)I" } : Jvm.MethodName)) ∈ lw_g := lw_gm (List.mem_append_right _ (List.mem_of_getElem? (i := 402) (by decide +kernel))) rfl
theorem k_405 : (Jvm.Cond.methodLink "PipelineBelt$Checker" (53 : Nat) ({ cls := "PipelineBelt$Store", name := "compareBytes", desc := "(IIII)I" } : Jvm.MethodName)) ∈ lw_g := lw_gm (List.mem_append_right _ (List.mem_of_getElem? (i := 405) (by decide +kernel))) rfl
theorem k_415 : (Jvm.Cond.methodLink "PipelineBelt$Checker" (56 : Nat) ({ cls := "PipelineBelt$Store", name := "endOf", desc := "(I)I" } : Jvm.MethodName)) ∈ lw_g := lw_gm (List.mem_append_right _ (List.mem_of_getElem? (i := 415) (by decide +kernel))) rfl
theorem k_419 : (Jvm.Cond.methodLink "PipelineBelt$Checker" (39 : Nat) ({ cls := "PipelineBelt$Checker", name := "endOfValue", desc := "(IIII)I" } : Jvm.MethodName)) ∈ lw_g := lw_gm (List.mem_append_right _ (List.mem_of_getElem? (i := 419) (by decide +kernel))) rfl
theorem k_421 : (Jvm.Cond.instanceMethod ({ cls := "PipelineBelt$Checker", name := "endOfValue", desc := "(IIII)I" } : Jvm.MethodName)) ∈ lw_g := lw_gm (List.mem_append_right _ (List.mem_of_getElem? (i := 421) (by decide +kernel))) rfl
theorem k_423 : (Jvm.Cond.methodLink "PipelineBelt$Checker" (59 : Nat) ({ cls := "PipelineBelt$Checker", name := "endOfText", desc := "(II)I" } : Jvm.MethodName)) ∈ lw_g := lw_gm (List.mem_append_right _ (List.mem_of_getElem? (i := 423) (by decide +kernel))) rfl
theorem k_425 : (Jvm.Cond.instanceMethod ({ cls := "PipelineBelt$Checker", name := "endOfText", desc := "(II)I" } : Jvm.MethodName)) ∈ lw_g := lw_gm (List.mem_append_right _ (List.mem_of_getElem? (i := 425) (by decide +kernel))) rfl
theorem k_427 : (Jvm.Cond.methodLink "PipelineBelt$Checker" (62 : Nat) ({ cls := "PipelineBelt$Checker", name := "endOfNest", desc := "(ZIII)I" } : Jvm.MethodName)) ∈ lw_g := lw_gm (List.mem_append_right _ (List.mem_of_getElem? (i := 427) (by decide +kernel))) rfl
theorem k_429 : (Jvm.Cond.instanceMethod ({ cls := "PipelineBelt$Checker", name := "endOfNest", desc := "(ZIII)I" } : Jvm.MethodName)) ∈ lw_g := lw_gm (List.mem_append_right _ (List.mem_of_getElem? (i := 429) (by decide +kernel))) rfl
abbrev b_CH_endOfName : ByteArray := prog_4_method_4_code
def y_CH_endOfName : MethodName := ⟨R_CH, "endOfName", "(II)I"⟩
theorem kc_CH_endOfName : Cond.code y_CH_endOfName b_CH_endOfName 4 (some .int) ∈ lw_g := lw_gm (List.mem_append_right _ (List.mem_of_getElem? (i := 376) (by decide +kernel))) rfl
abbrev mw_CH_endOfName : List Cond := Cond.code y_CH_endOfName b_CH_endOfName 4 (some .int) :: lw_g
theorem hd_CH_endOfName : y_CH_endOfName.cls = R_CH ∧ y_CH_endOfName.cls ≠ "java/lang/invoke/MethodHandle" ∧ y_CH_endOfName.cls ≠ "java/lang/invoke/VarHandle" ∧ (parseMethodDescriptor y_CH_endOfName.desc).map (fun d => d.parameters.length) = some 2 := by decide +kernel
theorem kp_CH_endOfName : Cond.selects R_CH y_CH_endOfName y_CH_endOfName ∈ lw_g := lw_gm (List.mem_append_left _ (by decide +kernel)) rfl
theorem d_CH_endOfName_0 : decode b_CH_endOfName 0 = .ok (.iload_n 1, 1) := by decide +kernel
theorem d_CH_endOfName_1 : decode b_CH_endOfName 1 = .ok (.istore_n 3, 1) := by decide +kernel
theorem d_CH_endOfName_2 : decode b_CH_endOfName 2 = .ok (.iload_n 3, 1) := by decide +kernel
theorem d_CH_endOfName_3 : decode b_CH_endOfName 3 = .ok (.iload_n 2, 1) := by decide +kernel
theorem d_CH_endOfName_4 : decode b_CH_endOfName 4 = .ok (.if_icmp .ge 22, 3) := by decide +kernel
theorem d_CH_endOfName_7 : decode b_CH_endOfName 7 = .ok (.aload_n 0, 1) := by decide +kernel
theorem d_CH_endOfName_8 : decode b_CH_endOfName 8 = .ok (.getfield 9, 3) := by decide +kernel
theorem d_CH_endOfName_11 : decode b_CH_endOfName 11 = .ok (.iload_n 3, 1) := by decide +kernel
theorem d_CH_endOfName_12 : decode b_CH_endOfName 12 = .ok (.invokevirtual 36, 3) := by decide +kernel
theorem d_CH_endOfName_15 : decode b_CH_endOfName 15 = .ok (.ifCond .ne 5, 3) := by decide +kernel
theorem d_CH_endOfName_18 : decode b_CH_endOfName 18 = .ok (.iload_n 3, 1) := by decide +kernel
theorem d_CH_endOfName_19 : decode b_CH_endOfName 19 = .ok (.ireturn, 1) := by decide +kernel
theorem d_CH_endOfName_20 : decode b_CH_endOfName 20 = .ok (.iinc 3 1, 3) := by decide +kernel
theorem d_CH_endOfName_23 : decode b_CH_endOfName 23 = .ok (.goto (-21), 3) := by decide +kernel
theorem d_CH_endOfName_26 : decode b_CH_endOfName 26 = .ok (.iconst (-1), 1) := by decide +kernel
theorem d_CH_endOfName_27 : decode b_CH_endOfName 27 = .ok (.ireturn, 1) := by decide +kernel
abbrev b_CH_lengthOfCharacter : ByteArray := prog_4_method_10_code
def y_CH_lengthOfCharacter : MethodName := ⟨R_CH, "lengthOfCharacter", "(II)I"⟩
theorem kc_CH_lengthOfCharacter : Cond.code y_CH_lengthOfCharacter b_CH_lengthOfCharacter 8 (some .int) ∈ lw_g := lw_gm (List.mem_append_right _ (List.mem_of_getElem? (i := 397) (by decide +kernel))) rfl
abbrev mw_CH_lengthOfCharacter : List Cond := Cond.code y_CH_lengthOfCharacter b_CH_lengthOfCharacter 8 (some .int) :: lw_g
theorem hd_CH_lengthOfCharacter : y_CH_lengthOfCharacter.cls = R_CH ∧ y_CH_lengthOfCharacter.cls ≠ "java/lang/invoke/MethodHandle" ∧ y_CH_lengthOfCharacter.cls ≠ "java/lang/invoke/VarHandle" ∧ (parseMethodDescriptor y_CH_lengthOfCharacter.desc).map (fun d => d.parameters.length) = some 2 := by decide +kernel
theorem kp_CH_lengthOfCharacter : Cond.selects R_CH y_CH_lengthOfCharacter y_CH_lengthOfCharacter ∈ lw_g := lw_gm (List.mem_append_left _ (by decide +kernel)) rfl
theorem d_CH_lengthOfCharacter_0 : decode b_CH_lengthOfCharacter 0 = .ok (.aload_n 0, 1) := by decide +kernel
theorem d_CH_lengthOfCharacter_1 : decode b_CH_lengthOfCharacter 1 = .ok (.getfield 9, 3) := by decide +kernel
theorem d_CH_lengthOfCharacter_4 : decode b_CH_lengthOfCharacter 4 = .ok (.iload_n 1, 1) := by decide +kernel
theorem d_CH_lengthOfCharacter_5 : decode b_CH_lengthOfCharacter 5 = .ok (.invokevirtual 36, 3) := by decide +kernel
theorem d_CH_lengthOfCharacter_8 : decode b_CH_lengthOfCharacter 8 = .ok (.istore_n 3, 1) := by decide +kernel
theorem d_CH_lengthOfCharacter_9 : decode b_CH_lengthOfCharacter 9 = .ok (.iload_n 3, 1) := by decide +kernel
theorem d_CH_lengthOfCharacter_10 : decode b_CH_lengthOfCharacter 10 = .ok (.sipush 128, 3) := by decide +kernel
theorem d_CH_lengthOfCharacter_13 : decode b_CH_lengthOfCharacter 13 = .ok (.if_icmp .ge 5, 3) := by decide +kernel
theorem d_CH_lengthOfCharacter_16 : decode b_CH_lengthOfCharacter 16 = .ok (.iconst 1, 1) := by decide +kernel
theorem d_CH_lengthOfCharacter_17 : decode b_CH_lengthOfCharacter 17 = .ok (.ireturn, 1) := by decide +kernel
theorem d_CH_lengthOfCharacter_18 : decode b_CH_lengthOfCharacter 18 = .ok (.iload_n 3, 1) := by decide +kernel
theorem d_CH_lengthOfCharacter_19 : decode b_CH_lengthOfCharacter 19 = .ok (.sipush 194, 3) := by decide +kernel
theorem d_CH_lengthOfCharacter_22 : decode b_CH_lengthOfCharacter 22 = .ok (.if_icmp .lt 10, 3) := by decide +kernel
theorem d_CH_lengthOfCharacter_25 : decode b_CH_lengthOfCharacter 25 = .ok (.iload_n 3, 1) := by decide +kernel
theorem d_CH_lengthOfCharacter_26 : decode b_CH_lengthOfCharacter 26 = .ok (.sipush 244, 3) := by decide +kernel
theorem d_CH_lengthOfCharacter_29 : decode b_CH_lengthOfCharacter 29 = .ok (.if_icmp .le 5, 3) := by decide +kernel
theorem d_CH_lengthOfCharacter_32 : decode b_CH_lengthOfCharacter 32 = .ok (.iconst 0, 1) := by decide +kernel
theorem d_CH_lengthOfCharacter_33 : decode b_CH_lengthOfCharacter 33 = .ok (.ireturn, 1) := by decide +kernel
theorem d_CH_lengthOfCharacter_34 : decode b_CH_lengthOfCharacter 34 = .ok (.iload_n 3, 1) := by decide +kernel
theorem d_CH_lengthOfCharacter_35 : decode b_CH_lengthOfCharacter 35 = .ok (.sipush 224, 3) := by decide +kernel
theorem d_CH_lengthOfCharacter_38 : decode b_CH_lengthOfCharacter 38 = .ok (.if_icmp .ge 7, 3) := by decide +kernel
theorem d_CH_lengthOfCharacter_41 : decode b_CH_lengthOfCharacter 41 = .ok (.iconst 2, 1) := by decide +kernel
theorem d_CH_lengthOfCharacter_42 : decode b_CH_lengthOfCharacter 42 = .ok (.goto 15, 3) := by decide +kernel
theorem d_CH_lengthOfCharacter_45 : decode b_CH_lengthOfCharacter 45 = .ok (.iload_n 3, 1) := by decide +kernel
theorem d_CH_lengthOfCharacter_46 : decode b_CH_lengthOfCharacter 46 = .ok (.sipush 240, 3) := by decide +kernel
theorem d_CH_lengthOfCharacter_49 : decode b_CH_lengthOfCharacter 49 = .ok (.if_icmp .ge 7, 3) := by decide +kernel
theorem d_CH_lengthOfCharacter_52 : decode b_CH_lengthOfCharacter 52 = .ok (.iconst 3, 1) := by decide +kernel
theorem d_CH_lengthOfCharacter_53 : decode b_CH_lengthOfCharacter 53 = .ok (.goto 4, 3) := by decide +kernel
theorem d_CH_lengthOfCharacter_56 : decode b_CH_lengthOfCharacter 56 = .ok (.iconst 4, 1) := by decide +kernel
theorem d_CH_lengthOfCharacter_57 : decode b_CH_lengthOfCharacter 57 = .ok (.istore 4, 2) := by decide +kernel
theorem d_CH_lengthOfCharacter_59 : decode b_CH_lengthOfCharacter 59 = .ok (.iload 4, 2) := by decide +kernel
theorem d_CH_lengthOfCharacter_61 : decode b_CH_lengthOfCharacter 61 = .ok (.iload_n 2, 1) := by decide +kernel
theorem d_CH_lengthOfCharacter_62 : decode b_CH_lengthOfCharacter 62 = .ok (.iload_n 1, 1) := by decide +kernel
theorem d_CH_lengthOfCharacter_63 : decode b_CH_lengthOfCharacter 63 = .ok (.isub, 1) := by decide +kernel
theorem d_CH_lengthOfCharacter_64 : decode b_CH_lengthOfCharacter 64 = .ok (.if_icmp .le 5, 3) := by decide +kernel
theorem d_CH_lengthOfCharacter_67 : decode b_CH_lengthOfCharacter 67 = .ok (.iconst 0, 1) := by decide +kernel
theorem d_CH_lengthOfCharacter_68 : decode b_CH_lengthOfCharacter 68 = .ok (.ireturn, 1) := by decide +kernel
theorem d_CH_lengthOfCharacter_69 : decode b_CH_lengthOfCharacter 69 = .ok (.iconst 1, 1) := by decide +kernel
theorem d_CH_lengthOfCharacter_70 : decode b_CH_lengthOfCharacter 70 = .ok (.istore 5, 2) := by decide +kernel
theorem d_CH_lengthOfCharacter_72 : decode b_CH_lengthOfCharacter 72 = .ok (.iload 5, 2) := by decide +kernel
theorem d_CH_lengthOfCharacter_74 : decode b_CH_lengthOfCharacter 74 = .ok (.iload 4, 2) := by decide +kernel
theorem d_CH_lengthOfCharacter_76 : decode b_CH_lengthOfCharacter 76 = .ok (.if_icmp .ge 32, 3) := by decide +kernel
theorem d_CH_lengthOfCharacter_79 : decode b_CH_lengthOfCharacter 79 = .ok (.aload_n 0, 1) := by decide +kernel
theorem d_CH_lengthOfCharacter_80 : decode b_CH_lengthOfCharacter 80 = .ok (.getfield 9, 3) := by decide +kernel
theorem d_CH_lengthOfCharacter_83 : decode b_CH_lengthOfCharacter 83 = .ok (.iload_n 1, 1) := by decide +kernel
theorem d_CH_lengthOfCharacter_84 : decode b_CH_lengthOfCharacter 84 = .ok (.iload 5, 2) := by decide +kernel
theorem d_CH_lengthOfCharacter_86 : decode b_CH_lengthOfCharacter 86 = .ok (.iadd, 1) := by decide +kernel
theorem d_CH_lengthOfCharacter_87 : decode b_CH_lengthOfCharacter 87 = .ok (.invokevirtual 36, 3) := by decide +kernel
theorem d_CH_lengthOfCharacter_90 : decode b_CH_lengthOfCharacter 90 = .ok (.sipush 192, 3) := by decide +kernel
theorem d_CH_lengthOfCharacter_93 : decode b_CH_lengthOfCharacter 93 = .ok (.iand, 1) := by decide +kernel
theorem d_CH_lengthOfCharacter_94 : decode b_CH_lengthOfCharacter 94 = .ok (.sipush 128, 3) := by decide +kernel
theorem d_CH_lengthOfCharacter_97 : decode b_CH_lengthOfCharacter 97 = .ok (.if_icmp .eq 5, 3) := by decide +kernel
theorem d_CH_lengthOfCharacter_100 : decode b_CH_lengthOfCharacter 100 = .ok (.iconst 0, 1) := by decide +kernel
theorem d_CH_lengthOfCharacter_101 : decode b_CH_lengthOfCharacter 101 = .ok (.ireturn, 1) := by decide +kernel
theorem d_CH_lengthOfCharacter_102 : decode b_CH_lengthOfCharacter 102 = .ok (.iinc 5 1, 3) := by decide +kernel
theorem d_CH_lengthOfCharacter_105 : decode b_CH_lengthOfCharacter 105 = .ok (.goto (-33), 3) := by decide +kernel
theorem d_CH_lengthOfCharacter_108 : decode b_CH_lengthOfCharacter 108 = .ok (.aload_n 0, 1) := by decide +kernel
theorem d_CH_lengthOfCharacter_109 : decode b_CH_lengthOfCharacter 109 = .ok (.getfield 9, 3) := by decide +kernel
theorem d_CH_lengthOfCharacter_112 : decode b_CH_lengthOfCharacter 112 = .ok (.iload_n 1, 1) := by decide +kernel
theorem d_CH_lengthOfCharacter_113 : decode b_CH_lengthOfCharacter 113 = .ok (.iconst 1, 1) := by decide +kernel
theorem d_CH_lengthOfCharacter_114 : decode b_CH_lengthOfCharacter 114 = .ok (.iadd, 1) := by decide +kernel
theorem d_CH_lengthOfCharacter_115 : decode b_CH_lengthOfCharacter 115 = .ok (.invokevirtual 36, 3) := by decide +kernel
theorem d_CH_lengthOfCharacter_118 : decode b_CH_lengthOfCharacter 118 = .ok (.istore 5, 2) := by decide +kernel
theorem d_CH_lengthOfCharacter_120 : decode b_CH_lengthOfCharacter 120 = .ok (.iload_n 3, 1) := by decide +kernel
theorem d_CH_lengthOfCharacter_121 : decode b_CH_lengthOfCharacter 121 = .ok (.sipush 224, 3) := by decide +kernel
theorem d_CH_lengthOfCharacter_124 : decode b_CH_lengthOfCharacter 124 = .ok (.if_icmp .ne 11, 3) := by decide +kernel
theorem d_CH_lengthOfCharacter_127 : decode b_CH_lengthOfCharacter 127 = .ok (.iload 5, 2) := by decide +kernel
theorem d_CH_lengthOfCharacter_129 : decode b_CH_lengthOfCharacter 129 = .ok (.sipush 160, 3) := by decide +kernel
theorem d_CH_lengthOfCharacter_132 : decode b_CH_lengthOfCharacter 132 = .ok (.if_icmp .lt 18, 3) := by decide +kernel
theorem d_CH_lengthOfCharacter_135 : decode b_CH_lengthOfCharacter 135 = .ok (.iload_n 3, 1) := by decide +kernel
theorem d_CH_lengthOfCharacter_136 : decode b_CH_lengthOfCharacter 136 = .ok (.sipush 240, 3) := by decide +kernel
theorem d_CH_lengthOfCharacter_139 : decode b_CH_lengthOfCharacter 139 = .ok (.if_icmp .ne 15, 3) := by decide +kernel
theorem d_CH_lengthOfCharacter_142 : decode b_CH_lengthOfCharacter 142 = .ok (.iload 5, 2) := by decide +kernel
theorem d_CH_lengthOfCharacter_144 : decode b_CH_lengthOfCharacter 144 = .ok (.sipush 144, 3) := by decide +kernel
theorem d_CH_lengthOfCharacter_147 : decode b_CH_lengthOfCharacter 147 = .ok (.if_icmp .ge 7, 3) := by decide +kernel
theorem d_CH_lengthOfCharacter_150 : decode b_CH_lengthOfCharacter 150 = .ok (.iconst 1, 1) := by decide +kernel
theorem d_CH_lengthOfCharacter_151 : decode b_CH_lengthOfCharacter 151 = .ok (.goto 4, 3) := by decide +kernel
theorem d_CH_lengthOfCharacter_154 : decode b_CH_lengthOfCharacter 154 = .ok (.iconst 0, 1) := by decide +kernel
theorem d_CH_lengthOfCharacter_155 : decode b_CH_lengthOfCharacter 155 = .ok (.istore 6, 2) := by decide +kernel
theorem d_CH_lengthOfCharacter_157 : decode b_CH_lengthOfCharacter 157 = .ok (.iload_n 3, 1) := by decide +kernel
theorem d_CH_lengthOfCharacter_158 : decode b_CH_lengthOfCharacter 158 = .ok (.sipush 237, 3) := by decide +kernel
theorem d_CH_lengthOfCharacter_161 : decode b_CH_lengthOfCharacter 161 = .ok (.if_icmp .ne 11, 3) := by decide +kernel
theorem d_CH_lengthOfCharacter_164 : decode b_CH_lengthOfCharacter 164 = .ok (.iload 5, 2) := by decide +kernel
theorem d_CH_lengthOfCharacter_166 : decode b_CH_lengthOfCharacter 166 = .ok (.sipush 159, 3) := by decide +kernel
theorem d_CH_lengthOfCharacter_169 : decode b_CH_lengthOfCharacter 169 = .ok (.if_icmp .gt 18, 3) := by decide +kernel
theorem d_CH_lengthOfCharacter_172 : decode b_CH_lengthOfCharacter 172 = .ok (.iload_n 3, 1) := by decide +kernel
theorem d_CH_lengthOfCharacter_173 : decode b_CH_lengthOfCharacter 173 = .ok (.sipush 244, 3) := by decide +kernel
theorem d_CH_lengthOfCharacter_176 : decode b_CH_lengthOfCharacter 176 = .ok (.if_icmp .ne 15, 3) := by decide +kernel
theorem d_CH_lengthOfCharacter_179 : decode b_CH_lengthOfCharacter 179 = .ok (.iload 5, 2) := by decide +kernel
theorem d_CH_lengthOfCharacter_181 : decode b_CH_lengthOfCharacter 181 = .ok (.sipush 143, 3) := by decide +kernel
theorem d_CH_lengthOfCharacter_184 : decode b_CH_lengthOfCharacter 184 = .ok (.if_icmp .le 7, 3) := by decide +kernel
theorem d_CH_lengthOfCharacter_187 : decode b_CH_lengthOfCharacter 187 = .ok (.iconst 1, 1) := by decide +kernel
theorem d_CH_lengthOfCharacter_188 : decode b_CH_lengthOfCharacter 188 = .ok (.goto 4, 3) := by decide +kernel
theorem d_CH_lengthOfCharacter_191 : decode b_CH_lengthOfCharacter 191 = .ok (.iconst 0, 1) := by decide +kernel
theorem d_CH_lengthOfCharacter_192 : decode b_CH_lengthOfCharacter 192 = .ok (.istore 7, 2) := by decide +kernel
theorem d_CH_lengthOfCharacter_194 : decode b_CH_lengthOfCharacter 194 = .ok (.iload 6, 2) := by decide +kernel
theorem d_CH_lengthOfCharacter_196 : decode b_CH_lengthOfCharacter 196 = .ok (.ifCond .ne 8, 3) := by decide +kernel
theorem d_CH_lengthOfCharacter_199 : decode b_CH_lengthOfCharacter 199 = .ok (.iload 7, 2) := by decide +kernel
theorem d_CH_lengthOfCharacter_201 : decode b_CH_lengthOfCharacter 201 = .ok (.ifCond .eq 7, 3) := by decide +kernel
theorem d_CH_lengthOfCharacter_204 : decode b_CH_lengthOfCharacter 204 = .ok (.iconst 0, 1) := by decide +kernel
theorem d_CH_lengthOfCharacter_205 : decode b_CH_lengthOfCharacter 205 = .ok (.goto 5, 3) := by decide +kernel
theorem d_CH_lengthOfCharacter_208 : decode b_CH_lengthOfCharacter 208 = .ok (.iload 4, 2) := by decide +kernel
theorem d_CH_lengthOfCharacter_210 : decode b_CH_lengthOfCharacter 210 = .ok (.ireturn, 1) := by decide +kernel
abbrev b_CH_isUtf8 : ByteArray := prog_4_method_9_code
def y_CH_isUtf8 : MethodName := ⟨R_CH, "isUtf8", "(II)Z"⟩
theorem kc_CH_isUtf8 : Cond.code y_CH_isUtf8 b_CH_isUtf8 6 (some .boolean) ∈ lw_g := lw_gm (List.mem_append_right _ (List.mem_of_getElem? (i := 393) (by decide +kernel))) rfl
abbrev mw_CH_isUtf8 : List Cond := Cond.code y_CH_isUtf8 b_CH_isUtf8 6 (some .boolean) :: lw_g
theorem hd_CH_isUtf8 : y_CH_isUtf8.cls = R_CH ∧ y_CH_isUtf8.cls ≠ "java/lang/invoke/MethodHandle" ∧ y_CH_isUtf8.cls ≠ "java/lang/invoke/VarHandle" ∧ (parseMethodDescriptor y_CH_isUtf8.desc).map (fun d => d.parameters.length) = some 2 := by decide +kernel
theorem kp_CH_isUtf8 : Cond.selects R_CH y_CH_isUtf8 y_CH_isUtf8 ∈ lw_g := lw_gm (List.mem_append_left _ (by decide +kernel)) rfl
theorem d_CH_isUtf8_0 : decode b_CH_isUtf8 0 = .ok (.iload_n 1, 1) := by decide +kernel
theorem d_CH_isUtf8_1 : decode b_CH_isUtf8 1 = .ok (.istore_n 3, 1) := by decide +kernel
theorem d_CH_isUtf8_2 : decode b_CH_isUtf8 2 = .ok (.iload_n 1, 1) := by decide +kernel
theorem d_CH_isUtf8_3 : decode b_CH_isUtf8 3 = .ok (.istore 4, 2) := by decide +kernel
theorem d_CH_isUtf8_5 : decode b_CH_isUtf8 5 = .ok (.iload 4, 2) := by decide +kernel
theorem d_CH_isUtf8_7 : decode b_CH_isUtf8 7 = .ok (.iload_n 2, 1) := by decide +kernel
theorem d_CH_isUtf8_8 : decode b_CH_isUtf8 8 = .ok (.if_icmp .ge 34, 3) := by decide +kernel
theorem d_CH_isUtf8_11 : decode b_CH_isUtf8 11 = .ok (.iload_n 3, 1) := by decide +kernel
theorem d_CH_isUtf8_12 : decode b_CH_isUtf8 12 = .ok (.iload_n 2, 1) := by decide +kernel
theorem d_CH_isUtf8_13 : decode b_CH_isUtf8 13 = .ok (.if_icmp .ge 29, 3) := by decide +kernel
theorem d_CH_isUtf8_16 : decode b_CH_isUtf8 16 = .ok (.aload_n 0, 1) := by decide +kernel
theorem d_CH_isUtf8_17 : decode b_CH_isUtf8 17 = .ok (.iload_n 3, 1) := by decide +kernel
theorem d_CH_isUtf8_18 : decode b_CH_isUtf8 18 = .ok (.iload_n 2, 1) := by decide +kernel
theorem d_CH_isUtf8_19 : decode b_CH_isUtf8 19 = .ok (.invokevirtual 66, 3) := by decide +kernel
theorem d_CH_isUtf8_22 : decode b_CH_isUtf8 22 = .ok (.istore 5, 2) := by decide +kernel
theorem d_CH_isUtf8_24 : decode b_CH_isUtf8 24 = .ok (.iload 5, 2) := by decide +kernel
theorem d_CH_isUtf8_26 : decode b_CH_isUtf8 26 = .ok (.ifCond .ne 5, 3) := by decide +kernel
theorem d_CH_isUtf8_29 : decode b_CH_isUtf8 29 = .ok (.iconst 0, 1) := by decide +kernel
theorem d_CH_isUtf8_30 : decode b_CH_isUtf8 30 = .ok (.ireturn, 1) := by decide +kernel
theorem d_CH_isUtf8_31 : decode b_CH_isUtf8 31 = .ok (.iload_n 3, 1) := by decide +kernel
theorem d_CH_isUtf8_32 : decode b_CH_isUtf8 32 = .ok (.iload 5, 2) := by decide +kernel
theorem d_CH_isUtf8_34 : decode b_CH_isUtf8 34 = .ok (.iadd, 1) := by decide +kernel
theorem d_CH_isUtf8_35 : decode b_CH_isUtf8 35 = .ok (.istore_n 3, 1) := by decide +kernel
theorem d_CH_isUtf8_36 : decode b_CH_isUtf8 36 = .ok (.iinc 4 1, 3) := by decide +kernel
theorem d_CH_isUtf8_39 : decode b_CH_isUtf8 39 = .ok (.goto (-34), 3) := by decide +kernel
theorem d_CH_isUtf8_42 : decode b_CH_isUtf8 42 = .ok (.iload_n 3, 1) := by decide +kernel
theorem d_CH_isUtf8_43 : decode b_CH_isUtf8 43 = .ok (.iload_n 2, 1) := by decide +kernel
theorem d_CH_isUtf8_44 : decode b_CH_isUtf8 44 = .ok (.if_icmp .ne 7, 3) := by decide +kernel
theorem d_CH_isUtf8_47 : decode b_CH_isUtf8 47 = .ok (.iconst 1, 1) := by decide +kernel
theorem d_CH_isUtf8_48 : decode b_CH_isUtf8 48 = .ok (.goto 4, 3) := by decide +kernel
theorem d_CH_isUtf8_51 : decode b_CH_isUtf8 51 = .ok (.iconst 0, 1) := by decide +kernel
theorem d_CH_isUtf8_52 : decode b_CH_isUtf8 52 = .ok (.ireturn, 1) := by decide +kernel
abbrev b_CH_isNewName : ByteArray := prog_4_method_5_code
def y_CH_isNewName : MethodName := ⟨R_CH, "isNewName", "(III)Z"⟩
theorem kc_CH_isNewName : Cond.code y_CH_isNewName b_CH_isNewName 7 (some .boolean) ∈ lw_g := lw_gm (List.mem_append_right _ (List.mem_of_getElem? (i := 389) (by decide +kernel))) rfl
abbrev mw_CH_isNewName : List Cond := Cond.code y_CH_isNewName b_CH_isNewName 7 (some .boolean) :: lw_g
theorem hd_CH_isNewName : y_CH_isNewName.cls = R_CH ∧ y_CH_isNewName.cls ≠ "java/lang/invoke/MethodHandle" ∧ y_CH_isNewName.cls ≠ "java/lang/invoke/VarHandle" ∧ (parseMethodDescriptor y_CH_isNewName.desc).map (fun d => d.parameters.length) = some 3 := by decide +kernel
theorem kp_CH_isNewName : Cond.selects R_CH y_CH_isNewName y_CH_isNewName ∈ lw_g := lw_gm (List.mem_append_left _ (by decide +kernel)) rfl
theorem d_CH_isNewName_0 : decode b_CH_isNewName 0 = .ok (.aload_n 0, 1) := by decide +kernel
theorem d_CH_isNewName_1 : decode b_CH_isNewName 1 = .ok (.iload_n 2, 1) := by decide +kernel
theorem d_CH_isNewName_2 : decode b_CH_isNewName 2 = .ok (.iconst 1, 1) := by decide +kernel
theorem d_CH_isNewName_3 : decode b_CH_isNewName 3 = .ok (.iadd, 1) := by decide +kernel
theorem d_CH_isNewName_4 : decode b_CH_isNewName 4 = .ok (.iload_n 3, 1) := by decide +kernel
theorem d_CH_isNewName_5 : decode b_CH_isNewName 5 = .ok (.invokevirtual 43, 3) := by decide +kernel
theorem d_CH_isNewName_8 : decode b_CH_isNewName 8 = .ok (.ifCond .ne 5, 3) := by decide +kernel
theorem d_CH_isNewName_11 : decode b_CH_isNewName 11 = .ok (.iconst 0, 1) := by decide +kernel
theorem d_CH_isNewName_12 : decode b_CH_isNewName 12 = .ok (.ireturn, 1) := by decide +kernel
theorem d_CH_isNewName_13 : decode b_CH_isNewName 13 = .ok (.iload_n 1, 1) := by decide +kernel
theorem d_CH_isNewName_14 : decode b_CH_isNewName 14 = .ok (.istore 4, 2) := by decide +kernel
theorem d_CH_isNewName_16 : decode b_CH_isNewName 16 = .ok (.iconst 0, 1) := by decide +kernel
theorem d_CH_isNewName_17 : decode b_CH_isNewName 17 = .ok (.istore 5, 2) := by decide +kernel
theorem d_CH_isNewName_19 : decode b_CH_isNewName 19 = .ok (.iload 5, 2) := by decide +kernel
theorem d_CH_isNewName_21 : decode b_CH_isNewName 21 = .ok (.sipush 1000, 3) := by decide +kernel
theorem d_CH_isNewName_24 : decode b_CH_isNewName 24 = .ok (.if_icmp .ge 64, 3) := by decide +kernel
theorem d_CH_isNewName_27 : decode b_CH_isNewName 27 = .ok (.iload 4, 2) := by decide +kernel
theorem d_CH_isNewName_29 : decode b_CH_isNewName 29 = .ok (.iload_n 2, 1) := by decide +kernel
theorem d_CH_isNewName_30 : decode b_CH_isNewName 30 = .ok (.if_icmp .ge 58, 3) := by decide +kernel
theorem d_CH_isNewName_33 : decode b_CH_isNewName 33 = .ok (.aload_n 0, 1) := by decide +kernel
theorem d_CH_isNewName_34 : decode b_CH_isNewName 34 = .ok (.getfield 9, 3) := by decide +kernel
theorem d_CH_isNewName_37 : decode b_CH_isNewName 37 = .ok (.iload 4, 2) := by decide +kernel
theorem d_CH_isNewName_39 : decode b_CH_isNewName 39 = .ok (.invokevirtual 47, 3) := by decide +kernel
theorem d_CH_isNewName_42 : decode b_CH_isNewName 42 = .ok (.istore 6, 2) := by decide +kernel
theorem d_CH_isNewName_44 : decode b_CH_isNewName 44 = .ok (.aload_n 0, 1) := by decide +kernel
theorem d_CH_isNewName_45 : decode b_CH_isNewName 45 = .ok (.getfield 9, 3) := by decide +kernel
theorem d_CH_isNewName_48 : decode b_CH_isNewName 48 = .ok (.iload 4, 2) := by decide +kernel
theorem d_CH_isNewName_50 : decode b_CH_isNewName 50 = .ok (.iconst 1, 1) := by decide +kernel
theorem d_CH_isNewName_51 : decode b_CH_isNewName 51 = .ok (.iadd, 1) := by decide +kernel
theorem d_CH_isNewName_52 : decode b_CH_isNewName 52 = .ok (.iload 6, 2) := by decide +kernel
theorem d_CH_isNewName_54 : decode b_CH_isNewName 54 = .ok (.invokestatic 50, 3) := by decide +kernel
theorem d_CH_isNewName_57 : decode b_CH_isNewName 57 = .ok (.iconst 1, 1) := by decide +kernel
theorem d_CH_isNewName_58 : decode b_CH_isNewName 58 = .ok (.isub, 1) := by decide +kernel
theorem d_CH_isNewName_59 : decode b_CH_isNewName 59 = .ok (.iload_n 2, 1) := by decide +kernel
theorem d_CH_isNewName_60 : decode b_CH_isNewName 60 = .ok (.iconst 1, 1) := by decide +kernel
theorem d_CH_isNewName_61 : decode b_CH_isNewName 61 = .ok (.iadd, 1) := by decide +kernel
theorem d_CH_isNewName_62 : decode b_CH_isNewName 62 = .ok (.iload_n 3, 1) := by decide +kernel
theorem d_CH_isNewName_63 : decode b_CH_isNewName 63 = .ok (.invokevirtual 53, 3) := by decide +kernel
theorem d_CH_isNewName_66 : decode b_CH_isNewName 66 = .ok (.ifCond .ne 5, 3) := by decide +kernel
theorem d_CH_isNewName_69 : decode b_CH_isNewName 69 = .ok (.iconst 0, 1) := by decide +kernel
theorem d_CH_isNewName_70 : decode b_CH_isNewName 70 = .ok (.ireturn, 1) := by decide +kernel
theorem d_CH_isNewName_71 : decode b_CH_isNewName 71 = .ok (.aload_n 0, 1) := by decide +kernel
theorem d_CH_isNewName_72 : decode b_CH_isNewName 72 = .ok (.getfield 9, 3) := by decide +kernel
theorem d_CH_isNewName_75 : decode b_CH_isNewName 75 = .ok (.iload 6, 2) := by decide +kernel
theorem d_CH_isNewName_77 : decode b_CH_isNewName 77 = .ok (.invokevirtual 56, 3) := by decide +kernel
theorem d_CH_isNewName_80 : decode b_CH_isNewName 80 = .ok (.istore 4, 2) := by decide +kernel
theorem d_CH_isNewName_82 : decode b_CH_isNewName 82 = .ok (.iinc 5 1, 3) := by decide +kernel
theorem d_CH_isNewName_85 : decode b_CH_isNewName 85 = .ok (.goto (-66), 3) := by decide +kernel
theorem d_CH_isNewName_88 : decode b_CH_isNewName 88 = .ok (.iconst 1, 1) := by decide +kernel
theorem d_CH_isNewName_89 : decode b_CH_isNewName 89 = .ok (.ireturn, 1) := by decide +kernel
abbrev b_CH_endOfText : ByteArray := prog_4_method_7_code
def y_CH_endOfText : MethodName := ⟨R_CH, "endOfText", "(II)I"⟩
theorem kc_CH_endOfText : Cond.code y_CH_endOfText b_CH_endOfText 6 (some .int) ∈ lw_g := lw_gm (List.mem_append_right _ (List.mem_of_getElem? (i := 426) (by decide +kernel))) rfl
abbrev mw_CH_endOfText : List Cond := Cond.code y_CH_endOfText b_CH_endOfText 6 (some .int) :: lw_g
theorem hd_CH_endOfText : y_CH_endOfText.cls = R_CH ∧ y_CH_endOfText.cls ≠ "java/lang/invoke/MethodHandle" ∧ y_CH_endOfText.cls ≠ "java/lang/invoke/VarHandle" ∧ (parseMethodDescriptor y_CH_endOfText.desc).map (fun d => d.parameters.length) = some 2 := by decide +kernel
theorem kp_CH_endOfText : Cond.selects R_CH y_CH_endOfText y_CH_endOfText ∈ lw_g := lw_gm (List.mem_append_left _ (by decide +kernel)) rfl
theorem d_CH_endOfText_0 : decode b_CH_endOfText 0 = .ok (.iload_n 1, 1) := by decide +kernel
theorem d_CH_endOfText_1 : decode b_CH_endOfText 1 = .ok (.iconst 4, 1) := by decide +kernel
theorem d_CH_endOfText_2 : decode b_CH_endOfText 2 = .ok (.iadd, 1) := by decide +kernel
theorem d_CH_endOfText_3 : decode b_CH_endOfText 3 = .ok (.istore_n 3, 1) := by decide +kernel
theorem d_CH_endOfText_4 : decode b_CH_endOfText 4 = .ok (.iload_n 2, 1) := by decide +kernel
theorem d_CH_endOfText_5 : decode b_CH_endOfText 5 = .ok (.iload_n 3, 1) := by decide +kernel
theorem d_CH_endOfText_6 : decode b_CH_endOfText 6 = .ok (.if_icmp .ge 5, 3) := by decide +kernel
theorem d_CH_endOfText_9 : decode b_CH_endOfText 9 = .ok (.iconst (-1), 1) := by decide +kernel
theorem d_CH_endOfText_10 : decode b_CH_endOfText 10 = .ok (.ireturn, 1) := by decide +kernel
theorem d_CH_endOfText_11 : decode b_CH_endOfText 11 = .ok (.aload_n 0, 1) := by decide +kernel
theorem d_CH_endOfText_12 : decode b_CH_endOfText 12 = .ok (.getfield 9, 3) := by decide +kernel
theorem d_CH_endOfText_15 : decode b_CH_endOfText 15 = .ok (.iload_n 1, 1) := by decide +kernel
theorem d_CH_endOfText_16 : decode b_CH_endOfText 16 = .ok (.invokevirtual 19, 3) := by decide +kernel
theorem d_CH_endOfText_19 : decode b_CH_endOfText 19 = .ok (.istore 4, 2) := by decide +kernel
theorem d_CH_endOfText_21 : decode b_CH_endOfText 21 = .ok (.iload 4, 2) := by decide +kernel
theorem d_CH_endOfText_23 : decode b_CH_endOfText 23 = .ok (.iconst 1, 1) := by decide +kernel
theorem d_CH_endOfText_24 : decode b_CH_endOfText 24 = .ok (.if_icmp .lt 11, 3) := by decide +kernel
theorem d_CH_endOfText_27 : decode b_CH_endOfText 27 = .ok (.iload 4, 2) := by decide +kernel
theorem d_CH_endOfText_29 : decode b_CH_endOfText 29 = .ok (.iload_n 2, 1) := by decide +kernel
theorem d_CH_endOfText_30 : decode b_CH_endOfText 30 = .ok (.iload_n 3, 1) := by decide +kernel
theorem d_CH_endOfText_31 : decode b_CH_endOfText 31 = .ok (.isub, 1) := by decide +kernel
theorem d_CH_endOfText_32 : decode b_CH_endOfText 32 = .ok (.if_icmp .le 5, 3) := by decide +kernel
theorem d_CH_endOfText_35 : decode b_CH_endOfText 35 = .ok (.iconst (-1), 1) := by decide +kernel
theorem d_CH_endOfText_36 : decode b_CH_endOfText 36 = .ok (.ireturn, 1) := by decide +kernel
theorem d_CH_endOfText_37 : decode b_CH_endOfText 37 = .ok (.iload_n 3, 1) := by decide +kernel
theorem d_CH_endOfText_38 : decode b_CH_endOfText 38 = .ok (.iload 4, 2) := by decide +kernel
theorem d_CH_endOfText_40 : decode b_CH_endOfText 40 = .ok (.iadd, 1) := by decide +kernel
theorem d_CH_endOfText_41 : decode b_CH_endOfText 41 = .ok (.istore 5, 2) := by decide +kernel
theorem d_CH_endOfText_43 : decode b_CH_endOfText 43 = .ok (.aload_n 0, 1) := by decide +kernel
theorem d_CH_endOfText_44 : decode b_CH_endOfText 44 = .ok (.getfield 9, 3) := by decide +kernel
theorem d_CH_endOfText_47 : decode b_CH_endOfText 47 = .ok (.iload 5, 2) := by decide +kernel
theorem d_CH_endOfText_49 : decode b_CH_endOfText 49 = .ok (.iconst 1, 1) := by decide +kernel
theorem d_CH_endOfText_50 : decode b_CH_endOfText 50 = .ok (.isub, 1) := by decide +kernel
theorem d_CH_endOfText_51 : decode b_CH_endOfText 51 = .ok (.invokevirtual 36, 3) := by decide +kernel
theorem d_CH_endOfText_54 : decode b_CH_endOfText 54 = .ok (.ifCond .ne 20, 3) := by decide +kernel
theorem d_CH_endOfText_57 : decode b_CH_endOfText 57 = .ok (.aload_n 0, 1) := by decide +kernel
theorem d_CH_endOfText_58 : decode b_CH_endOfText 58 = .ok (.iload_n 3, 1) := by decide +kernel
theorem d_CH_endOfText_59 : decode b_CH_endOfText 59 = .ok (.iload 5, 2) := by decide +kernel
theorem d_CH_endOfText_61 : decode b_CH_endOfText 61 = .ok (.iconst 1, 1) := by decide +kernel
theorem d_CH_endOfText_62 : decode b_CH_endOfText 62 = .ok (.isub, 1) := by decide +kernel
theorem d_CH_endOfText_63 : decode b_CH_endOfText 63 = .ok (.invokevirtual 43, 3) := by decide +kernel
theorem d_CH_endOfText_66 : decode b_CH_endOfText 66 = .ok (.ifCond .eq 8, 3) := by decide +kernel
theorem d_CH_endOfText_69 : decode b_CH_endOfText 69 = .ok (.iload 5, 2) := by decide +kernel
theorem d_CH_endOfText_71 : decode b_CH_endOfText 71 = .ok (.goto 4, 3) := by decide +kernel
theorem d_CH_endOfText_74 : decode b_CH_endOfText 74 = .ok (.iconst (-1), 1) := by decide +kernel
theorem d_CH_endOfText_75 : decode b_CH_endOfText 75 = .ok (.ireturn, 1) := by decide +kernel
abbrev b_CH_endOfNest : ByteArray := prog_4_method_8_code
def y_CH_endOfNest : MethodName := ⟨R_CH, "endOfNest", "(ZIII)I"⟩
theorem kc_CH_endOfNest : Cond.code y_CH_endOfNest b_CH_endOfNest 6 (some .int) ∈ lw_g := lw_gm (List.mem_append_right _ (List.mem_of_getElem? (i := 430) (by decide +kernel))) rfl
abbrev mw_CH_endOfNest : List Cond := Cond.code y_CH_endOfNest b_CH_endOfNest 6 (some .int) :: lw_g
theorem hd_CH_endOfNest : y_CH_endOfNest.cls = R_CH ∧ y_CH_endOfNest.cls ≠ "java/lang/invoke/MethodHandle" ∧ y_CH_endOfNest.cls ≠ "java/lang/invoke/VarHandle" ∧ (parseMethodDescriptor y_CH_endOfNest.desc).map (fun d => d.parameters.length) = some 4 := by decide +kernel
theorem kp_CH_endOfNest : Cond.selects R_CH y_CH_endOfNest y_CH_endOfNest ∈ lw_g := lw_gm (List.mem_append_left _ (by decide +kernel)) rfl
theorem d_CH_endOfNest_0 : decode b_CH_endOfNest 0 = .ok (.iload_n 3, 1) := by decide +kernel
theorem d_CH_endOfNest_1 : decode b_CH_endOfNest 1 = .ok (.iload_n 2, 1) := by decide +kernel
theorem d_CH_endOfNest_2 : decode b_CH_endOfNest 2 = .ok (.isub, 1) := by decide +kernel
theorem d_CH_endOfNest_3 : decode b_CH_endOfNest 3 = .ok (.iconst 5, 1) := by decide +kernel
theorem d_CH_endOfNest_4 : decode b_CH_endOfNest 4 = .ok (.if_icmp .ge 5, 3) := by decide +kernel
theorem d_CH_endOfNest_7 : decode b_CH_endOfNest 7 = .ok (.iconst (-1), 1) := by decide +kernel
theorem d_CH_endOfNest_8 : decode b_CH_endOfNest 8 = .ok (.ireturn, 1) := by decide +kernel
theorem d_CH_endOfNest_9 : decode b_CH_endOfNest 9 = .ok (.aload_n 0, 1) := by decide +kernel
theorem d_CH_endOfNest_10 : decode b_CH_endOfNest 10 = .ok (.getfield 9, 3) := by decide +kernel
theorem d_CH_endOfNest_13 : decode b_CH_endOfNest 13 = .ok (.iload_n 2, 1) := by decide +kernel
theorem d_CH_endOfNest_14 : decode b_CH_endOfNest 14 = .ok (.invokevirtual 19, 3) := by decide +kernel
theorem d_CH_endOfNest_17 : decode b_CH_endOfNest 17 = .ok (.istore 5, 2) := by decide +kernel
theorem d_CH_endOfNest_19 : decode b_CH_endOfNest 19 = .ok (.iload 5, 2) := by decide +kernel
theorem d_CH_endOfNest_21 : decode b_CH_endOfNest 21 = .ok (.iconst 5, 1) := by decide +kernel
theorem d_CH_endOfNest_22 : decode b_CH_endOfNest 22 = .ok (.if_icmp .lt 11, 3) := by decide +kernel
theorem d_CH_endOfNest_25 : decode b_CH_endOfNest 25 = .ok (.iload 5, 2) := by decide +kernel
theorem d_CH_endOfNest_27 : decode b_CH_endOfNest 27 = .ok (.iload_n 3, 1) := by decide +kernel
theorem d_CH_endOfNest_28 : decode b_CH_endOfNest 28 = .ok (.iload_n 2, 1) := by decide +kernel
theorem d_CH_endOfNest_29 : decode b_CH_endOfNest 29 = .ok (.isub, 1) := by decide +kernel
theorem d_CH_endOfNest_30 : decode b_CH_endOfNest 30 = .ok (.if_icmp .le 5, 3) := by decide +kernel
theorem d_CH_endOfNest_33 : decode b_CH_endOfNest 33 = .ok (.iconst (-1), 1) := by decide +kernel
theorem d_CH_endOfNest_34 : decode b_CH_endOfNest 34 = .ok (.ireturn, 1) := by decide +kernel
theorem d_CH_endOfNest_35 : decode b_CH_endOfNest 35 = .ok (.aload_n 0, 1) := by decide +kernel
theorem d_CH_endOfNest_36 : decode b_CH_endOfNest 36 = .ok (.iload_n 2, 1) := by decide +kernel
theorem d_CH_endOfNest_37 : decode b_CH_endOfNest 37 = .ok (.iload_n 2, 1) := by decide +kernel
theorem d_CH_endOfNest_38 : decode b_CH_endOfNest 38 = .ok (.iload 5, 2) := by decide +kernel
theorem d_CH_endOfNest_40 : decode b_CH_endOfNest 40 = .ok (.iadd, 1) := by decide +kernel
theorem d_CH_endOfNest_41 : decode b_CH_endOfNest 41 = .ok (.iload_n 1, 1) := by decide +kernel
theorem d_CH_endOfNest_42 : decode b_CH_endOfNest 42 = .ok (.iload 4, 2) := by decide +kernel
theorem d_CH_endOfNest_44 : decode b_CH_endOfNest 44 = .ok (.iconst 1, 1) := by decide +kernel
theorem d_CH_endOfNest_45 : decode b_CH_endOfNest 45 = .ok (.iadd, 1) := by decide +kernel
theorem d_CH_endOfNest_46 : decode b_CH_endOfNest 46 = .ok (.invokevirtual 15, 3) := by decide +kernel
theorem d_CH_endOfNest_49 : decode b_CH_endOfNest 49 = .ok (.ifCond .eq 10, 3) := by decide +kernel
theorem d_CH_endOfNest_52 : decode b_CH_endOfNest 52 = .ok (.iload_n 2, 1) := by decide +kernel
theorem d_CH_endOfNest_53 : decode b_CH_endOfNest 53 = .ok (.iload 5, 2) := by decide +kernel
theorem d_CH_endOfNest_55 : decode b_CH_endOfNest 55 = .ok (.iadd, 1) := by decide +kernel
theorem d_CH_endOfNest_56 : decode b_CH_endOfNest 56 = .ok (.goto 4, 3) := by decide +kernel
theorem d_CH_endOfNest_59 : decode b_CH_endOfNest 59 = .ok (.iconst (-1), 1) := by decide +kernel
theorem d_CH_endOfNest_60 : decode b_CH_endOfNest 60 = .ok (.ireturn, 1) := by decide +kernel
abbrev b_CH_endOfValue : ByteArray := prog_4_method_6_code
def y_CH_endOfValue : MethodName := ⟨R_CH, "endOfValue", "(IIII)I"⟩
theorem kc_CH_endOfValue : Cond.code y_CH_endOfValue b_CH_endOfValue 5 (some .int) ∈ lw_g := lw_gm (List.mem_append_right _ (List.mem_of_getElem? (i := 422) (by decide +kernel))) rfl
abbrev mw_CH_endOfValue : List Cond := Cond.code y_CH_endOfValue b_CH_endOfValue 5 (some .int) :: lw_g
theorem hd_CH_endOfValue : y_CH_endOfValue.cls = R_CH ∧ y_CH_endOfValue.cls ≠ "java/lang/invoke/MethodHandle" ∧ y_CH_endOfValue.cls ≠ "java/lang/invoke/VarHandle" ∧ (parseMethodDescriptor y_CH_endOfValue.desc).map (fun d => d.parameters.length) = some 4 := by decide +kernel
theorem kp_CH_endOfValue : Cond.selects R_CH y_CH_endOfValue y_CH_endOfValue ∈ lw_g := lw_gm (List.mem_append_left _ (by decide +kernel)) rfl
theorem d_CH_endOfValue_0 : decode b_CH_endOfValue 0 = .ok (.iload_n 1, 1) := by decide +kernel
theorem d_CH_endOfValue_1 : decode b_CH_endOfValue 1 = .ok (.tableswitch 171 2 18 #[144, 151, 161, 171, 171, 171, 115, 171, 142, 171, 171, 171, 171, 171, 83, 171, 98], 83) := by decide +kernel
theorem d_CH_endOfValue_84 : decode b_CH_endOfValue 84 = .ok (.iload_n 3, 1) := by decide +kernel
theorem d_CH_endOfValue_85 : decode b_CH_endOfValue 85 = .ok (.iload_n 2, 1) := by decide +kernel
theorem d_CH_endOfValue_86 : decode b_CH_endOfValue 86 = .ok (.isub, 1) := by decide +kernel
theorem d_CH_endOfValue_87 : decode b_CH_endOfValue 87 = .ok (.iconst 4, 1) := by decide +kernel
theorem d_CH_endOfValue_88 : decode b_CH_endOfValue 88 = .ok (.if_icmp .lt 9, 3) := by decide +kernel
theorem d_CH_endOfValue_91 : decode b_CH_endOfValue 91 = .ok (.iload_n 2, 1) := by decide +kernel
theorem d_CH_endOfValue_92 : decode b_CH_endOfValue 92 = .ok (.iconst 4, 1) := by decide +kernel
theorem d_CH_endOfValue_93 : decode b_CH_endOfValue 93 = .ok (.iadd, 1) := by decide +kernel
theorem d_CH_endOfValue_94 : decode b_CH_endOfValue 94 = .ok (.goto 4, 3) := by decide +kernel
theorem d_CH_endOfValue_97 : decode b_CH_endOfValue 97 = .ok (.iconst (-1), 1) := by decide +kernel
theorem d_CH_endOfValue_98 : decode b_CH_endOfValue 98 = .ok (.ireturn, 1) := by decide +kernel
theorem d_CH_endOfValue_99 : decode b_CH_endOfValue 99 = .ok (.iload_n 3, 1) := by decide +kernel
theorem d_CH_endOfValue_100 : decode b_CH_endOfValue 100 = .ok (.iload_n 2, 1) := by decide +kernel
theorem d_CH_endOfValue_101 : decode b_CH_endOfValue 101 = .ok (.isub, 1) := by decide +kernel
theorem d_CH_endOfValue_102 : decode b_CH_endOfValue 102 = .ok (.bipush 8, 2) := by decide +kernel
theorem d_CH_endOfValue_104 : decode b_CH_endOfValue 104 = .ok (.if_icmp .lt 10, 3) := by decide +kernel
theorem d_CH_endOfValue_107 : decode b_CH_endOfValue 107 = .ok (.iload_n 2, 1) := by decide +kernel
theorem d_CH_endOfValue_108 : decode b_CH_endOfValue 108 = .ok (.bipush 8, 2) := by decide +kernel
theorem d_CH_endOfValue_110 : decode b_CH_endOfValue 110 = .ok (.iadd, 1) := by decide +kernel
theorem d_CH_endOfValue_111 : decode b_CH_endOfValue 111 = .ok (.goto 4, 3) := by decide +kernel
theorem d_CH_endOfValue_114 : decode b_CH_endOfValue 114 = .ok (.iconst (-1), 1) := by decide +kernel
theorem d_CH_endOfValue_115 : decode b_CH_endOfValue 115 = .ok (.ireturn, 1) := by decide +kernel
theorem d_CH_endOfValue_116 : decode b_CH_endOfValue 116 = .ok (.iload_n 3, 1) := by decide +kernel
theorem d_CH_endOfValue_117 : decode b_CH_endOfValue 117 = .ok (.iload_n 2, 1) := by decide +kernel
theorem d_CH_endOfValue_118 : decode b_CH_endOfValue 118 = .ok (.isub, 1) := by decide +kernel
theorem d_CH_endOfValue_119 : decode b_CH_endOfValue 119 = .ok (.iconst 1, 1) := by decide +kernel
theorem d_CH_endOfValue_120 : decode b_CH_endOfValue 120 = .ok (.if_icmp .lt 21, 3) := by decide +kernel
theorem d_CH_endOfValue_123 : decode b_CH_endOfValue 123 = .ok (.aload_n 0, 1) := by decide +kernel
theorem d_CH_endOfValue_124 : decode b_CH_endOfValue 124 = .ok (.getfield 9, 3) := by decide +kernel
theorem d_CH_endOfValue_127 : decode b_CH_endOfValue 127 = .ok (.iload_n 2, 1) := by decide +kernel
theorem d_CH_endOfValue_128 : decode b_CH_endOfValue 128 = .ok (.invokevirtual 36, 3) := by decide +kernel
theorem d_CH_endOfValue_131 : decode b_CH_endOfValue 131 = .ok (.iconst 1, 1) := by decide +kernel
theorem d_CH_endOfValue_132 : decode b_CH_endOfValue 132 = .ok (.if_icmp .gt 9, 3) := by decide +kernel
theorem d_CH_endOfValue_135 : decode b_CH_endOfValue 135 = .ok (.iload_n 2, 1) := by decide +kernel
theorem d_CH_endOfValue_136 : decode b_CH_endOfValue 136 = .ok (.iconst 1, 1) := by decide +kernel
theorem d_CH_endOfValue_137 : decode b_CH_endOfValue 137 = .ok (.iadd, 1) := by decide +kernel
theorem d_CH_endOfValue_138 : decode b_CH_endOfValue 138 = .ok (.goto 4, 3) := by decide +kernel
theorem d_CH_endOfValue_141 : decode b_CH_endOfValue 141 = .ok (.iconst (-1), 1) := by decide +kernel
theorem d_CH_endOfValue_142 : decode b_CH_endOfValue 142 = .ok (.ireturn, 1) := by decide +kernel
theorem d_CH_endOfValue_143 : decode b_CH_endOfValue 143 = .ok (.iload_n 2, 1) := by decide +kernel
theorem d_CH_endOfValue_144 : decode b_CH_endOfValue 144 = .ok (.ireturn, 1) := by decide +kernel
theorem d_CH_endOfValue_145 : decode b_CH_endOfValue 145 = .ok (.aload_n 0, 1) := by decide +kernel
theorem d_CH_endOfValue_146 : decode b_CH_endOfValue 146 = .ok (.iload_n 2, 1) := by decide +kernel
theorem d_CH_endOfValue_147 : decode b_CH_endOfValue 147 = .ok (.iload_n 3, 1) := by decide +kernel
theorem d_CH_endOfValue_148 : decode b_CH_endOfValue 148 = .ok (.invokevirtual 59, 3) := by decide +kernel
theorem d_CH_endOfValue_151 : decode b_CH_endOfValue 151 = .ok (.ireturn, 1) := by decide +kernel
theorem d_CH_endOfValue_152 : decode b_CH_endOfValue 152 = .ok (.aload_n 0, 1) := by decide +kernel
theorem d_CH_endOfValue_153 : decode b_CH_endOfValue 153 = .ok (.iconst 0, 1) := by decide +kernel
theorem d_CH_endOfValue_154 : decode b_CH_endOfValue 154 = .ok (.iload_n 2, 1) := by decide +kernel
theorem d_CH_endOfValue_155 : decode b_CH_endOfValue 155 = .ok (.iload_n 3, 1) := by decide +kernel
theorem d_CH_endOfValue_156 : decode b_CH_endOfValue 156 = .ok (.iload 4, 2) := by decide +kernel
theorem d_CH_endOfValue_158 : decode b_CH_endOfValue 158 = .ok (.invokevirtual 62, 3) := by decide +kernel
theorem d_CH_endOfValue_161 : decode b_CH_endOfValue 161 = .ok (.ireturn, 1) := by decide +kernel
theorem d_CH_endOfValue_162 : decode b_CH_endOfValue 162 = .ok (.aload_n 0, 1) := by decide +kernel
theorem d_CH_endOfValue_163 : decode b_CH_endOfValue 163 = .ok (.iconst 1, 1) := by decide +kernel
theorem d_CH_endOfValue_164 : decode b_CH_endOfValue 164 = .ok (.iload_n 2, 1) := by decide +kernel
theorem d_CH_endOfValue_165 : decode b_CH_endOfValue 165 = .ok (.iload_n 3, 1) := by decide +kernel
theorem d_CH_endOfValue_166 : decode b_CH_endOfValue 166 = .ok (.iload 4, 2) := by decide +kernel
theorem d_CH_endOfValue_168 : decode b_CH_endOfValue 168 = .ok (.invokevirtual 62, 3) := by decide +kernel
theorem d_CH_endOfValue_171 : decode b_CH_endOfValue 171 = .ok (.ireturn, 1) := by decide +kernel
theorem d_CH_endOfValue_172 : decode b_CH_endOfValue 172 = .ok (.iconst (-1), 1) := by decide +kernel
theorem d_CH_endOfValue_173 : decode b_CH_endOfValue 173 = .ok (.ireturn, 1) := by decide +kernel
abbrev b_CH_isNest : ByteArray := prog_4_method_3_code
def y_CH_isNest : MethodName := ⟨R_CH, "isNest", "(IIZI)Z"⟩
theorem kc_CH_isNest : Cond.code y_CH_isNest b_CH_isNest 9 (some .boolean) ∈ lw_g := lw_gm (List.mem_append_right _ (List.mem_of_getElem? (i := 368) (by decide +kernel))) rfl
abbrev mw_CH_isNest : List Cond := Cond.code y_CH_isNest b_CH_isNest 9 (some .boolean) :: lw_g
theorem hd_CH_isNest : y_CH_isNest.cls = R_CH ∧ y_CH_isNest.cls ≠ "java/lang/invoke/MethodHandle" ∧ y_CH_isNest.cls ≠ "java/lang/invoke/VarHandle" ∧ (parseMethodDescriptor y_CH_isNest.desc).map (fun d => d.parameters.length) = some 4 := by decide +kernel
theorem kp_CH_isNest : Cond.selects R_CH y_CH_isNest y_CH_isNest ∈ lw_g := lw_gm (List.mem_append_left _ (by decide +kernel)) rfl
theorem d_CH_isNest_0 : decode b_CH_isNest 0 = .ok (.iload 4, 2) := by decide +kernel
theorem d_CH_isNest_2 : decode b_CH_isNest 2 = .ok (.bipush 16, 2) := by decide +kernel
theorem d_CH_isNest_4 : decode b_CH_isNest 4 = .ok (.if_icmp .gt 24, 3) := by decide +kernel
theorem d_CH_isNest_7 : decode b_CH_isNest 7 = .ok (.iload_n 2, 1) := by decide +kernel
theorem d_CH_isNest_8 : decode b_CH_isNest 8 = .ok (.iload_n 1, 1) := by decide +kernel
theorem d_CH_isNest_9 : decode b_CH_isNest 9 = .ok (.isub, 1) := by decide +kernel
theorem d_CH_isNest_10 : decode b_CH_isNest 10 = .ok (.iconst 5, 1) := by decide +kernel
theorem d_CH_isNest_11 : decode b_CH_isNest 11 = .ok (.if_icmp .lt 17, 3) := by decide +kernel
theorem d_CH_isNest_14 : decode b_CH_isNest 14 = .ok (.aload_n 0, 1) := by decide +kernel
theorem d_CH_isNest_15 : decode b_CH_isNest 15 = .ok (.getfield 9, 3) := by decide +kernel
theorem d_CH_isNest_18 : decode b_CH_isNest 18 = .ok (.iload_n 1, 1) := by decide +kernel
theorem d_CH_isNest_19 : decode b_CH_isNest 19 = .ok (.invokevirtual 19, 3) := by decide +kernel
theorem d_CH_isNest_22 : decode b_CH_isNest 22 = .ok (.iload_n 2, 1) := by decide +kernel
theorem d_CH_isNest_23 : decode b_CH_isNest 23 = .ok (.iload_n 1, 1) := by decide +kernel
theorem d_CH_isNest_24 : decode b_CH_isNest 24 = .ok (.isub, 1) := by decide +kernel
theorem d_CH_isNest_25 : decode b_CH_isNest 25 = .ok (.if_icmp .eq 5, 3) := by decide +kernel
theorem d_CH_isNest_28 : decode b_CH_isNest 28 = .ok (.iconst 0, 1) := by decide +kernel
theorem d_CH_isNest_29 : decode b_CH_isNest 29 = .ok (.ireturn, 1) := by decide +kernel
theorem d_CH_isNest_30 : decode b_CH_isNest 30 = .ok (.iload_n 2, 1) := by decide +kernel
theorem d_CH_isNest_31 : decode b_CH_isNest 31 = .ok (.iconst 1, 1) := by decide +kernel
theorem d_CH_isNest_32 : decode b_CH_isNest 32 = .ok (.isub, 1) := by decide +kernel
theorem d_CH_isNest_33 : decode b_CH_isNest 33 = .ok (.istore 5, 2) := by decide +kernel
theorem d_CH_isNest_35 : decode b_CH_isNest 35 = .ok (.iload_n 1, 1) := by decide +kernel
theorem d_CH_isNest_36 : decode b_CH_isNest 36 = .ok (.iconst 4, 1) := by decide +kernel
theorem d_CH_isNest_37 : decode b_CH_isNest 37 = .ok (.iadd, 1) := by decide +kernel
theorem d_CH_isNest_38 : decode b_CH_isNest 38 = .ok (.istore 6, 2) := by decide +kernel
theorem d_CH_isNest_40 : decode b_CH_isNest 40 = .ok (.iconst 0, 1) := by decide +kernel
theorem d_CH_isNest_41 : decode b_CH_isNest 41 = .ok (.istore 7, 2) := by decide +kernel
theorem d_CH_isNest_43 : decode b_CH_isNest 43 = .ok (.iload 7, 2) := by decide +kernel
theorem d_CH_isNest_45 : decode b_CH_isNest 45 = .ok (.sipush 1000, 3) := by decide +kernel
theorem d_CH_isNest_48 : decode b_CH_isNest 48 = .ok (.if_icmp .ge 106, 3) := by decide +kernel
theorem d_CH_isNest_51 : decode b_CH_isNest 51 = .ok (.iload 6, 2) := by decide +kernel
theorem d_CH_isNest_53 : decode b_CH_isNest 53 = .ok (.iload 5, 2) := by decide +kernel
theorem d_CH_isNest_55 : decode b_CH_isNest 55 = .ok (.if_icmp .ge 99, 3) := by decide +kernel
theorem d_CH_isNest_58 : decode b_CH_isNest 58 = .ok (.aload_n 0, 1) := by decide +kernel
theorem d_CH_isNest_59 : decode b_CH_isNest 59 = .ok (.iload 6, 2) := by decide +kernel
theorem d_CH_isNest_61 : decode b_CH_isNest 61 = .ok (.iconst 1, 1) := by decide +kernel
theorem d_CH_isNest_62 : decode b_CH_isNest 62 = .ok (.iadd, 1) := by decide +kernel
theorem d_CH_isNest_63 : decode b_CH_isNest 63 = .ok (.iload 5, 2) := by decide +kernel
theorem d_CH_isNest_65 : decode b_CH_isNest 65 = .ok (.invokevirtual 25, 3) := by decide +kernel
theorem d_CH_isNest_68 : decode b_CH_isNest 68 = .ok (.istore 8, 2) := by decide +kernel
theorem d_CH_isNest_70 : decode b_CH_isNest 70 = .ok (.iload 8, 2) := by decide +kernel
theorem d_CH_isNest_72 : decode b_CH_isNest 72 = .ok (.ifCond .ge 5, 3) := by decide +kernel
theorem d_CH_isNest_75 : decode b_CH_isNest 75 = .ok (.iconst 0, 1) := by decide +kernel
theorem d_CH_isNest_76 : decode b_CH_isNest 76 = .ok (.ireturn, 1) := by decide +kernel
theorem d_CH_isNest_77 : decode b_CH_isNest 77 = .ok (.iload_n 3, 1) := by decide +kernel
theorem d_CH_isNest_78 : decode b_CH_isNest 78 = .ok (.ifCond .eq 24, 3) := by decide +kernel
theorem d_CH_isNest_81 : decode b_CH_isNest 81 = .ok (.aload_n 0, 1) := by decide +kernel
theorem d_CH_isNest_82 : decode b_CH_isNest 82 = .ok (.getfield 9, 3) := by decide +kernel
theorem d_CH_isNest_85 : decode b_CH_isNest 85 = .ok (.iload 6, 2) := by decide +kernel
theorem d_CH_isNest_87 : decode b_CH_isNest 87 = .ok (.iconst 1, 1) := by decide +kernel
theorem d_CH_isNest_88 : decode b_CH_isNest 88 = .ok (.iadd, 1) := by decide +kernel
theorem d_CH_isNest_89 : decode b_CH_isNest 89 = .ok (.iload 8, 2) := by decide +kernel
theorem d_CH_isNest_91 : decode b_CH_isNest 91 = .ok (.invokevirtual 29, 3) := by decide +kernel
theorem d_CH_isNest_94 : decode b_CH_isNest 94 = .ok (.iload 7, 2) := by decide +kernel
theorem d_CH_isNest_96 : decode b_CH_isNest 96 = .ok (.if_icmp .eq 22, 3) := by decide +kernel
theorem d_CH_isNest_99 : decode b_CH_isNest 99 = .ok (.goto 17, 3) := by decide +kernel
theorem d_CH_isNest_102 : decode b_CH_isNest 102 = .ok (.aload_n 0, 1) := by decide +kernel
theorem d_CH_isNest_103 : decode b_CH_isNest 103 = .ok (.iload_n 1, 1) := by decide +kernel
theorem d_CH_isNest_104 : decode b_CH_isNest 104 = .ok (.iconst 4, 1) := by decide +kernel
theorem d_CH_isNest_105 : decode b_CH_isNest 105 = .ok (.iadd, 1) := by decide +kernel
theorem d_CH_isNest_106 : decode b_CH_isNest 106 = .ok (.iload 6, 2) := by decide +kernel
theorem d_CH_isNest_108 : decode b_CH_isNest 108 = .ok (.iload 8, 2) := by decide +kernel
theorem d_CH_isNest_110 : decode b_CH_isNest 110 = .ok (.invokevirtual 32, 3) := by decide +kernel
theorem d_CH_isNest_113 : decode b_CH_isNest 113 = .ok (.ifCond .ne 5, 3) := by decide +kernel
theorem d_CH_isNest_116 : decode b_CH_isNest 116 = .ok (.iconst 0, 1) := by decide +kernel
theorem d_CH_isNest_117 : decode b_CH_isNest 117 = .ok (.ireturn, 1) := by decide +kernel
theorem d_CH_isNest_118 : decode b_CH_isNest 118 = .ok (.aload_n 0, 1) := by decide +kernel
theorem d_CH_isNest_119 : decode b_CH_isNest 119 = .ok (.aload_n 0, 1) := by decide +kernel
theorem d_CH_isNest_120 : decode b_CH_isNest 120 = .ok (.getfield 9, 3) := by decide +kernel
theorem d_CH_isNest_123 : decode b_CH_isNest 123 = .ok (.iload 6, 2) := by decide +kernel
theorem d_CH_isNest_125 : decode b_CH_isNest 125 = .ok (.invokevirtual 36, 3) := by decide +kernel
theorem d_CH_isNest_128 : decode b_CH_isNest 128 = .ok (.iload 8, 2) := by decide +kernel
theorem d_CH_isNest_130 : decode b_CH_isNest 130 = .ok (.iconst 1, 1) := by decide +kernel
theorem d_CH_isNest_131 : decode b_CH_isNest 131 = .ok (.iadd, 1) := by decide +kernel
theorem d_CH_isNest_132 : decode b_CH_isNest 132 = .ok (.iload 5, 2) := by decide +kernel
theorem d_CH_isNest_134 : decode b_CH_isNest 134 = .ok (.iload 4, 2) := by decide +kernel
theorem d_CH_isNest_136 : decode b_CH_isNest 136 = .ok (.invokevirtual 39, 3) := by decide +kernel
theorem d_CH_isNest_139 : decode b_CH_isNest 139 = .ok (.istore 6, 2) := by decide +kernel
theorem d_CH_isNest_141 : decode b_CH_isNest 141 = .ok (.iload 6, 2) := by decide +kernel
theorem d_CH_isNest_143 : decode b_CH_isNest 143 = .ok (.ifCond .ge 5, 3) := by decide +kernel
theorem d_CH_isNest_146 : decode b_CH_isNest 146 = .ok (.iconst 0, 1) := by decide +kernel
theorem d_CH_isNest_147 : decode b_CH_isNest 147 = .ok (.ireturn, 1) := by decide +kernel
theorem d_CH_isNest_148 : decode b_CH_isNest 148 = .ok (.iinc 7 1, 3) := by decide +kernel
theorem d_CH_isNest_151 : decode b_CH_isNest 151 = .ok (.goto (-108), 3) := by decide +kernel
theorem d_CH_isNest_154 : decode b_CH_isNest 154 = .ok (.iload 6, 2) := by decide +kernel
theorem d_CH_isNest_156 : decode b_CH_isNest 156 = .ok (.iload 5, 2) := by decide +kernel
theorem d_CH_isNest_158 : decode b_CH_isNest 158 = .ok (.if_icmp .ne 19, 3) := by decide +kernel
theorem d_CH_isNest_161 : decode b_CH_isNest 161 = .ok (.aload_n 0, 1) := by decide +kernel
theorem d_CH_isNest_162 : decode b_CH_isNest 162 = .ok (.getfield 9, 3) := by decide +kernel
theorem d_CH_isNest_165 : decode b_CH_isNest 165 = .ok (.iload 5, 2) := by decide +kernel
theorem d_CH_isNest_167 : decode b_CH_isNest 167 = .ok (.invokevirtual 36, 3) := by decide +kernel
theorem d_CH_isNest_170 : decode b_CH_isNest 170 = .ok (.ifCond .ne 7, 3) := by decide +kernel
theorem d_CH_isNest_173 : decode b_CH_isNest 173 = .ok (.iconst 1, 1) := by decide +kernel
theorem d_CH_isNest_174 : decode b_CH_isNest 174 = .ok (.goto 4, 3) := by decide +kernel
theorem d_CH_isNest_177 : decode b_CH_isNest 177 = .ok (.iconst 0, 1) := by decide +kernel
theorem d_CH_isNest_178 : decode b_CH_isNest 178 = .ok (.ireturn, 1) := by decide +kernel
abbrev b_CH_isDocument : ByteArray := prog_4_method_2_code
def y_CH_isDocument : MethodName := ⟨R_CH, "isDocument", "(I)Z"⟩
theorem kc_CH_isDocument : Cond.code y_CH_isDocument b_CH_isDocument 2 (some .boolean) ∈ lw_g := lw_gm (List.mem_append_right _ (List.mem_of_getElem? (i := 364) (by decide +kernel))) rfl
abbrev mw_CH_isDocument : List Cond := Cond.code y_CH_isDocument b_CH_isDocument 2 (some .boolean) :: lw_g
theorem hd_CH_isDocument : y_CH_isDocument.cls = R_CH ∧ y_CH_isDocument.cls ≠ "java/lang/invoke/MethodHandle" ∧ y_CH_isDocument.cls ≠ "java/lang/invoke/VarHandle" ∧ (parseMethodDescriptor y_CH_isDocument.desc).map (fun d => d.parameters.length) = some 1 := by decide +kernel
theorem d_CH_isDocument_0 : decode b_CH_isDocument 0 = .ok (.aload_n 0, 1) := by decide +kernel
theorem d_CH_isDocument_1 : decode b_CH_isDocument 1 = .ok (.iconst 0, 1) := by decide +kernel
theorem d_CH_isDocument_2 : decode b_CH_isDocument 2 = .ok (.iconst 0, 1) := by decide +kernel
theorem d_CH_isDocument_3 : decode b_CH_isDocument 3 = .ok (.iload_n 1, 1) := by decide +kernel
theorem d_CH_isDocument_4 : decode b_CH_isDocument 4 = .ok (.iadd, 1) := by decide +kernel
theorem d_CH_isDocument_5 : decode b_CH_isDocument 5 = .ok (.iconst 0, 1) := by decide +kernel
theorem d_CH_isDocument_6 : decode b_CH_isDocument 6 = .ok (.iconst 1, 1) := by decide +kernel
theorem d_CH_isDocument_7 : decode b_CH_isDocument 7 = .ok (.invokevirtual 15, 3) := by decide +kernel
theorem d_CH_isDocument_10 : decode b_CH_isDocument 10 = .ok (.ireturn, 1) := by decide +kernel
set_option maxHeartbeats 4000000 in
set_option maxRecDepth 100000 in
theorem l_CH_endOfName_h2 {p : Program} {e : Env} {s : State} {m : MethodId} {args : Array Value} {below : List Frame} {meth : Method} {c : Code} {V : Int32} (C0 : lc_C p s m meth c args b_CH_endOfName 4 (some .int) R_CH lw_g) (l : Launch) (D : va_G) (cB cI : ClassId) (aC aS aB : Nat) (b : Nat → UInt8) (hP : va_P D vwCl [(aC, .inr (4, [.ref aS])), (aS, .inr (0, [.ref aB])), (aB, .inl (cB, 202000, .inl (by_ b)))] s.heap) (hk : hk_ D cB cI s) (p1 : Int32) : ∀ (n : Nat) (x3 : Int32), (p1.toInt - x3.toInt).toNat < n → V = tw_CH_endOfName_h2 b p1 n x3 → ∀ ls : Array Slot, lv_has ls 4 [(0, .ref aC), (2, .int p1), (3, .int x3)] → W p l e ({ frames := 1, cells := 0, slots := 0, locals := 21 }) s m args below meth c s.heap [] 0 0 (MQ below (vp_Si (fun r => r = V)) args s 0 0 (fun _ => False)) (F0 m 2 ls []) := by
  obtain ⟨hx, hb, hml, hr, hown, hlocks, hT⟩ := id C0
  have hK := hk.1
  have hN := hk.2.1
  intro n
  induction n with
  | zero =>
    intro x3 hm
    exact absurd hm (Nat.not_lt_zero _)
  | succ n ih =>
    intro x3 hm hV ls hl
    refine lv_iload_n hx hb d_CH_endOfName_2 rfl (lv_at hl 2 rfl) ?_
    refine lv_iload_n hx hb d_CH_endOfName_3 rfl (lv_at hl 1 rfl) ?_
    refine lv_icmp_ge (tgt := 26) hx hb d_CH_endOfName_4 (by decide) (fun c_1 => ?_) (fun c_1 => ?_)
    · refine lv_iconst (v := -1) hx hb d_CH_endOfName_26 (by decide) ?_
      exact W.iret (v := (-1)) hx hb hr (fun t ht hW => ⟨(-1), rfl, (by rw [hV, tw_CH_endOfName_h2, if_pos c_1]; first | done | rfl), ht⟩) (fun _ h => by cases h) d_CH_endOfName_27
    · refine lv_aload_n hx hb d_CH_endOfName_7 rfl (lv_at hl 0 rfl) ?_
      refine va_get (D := D) (ci := 4) (v := .ref aS) (C := R_CH) (T := T_CH) (N := 1) hx hb hT u_CH hown hK hP 0 rfl rfl 0 (by decide) (hT _ k_49) (fun _ h9 => h9) rfl d_CH_endOfName_8 ?_
      refine lv_iload_n hx hb d_CH_endOfName_11 rfl (lv_at hl 2 rfl) ?_
      refine rd_V (val := tw_ST_at b x3) (As := [.int x3]) (rest := []) ⟨hx, hb, hml, hown, hT⟩ (c_ST_at l D cB cI aS aB b x3) (cwV 1 hT (gV_of k_377 k_378 k_379 k_2 kc_ST_at) rfl rfl rfl hd_ST_at ⟨Nat.le_of_ble_eq_true rfl, Nat.le_of_ble_eq_true rfl⟩) hk (hP.sub (ws' := [(aS, .inr (0, [.ref aB])), (aB, .inl (cB, 202000, .inl (by_ b)))]) [1, 2] rfl) (q0 := 0) rfl rfl rfl rfl hl.1 rfl (Nat.le_of_ble_eq_true rfl) d_CH_endOfName_12 ⟨Nat.zero_le _, Nat.zero_le _⟩ ?_
      refine lv_if_ne (tgt := 20) hx hb d_CH_endOfName_15 (by decide) (fun c_2 => ?_) (fun c_2 => ?_)
      · refine lv_iinc (v := x3 + 1) (lv' := [(3, .int (x3 + 1)), (0, .ref aC), (2, .int p1)]) hx hb d_CH_endOfName_20 hl (k := 2) rfl rfl (by decide) rfl (fun ls hl => ?_)
        refine lv_goto (tgt := 2) hx hb d_CH_endOfName_23 (by decide) ?_
        exact ih (x3 + 1) (lp_up hm c_1) (by rw [hV, tw_CH_endOfName_h2, if_neg c_1, if_neg c_2]) ls (lv_sub hl [1, 2, 0] rfl)
      · refine lv_iload_n hx hb d_CH_endOfName_18 rfl (lv_at hl 2 rfl) ?_
        exact W.iret (v := x3) hx hb hr (fun t ht hW => ⟨x3, rfl, (by rw [hV, tw_CH_endOfName_h2, if_neg c_1, if_pos c_2]; first | done | rfl), ht⟩) (fun _ h => by cases h) d_CH_endOfName_19
set_option maxHeartbeats 4000000 in
set_option maxRecDepth 100000 in
theorem c_CH_endOfName (l : Launch) (D : va_G) (cB cI : ClassId) (aC aS aB : Nat) (b : Nat → UInt8) (p0 : Int32) (p1 : Int32) : Met l y_CH_endOfName mw_CH_endOfName { frames := 1, cells := 0, slots := 0, locals := 21 } (va_Pc [.ref aC, .int p0, .int p1] (fun U => va_P D vwCl [(aC, .inr (4, [.ref aS])), (aS, .inr (0, [.ref aB])), (aB, .inl (cB, 202000, .inl (by_ b)))] U.heap ∧ hk_ D cB cI U)) (vp_Si (fun r => r = tw_CH_endOfName b p0 p1)) 0 0 (fun _ => False) := by
  refine Met.ofW (cc := b_CH_endOfName) (maxL := 4) (ret := (some .int)) (by decide) rfl ?_
  intro p e s m args below meth c s₁ B0 hml hv
  obtain ⟨rfl, hP, hk⟩ := hv
  have hK := hk.1
  have hN := hk.2.1
  have hx := B0.exec
  have hb := B0.bytes
  have hr := B0.returns
  have hT : ∀ w ∈ lw_g, w.before _ s = true := fun w h => atoms_spec (ws := mw_CH_endOfName) B0.pre w (List.mem_cons_of_mem _ h)
  have hown : s.vm.findClass R_CH = some m.cls := findClass_of_methodNamed B0.named
  have hlocks := B0.notSynchronized
  have hl := lv_entry ([.ref aC, .int p0, .int p1]) (n := 4) (Nat.le_of_ble_eq_true rfl)
  rw [lg_entry_eq]
  generalize (lg_sl ([.ref aC, .int p0, .int p1]) ++ List.replicate (4 - (lg_sl ([.ref aC, .int p0, .int p1])).length) Slot.unset).toArray = ls at hl ⊢
  have hl : lv_has ls 4 [(0, .ref aC), (1, .int p0), (2, .int p1)] := hl
  have C0 : lc_C p s m meth c _ b_CH_endOfName 4 (some .int) R_CH lw_g := ⟨hx, hb, hml, hr, hown, hlocks, hT⟩
  refine lv_iload_n hx hb d_CH_endOfName_0 rfl (lv_at hl 1 rfl) ?_
  refine lv_istore_n (lv' := [(3, .int p0), (0, .ref aC), (1, .int p0), (2, .int p1)]) hx hb d_CH_endOfName_1 rfl hl (by decide) rfl (fun ls hl => ?_)
  exact l_CH_endOfName_h2 C0 l D cB cI aC aS aB b hP hk p1  (((p1.toInt - p0.toInt).toNat) + 1) p0 (Nat.lt_succ_self _) (by rw [tw_CH_endOfName]) ls (lv_sub hl [1, 3, 0] rfl)
set_option maxHeartbeats 4000000 in
set_option maxRecDepth 100000 in
theorem l_CH_lengthOfCharacter_h72 {p : Program} {e : Env} {s : State} {m : MethodId} {args : Array Value} {below : List Frame} {meth : Method} {c : Code} {V : Int32} (C0 : lc_C p s m meth c args b_CH_lengthOfCharacter 8 (some .int) R_CH lw_g) (l : Launch) (D : va_G) (cB cI : ClassId) (aC aS aB : Nat) (b : Nat → UInt8) (hP : va_P D vwCl [(aC, .inr (4, [.ref aS])), (aS, .inr (0, [.ref aB])), (aB, .inl (cB, 202000, .inl (by_ b)))] s.heap) (hk : hk_ D cB cI s) (p0 : Int32) (x3 : Int32) (x4 : Int32) : ∀ (n : Nat) (x5 : Int32), (x4.toInt - x5.toInt).toNat < n → V = tw_CH_lengthOfCharacter_h72 b p0 x3 x4 n x5 → ∀ ls : Array Slot, lv_has ls 8 [(0, .ref aC), (1, .int p0), (3, .int x3), (4, .int x4), (5, .int x5)] → W p l e ({ frames := 1, cells := 0, slots := 0, locals := 21 }) s m args below meth c s.heap [] 0 0 (MQ below (vp_Si (fun r => r = V)) args s 0 0 (fun _ => False)) (F0 m 72 ls []) := by
  obtain ⟨hx, hb, hml, hr, hown, hlocks, hT⟩ := id C0
  have hK := hk.1
  have hN := hk.2.1
  intro n
  induction n with
  | zero =>
    intro x5 hm
    exact absurd hm (Nat.not_lt_zero _)
  | succ n ih =>
    intro x5 hm hV ls hl
    refine lv_iload hx hb d_CH_lengthOfCharacter_72 (lv_at hl 4 rfl) ?_
    refine lv_iload hx hb d_CH_lengthOfCharacter_74 (lv_at hl 3 rfl) ?_
    refine lv_icmp_ge (tgt := 108) hx hb d_CH_lengthOfCharacter_76 (by decide) (fun c_7 => ?_) (fun c_7 => ?_)
    · refine lv_aload_n hx hb d_CH_lengthOfCharacter_108 rfl (lv_at hl 0 rfl) ?_
      refine va_get (D := D) (ci := 4) (v := .ref aS) (C := R_CH) (T := T_CH) (N := 1) hx hb hT u_CH hown hK hP 0 rfl rfl 0 (by decide) (hT _ k_49) (fun _ h9 => h9) rfl d_CH_lengthOfCharacter_109 ?_
      refine lv_iload_n hx hb d_CH_lengthOfCharacter_112 rfl (lv_at hl 1 rfl) ?_
      refine lv_iconst (v := 1) hx hb d_CH_lengthOfCharacter_113 (by decide) ?_
      refine lv_iadd hx hb d_CH_lengthOfCharacter_114 ?_
      refine rd_V (val := tw_ST_at b (p0 + 1)) (As := [.int (p0 + 1)]) (rest := []) ⟨hx, hb, hml, hown, hT⟩ (c_ST_at l D cB cI aS aB b (p0 + 1)) (cwV 1 hT (gV_of k_377 k_378 k_379 k_2 kc_ST_at) rfl rfl rfl hd_ST_at ⟨Nat.le_of_ble_eq_true rfl, Nat.le_of_ble_eq_true rfl⟩) hk (hP.sub (ws' := [(aS, .inr (0, [.ref aB])), (aB, .inl (cB, 202000, .inl (by_ b)))]) [1, 2] rfl) (q0 := 0) rfl rfl rfl rfl hl.1 rfl (Nat.le_of_ble_eq_true rfl) d_CH_lengthOfCharacter_115 ⟨Nat.zero_le _, Nat.zero_le _⟩ ?_
      refine lv_istore (lv' := [(5, .int (tw_ST_at b (p0 + 1))), (0, .ref aC), (1, .int p0), (3, .int x3), (4, .int x4)]) hx hb d_CH_lengthOfCharacter_118 hl (by decide) rfl (fun ls hl => ?_)
      refine lv_iload_n hx hb d_CH_lengthOfCharacter_120 rfl (lv_at hl 3 rfl) ?_
      refine lv_sipush (v := 224) hx hb d_CH_lengthOfCharacter_121 (by decide) ?_
      refine lv_icmp_ne (tgt := 135) hx hb d_CH_lengthOfCharacter_124 (by decide) (fun c_8 => ?_) (fun c_8 => ?_)
      · refine lv_iload_n hx hb d_CH_lengthOfCharacter_135 rfl (lv_at hl 3 rfl) ?_
        refine lv_sipush (v := 240) hx hb d_CH_lengthOfCharacter_136 (by decide) ?_
        refine lv_icmp_ne (tgt := 154) hx hb d_CH_lengthOfCharacter_139 (by decide) (fun c_9 => ?_) (fun c_9 => ?_)
        · refine lv_iconst (v := 0) hx hb d_CH_lengthOfCharacter_154 (by decide) ?_
          refine lv_istore (lv' := [(6, .int 0), (5, .int (tw_ST_at b (p0 + 1))), (0, .ref aC), (1, .int p0), (3, .int x3), (4, .int x4)]) hx hb d_CH_lengthOfCharacter_155 hl (by decide) rfl (fun ls hl => ?_)
          refine lv_iload_n hx hb d_CH_lengthOfCharacter_157 rfl (lv_at hl 4 rfl) ?_
          refine lv_sipush (v := 237) hx hb d_CH_lengthOfCharacter_158 (by decide) ?_
          refine lv_icmp_ne (tgt := 172) hx hb d_CH_lengthOfCharacter_161 (by decide) (fun c_10 => ?_) (fun c_10 => ?_)
          · refine lv_iload_n hx hb d_CH_lengthOfCharacter_172 rfl (lv_at hl 4 rfl) ?_
            refine lv_sipush (v := 244) hx hb d_CH_lengthOfCharacter_173 (by decide) ?_
            refine lv_icmp_ne (tgt := 191) hx hb d_CH_lengthOfCharacter_176 (by decide) (fun c_11 => ?_) (fun c_11 => ?_)
            · refine lv_iconst (v := 0) hx hb d_CH_lengthOfCharacter_191 (by decide) ?_
              refine lv_istore (lv' := [(7, .int 0), (6, .int 0), (5, .int (tw_ST_at b (p0 + 1))), (0, .ref aC), (1, .int p0), (3, .int x3), (4, .int x4)]) hx hb d_CH_lengthOfCharacter_192 hl (by decide) rfl (fun ls hl => ?_)
              refine lv_iload hx hb d_CH_lengthOfCharacter_194 (lv_at hl 1 rfl) ?_
              refine lv_if_ne (tgt := 204) hx hb d_CH_lengthOfCharacter_196 (by decide) (fun c_12 => ?_) (fun c_12 => ?_)
              · exact absurd c_12 (by decide)
              · refine lv_iload hx hb d_CH_lengthOfCharacter_199 (lv_at hl 0 rfl) ?_
                refine lv_if_eq (tgt := 208) hx hb d_CH_lengthOfCharacter_201 (by decide) (fun c_13 => ?_) (fun c_13 => ?_)
                · refine lv_iload hx hb d_CH_lengthOfCharacter_208 (lv_at hl 6 rfl) ?_
                  exact W.iret (v := x4) hx hb hr (fun t ht hW => ⟨x4, rfl, (by rw [hV, tw_CH_lengthOfCharacter_h72, if_pos c_7, if_neg c_8, if_neg c_9, if_neg c_10, if_neg c_11]; first | done | rfl), ht⟩) (fun _ h => by cases h) d_CH_lengthOfCharacter_210
                · exact absurd c_13 (by decide)
            · refine lv_iload hx hb d_CH_lengthOfCharacter_179 (lv_at hl 1 rfl) ?_
              refine lv_sipush (v := 143) hx hb d_CH_lengthOfCharacter_181 (by decide) ?_
              refine lv_icmp_le (tgt := 191) hx hb d_CH_lengthOfCharacter_184 (by decide) (fun c_14 => ?_) (fun c_14 => ?_)
              · refine lv_iconst (v := 0) hx hb d_CH_lengthOfCharacter_191 (by decide) ?_
                refine lv_istore (lv' := [(7, .int 0), (6, .int 0), (5, .int (tw_ST_at b (p0 + 1))), (0, .ref aC), (1, .int p0), (3, .int x3), (4, .int x4)]) hx hb d_CH_lengthOfCharacter_192 hl (by decide) rfl (fun ls hl => ?_)
                refine lv_iload hx hb d_CH_lengthOfCharacter_194 (lv_at hl 1 rfl) ?_
                refine lv_if_ne (tgt := 204) hx hb d_CH_lengthOfCharacter_196 (by decide) (fun c_15 => ?_) (fun c_15 => ?_)
                · exact absurd c_15 (by decide)
                · refine lv_iload hx hb d_CH_lengthOfCharacter_199 (lv_at hl 0 rfl) ?_
                  refine lv_if_eq (tgt := 208) hx hb d_CH_lengthOfCharacter_201 (by decide) (fun c_16 => ?_) (fun c_16 => ?_)
                  · refine lv_iload hx hb d_CH_lengthOfCharacter_208 (lv_at hl 6 rfl) ?_
                    exact W.iret (v := x4) hx hb hr (fun t ht hW => ⟨x4, rfl, (by rw [hV, tw_CH_lengthOfCharacter_h72, if_pos c_7, if_neg c_8, if_neg c_9, if_neg c_10, if_pos c_11, if_pos c_14]; first | done | rfl), ht⟩) (fun _ h => by cases h) d_CH_lengthOfCharacter_210
                  · exact absurd c_16 (by decide)
              · refine lv_iconst (v := 1) hx hb d_CH_lengthOfCharacter_187 (by decide) ?_
                refine lv_goto (tgt := 192) hx hb d_CH_lengthOfCharacter_188 (by decide) ?_
                refine lv_istore (lv' := [(7, .int 1), (6, .int 0), (5, .int (tw_ST_at b (p0 + 1))), (0, .ref aC), (1, .int p0), (3, .int x3), (4, .int x4)]) hx hb d_CH_lengthOfCharacter_192 hl (by decide) rfl (fun ls hl => ?_)
                refine lv_iload hx hb d_CH_lengthOfCharacter_194 (lv_at hl 1 rfl) ?_
                refine lv_if_ne (tgt := 204) hx hb d_CH_lengthOfCharacter_196 (by decide) (fun c_17 => ?_) (fun c_17 => ?_)
                · exact absurd c_17 (by decide)
                · refine lv_iload hx hb d_CH_lengthOfCharacter_199 (lv_at hl 0 rfl) ?_
                  refine lv_if_eq (tgt := 208) hx hb d_CH_lengthOfCharacter_201 (by decide) (fun c_18 => ?_) (fun c_18 => ?_)
                  · exact absurd c_18 (by decide)
                  · refine lv_iconst (v := 0) hx hb d_CH_lengthOfCharacter_204 (by decide) ?_
                    refine lv_goto (tgt := 210) hx hb d_CH_lengthOfCharacter_205 (by decide) ?_
                    exact W.iret (v := 0) hx hb hr (fun t ht hW => ⟨0, rfl, (by rw [hV, tw_CH_lengthOfCharacter_h72, if_pos c_7, if_neg c_8, if_neg c_9, if_neg c_10, if_pos c_11, if_neg c_14]; first | done | rfl), ht⟩) (fun _ h => by cases h) d_CH_lengthOfCharacter_210
          · refine lv_iload hx hb d_CH_lengthOfCharacter_164 (lv_at hl 1 rfl) ?_
            refine lv_sipush (v := 159) hx hb d_CH_lengthOfCharacter_166 (by decide) ?_
            refine lv_icmp_gt (tgt := 187) hx hb d_CH_lengthOfCharacter_169 (by decide) (fun c_19 => ?_) (fun c_19 => ?_)
            · refine lv_iconst (v := 1) hx hb d_CH_lengthOfCharacter_187 (by decide) ?_
              refine lv_goto (tgt := 192) hx hb d_CH_lengthOfCharacter_188 (by decide) ?_
              refine lv_istore (lv' := [(7, .int 1), (6, .int 0), (5, .int (tw_ST_at b (p0 + 1))), (0, .ref aC), (1, .int p0), (3, .int x3), (4, .int x4)]) hx hb d_CH_lengthOfCharacter_192 hl (by decide) rfl (fun ls hl => ?_)
              refine lv_iload hx hb d_CH_lengthOfCharacter_194 (lv_at hl 1 rfl) ?_
              refine lv_if_ne (tgt := 204) hx hb d_CH_lengthOfCharacter_196 (by decide) (fun c_20 => ?_) (fun c_20 => ?_)
              · exact absurd c_20 (by decide)
              · refine lv_iload hx hb d_CH_lengthOfCharacter_199 (lv_at hl 0 rfl) ?_
                refine lv_if_eq (tgt := 208) hx hb d_CH_lengthOfCharacter_201 (by decide) (fun c_21 => ?_) (fun c_21 => ?_)
                · exact absurd c_21 (by decide)
                · refine lv_iconst (v := 0) hx hb d_CH_lengthOfCharacter_204 (by decide) ?_
                  refine lv_goto (tgt := 210) hx hb d_CH_lengthOfCharacter_205 (by decide) ?_
                  exact W.iret (v := 0) hx hb hr (fun t ht hW => ⟨0, rfl, (by rw [hV, tw_CH_lengthOfCharacter_h72, if_pos c_7, if_neg c_8, if_neg c_9, if_pos c_10, if_pos c_19]; first | done | rfl), ht⟩) (fun _ h => by cases h) d_CH_lengthOfCharacter_210
            · refine lv_iload_n hx hb d_CH_lengthOfCharacter_172 rfl (lv_at hl 4 rfl) ?_
              refine lv_sipush (v := 244) hx hb d_CH_lengthOfCharacter_173 (by decide) ?_
              refine lv_icmp_ne (tgt := 191) hx hb d_CH_lengthOfCharacter_176 (by decide) (fun c_22 => ?_) (fun c_22 => ?_)
              · refine lv_iconst (v := 0) hx hb d_CH_lengthOfCharacter_191 (by decide) ?_
                refine lv_istore (lv' := [(7, .int 0), (6, .int 0), (5, .int (tw_ST_at b (p0 + 1))), (0, .ref aC), (1, .int p0), (3, .int x3), (4, .int x4)]) hx hb d_CH_lengthOfCharacter_192 hl (by decide) rfl (fun ls hl => ?_)
                refine lv_iload hx hb d_CH_lengthOfCharacter_194 (lv_at hl 1 rfl) ?_
                refine lv_if_ne (tgt := 204) hx hb d_CH_lengthOfCharacter_196 (by decide) (fun c_23 => ?_) (fun c_23 => ?_)
                · exact absurd c_23 (by decide)
                · refine lv_iload hx hb d_CH_lengthOfCharacter_199 (lv_at hl 0 rfl) ?_
                  refine lv_if_eq (tgt := 208) hx hb d_CH_lengthOfCharacter_201 (by decide) (fun c_24 => ?_) (fun c_24 => ?_)
                  · refine lv_iload hx hb d_CH_lengthOfCharacter_208 (lv_at hl 6 rfl) ?_
                    exact W.iret (v := x4) hx hb hr (fun t ht hW => ⟨x4, rfl, (by rw [hV, tw_CH_lengthOfCharacter_h72, if_pos c_7, if_neg c_8, if_neg c_9, if_pos c_10, if_neg c_19, if_neg c_22]; first | done | rfl), ht⟩) (fun _ h => by cases h) d_CH_lengthOfCharacter_210
                  · exact absurd c_24 (by decide)
              · refine lv_iload hx hb d_CH_lengthOfCharacter_179 (lv_at hl 1 rfl) ?_
                refine lv_sipush (v := 143) hx hb d_CH_lengthOfCharacter_181 (by decide) ?_
                refine lv_icmp_le (tgt := 191) hx hb d_CH_lengthOfCharacter_184 (by decide) (fun c_25 => ?_) (fun c_25 => ?_)
                · refine lv_iconst (v := 0) hx hb d_CH_lengthOfCharacter_191 (by decide) ?_
                  refine lv_istore (lv' := [(7, .int 0), (6, .int 0), (5, .int (tw_ST_at b (p0 + 1))), (0, .ref aC), (1, .int p0), (3, .int x3), (4, .int x4)]) hx hb d_CH_lengthOfCharacter_192 hl (by decide) rfl (fun ls hl => ?_)
                  refine lv_iload hx hb d_CH_lengthOfCharacter_194 (lv_at hl 1 rfl) ?_
                  refine lv_if_ne (tgt := 204) hx hb d_CH_lengthOfCharacter_196 (by decide) (fun c_26 => ?_) (fun c_26 => ?_)
                  · exact absurd c_26 (by decide)
                  · refine lv_iload hx hb d_CH_lengthOfCharacter_199 (lv_at hl 0 rfl) ?_
                    refine lv_if_eq (tgt := 208) hx hb d_CH_lengthOfCharacter_201 (by decide) (fun c_27 => ?_) (fun c_27 => ?_)
                    · refine lv_iload hx hb d_CH_lengthOfCharacter_208 (lv_at hl 6 rfl) ?_
                      exact W.iret (v := x4) hx hb hr (fun t ht hW => ⟨x4, rfl, (by rw [hV, tw_CH_lengthOfCharacter_h72, if_pos c_7, if_neg c_8, if_neg c_9, if_pos c_10, if_neg c_19, if_pos c_22, if_pos c_25]; first | done | rfl), ht⟩) (fun _ h => by cases h) d_CH_lengthOfCharacter_210
                    · exact absurd c_27 (by decide)
                · refine lv_iconst (v := 1) hx hb d_CH_lengthOfCharacter_187 (by decide) ?_
                  refine lv_goto (tgt := 192) hx hb d_CH_lengthOfCharacter_188 (by decide) ?_
                  refine lv_istore (lv' := [(7, .int 1), (6, .int 0), (5, .int (tw_ST_at b (p0 + 1))), (0, .ref aC), (1, .int p0), (3, .int x3), (4, .int x4)]) hx hb d_CH_lengthOfCharacter_192 hl (by decide) rfl (fun ls hl => ?_)
                  refine lv_iload hx hb d_CH_lengthOfCharacter_194 (lv_at hl 1 rfl) ?_
                  refine lv_if_ne (tgt := 204) hx hb d_CH_lengthOfCharacter_196 (by decide) (fun c_28 => ?_) (fun c_28 => ?_)
                  · exact absurd c_28 (by decide)
                  · refine lv_iload hx hb d_CH_lengthOfCharacter_199 (lv_at hl 0 rfl) ?_
                    refine lv_if_eq (tgt := 208) hx hb d_CH_lengthOfCharacter_201 (by decide) (fun c_29 => ?_) (fun c_29 => ?_)
                    · exact absurd c_29 (by decide)
                    · refine lv_iconst (v := 0) hx hb d_CH_lengthOfCharacter_204 (by decide) ?_
                      refine lv_goto (tgt := 210) hx hb d_CH_lengthOfCharacter_205 (by decide) ?_
                      exact W.iret (v := 0) hx hb hr (fun t ht hW => ⟨0, rfl, (by rw [hV, tw_CH_lengthOfCharacter_h72, if_pos c_7, if_neg c_8, if_neg c_9, if_pos c_10, if_neg c_19, if_pos c_22, if_neg c_25]; first | done | rfl), ht⟩) (fun _ h => by cases h) d_CH_lengthOfCharacter_210
        · refine lv_iload hx hb d_CH_lengthOfCharacter_142 (lv_at hl 0 rfl) ?_
          refine lv_sipush (v := 144) hx hb d_CH_lengthOfCharacter_144 (by decide) ?_
          refine lv_icmp_ge (tgt := 154) hx hb d_CH_lengthOfCharacter_147 (by decide) (fun c_30 => ?_) (fun c_30 => ?_)
          · refine lv_iconst (v := 0) hx hb d_CH_lengthOfCharacter_154 (by decide) ?_
            refine lv_istore (lv' := [(6, .int 0), (5, .int (tw_ST_at b (p0 + 1))), (0, .ref aC), (1, .int p0), (3, .int x3), (4, .int x4)]) hx hb d_CH_lengthOfCharacter_155 hl (by decide) rfl (fun ls hl => ?_)
            refine lv_iload_n hx hb d_CH_lengthOfCharacter_157 rfl (lv_at hl 4 rfl) ?_
            refine lv_sipush (v := 237) hx hb d_CH_lengthOfCharacter_158 (by decide) ?_
            refine lv_icmp_ne (tgt := 172) hx hb d_CH_lengthOfCharacter_161 (by decide) (fun c_31 => ?_) (fun c_31 => ?_)
            · refine lv_iload_n hx hb d_CH_lengthOfCharacter_172 rfl (lv_at hl 4 rfl) ?_
              refine lv_sipush (v := 244) hx hb d_CH_lengthOfCharacter_173 (by decide) ?_
              refine lv_icmp_ne (tgt := 191) hx hb d_CH_lengthOfCharacter_176 (by decide) (fun c_32 => ?_) (fun c_32 => ?_)
              · refine lv_iconst (v := 0) hx hb d_CH_lengthOfCharacter_191 (by decide) ?_
                refine lv_istore (lv' := [(7, .int 0), (6, .int 0), (5, .int (tw_ST_at b (p0 + 1))), (0, .ref aC), (1, .int p0), (3, .int x3), (4, .int x4)]) hx hb d_CH_lengthOfCharacter_192 hl (by decide) rfl (fun ls hl => ?_)
                refine lv_iload hx hb d_CH_lengthOfCharacter_194 (lv_at hl 1 rfl) ?_
                refine lv_if_ne (tgt := 204) hx hb d_CH_lengthOfCharacter_196 (by decide) (fun c_33 => ?_) (fun c_33 => ?_)
                · exact absurd c_33 (by decide)
                · refine lv_iload hx hb d_CH_lengthOfCharacter_199 (lv_at hl 0 rfl) ?_
                  refine lv_if_eq (tgt := 208) hx hb d_CH_lengthOfCharacter_201 (by decide) (fun c_34 => ?_) (fun c_34 => ?_)
                  · refine lv_iload hx hb d_CH_lengthOfCharacter_208 (lv_at hl 6 rfl) ?_
                    exact W.iret (v := x4) hx hb hr (fun t ht hW => ⟨x4, rfl, (by rw [hV, tw_CH_lengthOfCharacter_h72, if_pos c_7, if_neg c_8, if_pos c_9, if_pos c_30, if_neg c_31, if_neg c_32]; first | done | rfl), ht⟩) (fun _ h => by cases h) d_CH_lengthOfCharacter_210
                  · exact absurd c_34 (by decide)
              · refine lv_iload hx hb d_CH_lengthOfCharacter_179 (lv_at hl 1 rfl) ?_
                refine lv_sipush (v := 143) hx hb d_CH_lengthOfCharacter_181 (by decide) ?_
                refine lv_icmp_le (tgt := 191) hx hb d_CH_lengthOfCharacter_184 (by decide) (fun c_35 => ?_) (fun c_35 => ?_)
                · refine lv_iconst (v := 0) hx hb d_CH_lengthOfCharacter_191 (by decide) ?_
                  refine lv_istore (lv' := [(7, .int 0), (6, .int 0), (5, .int (tw_ST_at b (p0 + 1))), (0, .ref aC), (1, .int p0), (3, .int x3), (4, .int x4)]) hx hb d_CH_lengthOfCharacter_192 hl (by decide) rfl (fun ls hl => ?_)
                  refine lv_iload hx hb d_CH_lengthOfCharacter_194 (lv_at hl 1 rfl) ?_
                  refine lv_if_ne (tgt := 204) hx hb d_CH_lengthOfCharacter_196 (by decide) (fun c_36 => ?_) (fun c_36 => ?_)
                  · exact absurd c_36 (by decide)
                  · refine lv_iload hx hb d_CH_lengthOfCharacter_199 (lv_at hl 0 rfl) ?_
                    refine lv_if_eq (tgt := 208) hx hb d_CH_lengthOfCharacter_201 (by decide) (fun c_37 => ?_) (fun c_37 => ?_)
                    · refine lv_iload hx hb d_CH_lengthOfCharacter_208 (lv_at hl 6 rfl) ?_
                      exact W.iret (v := x4) hx hb hr (fun t ht hW => ⟨x4, rfl, (by rw [hV, tw_CH_lengthOfCharacter_h72, if_pos c_7, if_neg c_8, if_pos c_9, if_pos c_30, if_neg c_31, if_pos c_32, if_pos c_35]; first | done | rfl), ht⟩) (fun _ h => by cases h) d_CH_lengthOfCharacter_210
                    · exact absurd c_37 (by decide)
                · refine lv_iconst (v := 1) hx hb d_CH_lengthOfCharacter_187 (by decide) ?_
                  refine lv_goto (tgt := 192) hx hb d_CH_lengthOfCharacter_188 (by decide) ?_
                  refine lv_istore (lv' := [(7, .int 1), (6, .int 0), (5, .int (tw_ST_at b (p0 + 1))), (0, .ref aC), (1, .int p0), (3, .int x3), (4, .int x4)]) hx hb d_CH_lengthOfCharacter_192 hl (by decide) rfl (fun ls hl => ?_)
                  refine lv_iload hx hb d_CH_lengthOfCharacter_194 (lv_at hl 1 rfl) ?_
                  refine lv_if_ne (tgt := 204) hx hb d_CH_lengthOfCharacter_196 (by decide) (fun c_38 => ?_) (fun c_38 => ?_)
                  · exact absurd c_38 (by decide)
                  · refine lv_iload hx hb d_CH_lengthOfCharacter_199 (lv_at hl 0 rfl) ?_
                    refine lv_if_eq (tgt := 208) hx hb d_CH_lengthOfCharacter_201 (by decide) (fun c_39 => ?_) (fun c_39 => ?_)
                    · exact absurd c_39 (by decide)
                    · refine lv_iconst (v := 0) hx hb d_CH_lengthOfCharacter_204 (by decide) ?_
                      refine lv_goto (tgt := 210) hx hb d_CH_lengthOfCharacter_205 (by decide) ?_
                      exact W.iret (v := 0) hx hb hr (fun t ht hW => ⟨0, rfl, (by rw [hV, tw_CH_lengthOfCharacter_h72, if_pos c_7, if_neg c_8, if_pos c_9, if_pos c_30, if_neg c_31, if_pos c_32, if_neg c_35]; first | done | rfl), ht⟩) (fun _ h => by cases h) d_CH_lengthOfCharacter_210
            · refine lv_iload hx hb d_CH_lengthOfCharacter_164 (lv_at hl 1 rfl) ?_
              refine lv_sipush (v := 159) hx hb d_CH_lengthOfCharacter_166 (by decide) ?_
              refine lv_icmp_gt (tgt := 187) hx hb d_CH_lengthOfCharacter_169 (by decide) (fun c_40 => ?_) (fun c_40 => ?_)
              · refine lv_iconst (v := 1) hx hb d_CH_lengthOfCharacter_187 (by decide) ?_
                refine lv_goto (tgt := 192) hx hb d_CH_lengthOfCharacter_188 (by decide) ?_
                refine lv_istore (lv' := [(7, .int 1), (6, .int 0), (5, .int (tw_ST_at b (p0 + 1))), (0, .ref aC), (1, .int p0), (3, .int x3), (4, .int x4)]) hx hb d_CH_lengthOfCharacter_192 hl (by decide) rfl (fun ls hl => ?_)
                refine lv_iload hx hb d_CH_lengthOfCharacter_194 (lv_at hl 1 rfl) ?_
                refine lv_if_ne (tgt := 204) hx hb d_CH_lengthOfCharacter_196 (by decide) (fun c_41 => ?_) (fun c_41 => ?_)
                · exact absurd c_41 (by decide)
                · refine lv_iload hx hb d_CH_lengthOfCharacter_199 (lv_at hl 0 rfl) ?_
                  refine lv_if_eq (tgt := 208) hx hb d_CH_lengthOfCharacter_201 (by decide) (fun c_42 => ?_) (fun c_42 => ?_)
                  · exact absurd c_42 (by decide)
                  · refine lv_iconst (v := 0) hx hb d_CH_lengthOfCharacter_204 (by decide) ?_
                    refine lv_goto (tgt := 210) hx hb d_CH_lengthOfCharacter_205 (by decide) ?_
                    exact W.iret (v := 0) hx hb hr (fun t ht hW => ⟨0, rfl, (by rw [hV, tw_CH_lengthOfCharacter_h72, if_pos c_7, if_neg c_8, if_pos c_9, if_pos c_30, if_pos c_31, if_pos c_40]; first | done | rfl), ht⟩) (fun _ h => by cases h) d_CH_lengthOfCharacter_210
              · refine lv_iload_n hx hb d_CH_lengthOfCharacter_172 rfl (lv_at hl 4 rfl) ?_
                refine lv_sipush (v := 244) hx hb d_CH_lengthOfCharacter_173 (by decide) ?_
                refine lv_icmp_ne (tgt := 191) hx hb d_CH_lengthOfCharacter_176 (by decide) (fun c_43 => ?_) (fun c_43 => ?_)
                · refine lv_iconst (v := 0) hx hb d_CH_lengthOfCharacter_191 (by decide) ?_
                  refine lv_istore (lv' := [(7, .int 0), (6, .int 0), (5, .int (tw_ST_at b (p0 + 1))), (0, .ref aC), (1, .int p0), (3, .int x3), (4, .int x4)]) hx hb d_CH_lengthOfCharacter_192 hl (by decide) rfl (fun ls hl => ?_)
                  refine lv_iload hx hb d_CH_lengthOfCharacter_194 (lv_at hl 1 rfl) ?_
                  refine lv_if_ne (tgt := 204) hx hb d_CH_lengthOfCharacter_196 (by decide) (fun c_44 => ?_) (fun c_44 => ?_)
                  · exact absurd c_44 (by decide)
                  · refine lv_iload hx hb d_CH_lengthOfCharacter_199 (lv_at hl 0 rfl) ?_
                    refine lv_if_eq (tgt := 208) hx hb d_CH_lengthOfCharacter_201 (by decide) (fun c_45 => ?_) (fun c_45 => ?_)
                    · refine lv_iload hx hb d_CH_lengthOfCharacter_208 (lv_at hl 6 rfl) ?_
                      exact W.iret (v := x4) hx hb hr (fun t ht hW => ⟨x4, rfl, (by rw [hV, tw_CH_lengthOfCharacter_h72, if_pos c_7, if_neg c_8, if_pos c_9, if_pos c_30, if_pos c_31, if_neg c_40, if_neg c_43]; first | done | rfl), ht⟩) (fun _ h => by cases h) d_CH_lengthOfCharacter_210
                    · exact absurd c_45 (by decide)
                · refine lv_iload hx hb d_CH_lengthOfCharacter_179 (lv_at hl 1 rfl) ?_
                  refine lv_sipush (v := 143) hx hb d_CH_lengthOfCharacter_181 (by decide) ?_
                  refine lv_icmp_le (tgt := 191) hx hb d_CH_lengthOfCharacter_184 (by decide) (fun c_46 => ?_) (fun c_46 => ?_)
                  · refine lv_iconst (v := 0) hx hb d_CH_lengthOfCharacter_191 (by decide) ?_
                    refine lv_istore (lv' := [(7, .int 0), (6, .int 0), (5, .int (tw_ST_at b (p0 + 1))), (0, .ref aC), (1, .int p0), (3, .int x3), (4, .int x4)]) hx hb d_CH_lengthOfCharacter_192 hl (by decide) rfl (fun ls hl => ?_)
                    refine lv_iload hx hb d_CH_lengthOfCharacter_194 (lv_at hl 1 rfl) ?_
                    refine lv_if_ne (tgt := 204) hx hb d_CH_lengthOfCharacter_196 (by decide) (fun c_47 => ?_) (fun c_47 => ?_)
                    · exact absurd c_47 (by decide)
                    · refine lv_iload hx hb d_CH_lengthOfCharacter_199 (lv_at hl 0 rfl) ?_
                      refine lv_if_eq (tgt := 208) hx hb d_CH_lengthOfCharacter_201 (by decide) (fun c_48 => ?_) (fun c_48 => ?_)
                      · refine lv_iload hx hb d_CH_lengthOfCharacter_208 (lv_at hl 6 rfl) ?_
                        exact W.iret (v := x4) hx hb hr (fun t ht hW => ⟨x4, rfl, (by rw [hV, tw_CH_lengthOfCharacter_h72, if_pos c_7, if_neg c_8, if_pos c_9, if_pos c_30, if_pos c_31, if_neg c_40, if_pos c_43, if_pos c_46]; first | done | rfl), ht⟩) (fun _ h => by cases h) d_CH_lengthOfCharacter_210
                      · exact absurd c_48 (by decide)
                  · refine lv_iconst (v := 1) hx hb d_CH_lengthOfCharacter_187 (by decide) ?_
                    refine lv_goto (tgt := 192) hx hb d_CH_lengthOfCharacter_188 (by decide) ?_
                    refine lv_istore (lv' := [(7, .int 1), (6, .int 0), (5, .int (tw_ST_at b (p0 + 1))), (0, .ref aC), (1, .int p0), (3, .int x3), (4, .int x4)]) hx hb d_CH_lengthOfCharacter_192 hl (by decide) rfl (fun ls hl => ?_)
                    refine lv_iload hx hb d_CH_lengthOfCharacter_194 (lv_at hl 1 rfl) ?_
                    refine lv_if_ne (tgt := 204) hx hb d_CH_lengthOfCharacter_196 (by decide) (fun c_49 => ?_) (fun c_49 => ?_)
                    · exact absurd c_49 (by decide)
                    · refine lv_iload hx hb d_CH_lengthOfCharacter_199 (lv_at hl 0 rfl) ?_
                      refine lv_if_eq (tgt := 208) hx hb d_CH_lengthOfCharacter_201 (by decide) (fun c_50 => ?_) (fun c_50 => ?_)
                      · exact absurd c_50 (by decide)
                      · refine lv_iconst (v := 0) hx hb d_CH_lengthOfCharacter_204 (by decide) ?_
                        refine lv_goto (tgt := 210) hx hb d_CH_lengthOfCharacter_205 (by decide) ?_
                        exact W.iret (v := 0) hx hb hr (fun t ht hW => ⟨0, rfl, (by rw [hV, tw_CH_lengthOfCharacter_h72, if_pos c_7, if_neg c_8, if_pos c_9, if_pos c_30, if_pos c_31, if_neg c_40, if_pos c_43, if_neg c_46]; first | done | rfl), ht⟩) (fun _ h => by cases h) d_CH_lengthOfCharacter_210
          · refine lv_iconst (v := 1) hx hb d_CH_lengthOfCharacter_150 (by decide) ?_
            refine lv_goto (tgt := 155) hx hb d_CH_lengthOfCharacter_151 (by decide) ?_
            refine lv_istore (lv' := [(6, .int 1), (5, .int (tw_ST_at b (p0 + 1))), (0, .ref aC), (1, .int p0), (3, .int x3), (4, .int x4)]) hx hb d_CH_lengthOfCharacter_155 hl (by decide) rfl (fun ls hl => ?_)
            refine lv_iload_n hx hb d_CH_lengthOfCharacter_157 rfl (lv_at hl 4 rfl) ?_
            refine lv_sipush (v := 237) hx hb d_CH_lengthOfCharacter_158 (by decide) ?_
            refine lv_icmp_ne (tgt := 172) hx hb d_CH_lengthOfCharacter_161 (by decide) (fun c_51 => ?_) (fun c_51 => ?_)
            · refine lv_iload_n hx hb d_CH_lengthOfCharacter_172 rfl (lv_at hl 4 rfl) ?_
              refine lv_sipush (v := 244) hx hb d_CH_lengthOfCharacter_173 (by decide) ?_
              refine lv_icmp_ne (tgt := 191) hx hb d_CH_lengthOfCharacter_176 (by decide) (fun c_52 => ?_) (fun c_52 => ?_)
              · refine lv_iconst (v := 0) hx hb d_CH_lengthOfCharacter_191 (by decide) ?_
                refine lv_istore (lv' := [(7, .int 0), (6, .int 1), (5, .int (tw_ST_at b (p0 + 1))), (0, .ref aC), (1, .int p0), (3, .int x3), (4, .int x4)]) hx hb d_CH_lengthOfCharacter_192 hl (by decide) rfl (fun ls hl => ?_)
                refine lv_iload hx hb d_CH_lengthOfCharacter_194 (lv_at hl 1 rfl) ?_
                refine lv_if_ne (tgt := 204) hx hb d_CH_lengthOfCharacter_196 (by decide) (fun c_53 => ?_) (fun c_53 => ?_)
                · refine lv_iconst (v := 0) hx hb d_CH_lengthOfCharacter_204 (by decide) ?_
                  refine lv_goto (tgt := 210) hx hb d_CH_lengthOfCharacter_205 (by decide) ?_
                  exact W.iret (v := 0) hx hb hr (fun t ht hW => ⟨0, rfl, (by rw [hV, tw_CH_lengthOfCharacter_h72, if_pos c_7, if_neg c_8, if_pos c_9, if_neg c_30, if_neg c_51, if_neg c_52]; first | done | rfl), ht⟩) (fun _ h => by cases h) d_CH_lengthOfCharacter_210
                · exact absurd c_53 (by decide)
              · refine lv_iload hx hb d_CH_lengthOfCharacter_179 (lv_at hl 1 rfl) ?_
                refine lv_sipush (v := 143) hx hb d_CH_lengthOfCharacter_181 (by decide) ?_
                refine lv_icmp_le (tgt := 191) hx hb d_CH_lengthOfCharacter_184 (by decide) (fun c_54 => ?_) (fun c_54 => ?_)
                · refine lv_iconst (v := 0) hx hb d_CH_lengthOfCharacter_191 (by decide) ?_
                  refine lv_istore (lv' := [(7, .int 0), (6, .int 1), (5, .int (tw_ST_at b (p0 + 1))), (0, .ref aC), (1, .int p0), (3, .int x3), (4, .int x4)]) hx hb d_CH_lengthOfCharacter_192 hl (by decide) rfl (fun ls hl => ?_)
                  refine lv_iload hx hb d_CH_lengthOfCharacter_194 (lv_at hl 1 rfl) ?_
                  refine lv_if_ne (tgt := 204) hx hb d_CH_lengthOfCharacter_196 (by decide) (fun c_55 => ?_) (fun c_55 => ?_)
                  · refine lv_iconst (v := 0) hx hb d_CH_lengthOfCharacter_204 (by decide) ?_
                    refine lv_goto (tgt := 210) hx hb d_CH_lengthOfCharacter_205 (by decide) ?_
                    exact W.iret (v := 0) hx hb hr (fun t ht hW => ⟨0, rfl, (by rw [hV, tw_CH_lengthOfCharacter_h72, if_pos c_7, if_neg c_8, if_pos c_9, if_neg c_30, if_neg c_51, if_pos c_52, if_pos c_54]; first | done | rfl), ht⟩) (fun _ h => by cases h) d_CH_lengthOfCharacter_210
                  · exact absurd c_55 (by decide)
                · refine lv_iconst (v := 1) hx hb d_CH_lengthOfCharacter_187 (by decide) ?_
                  refine lv_goto (tgt := 192) hx hb d_CH_lengthOfCharacter_188 (by decide) ?_
                  refine lv_istore (lv' := [(7, .int 1), (6, .int 1), (5, .int (tw_ST_at b (p0 + 1))), (0, .ref aC), (1, .int p0), (3, .int x3), (4, .int x4)]) hx hb d_CH_lengthOfCharacter_192 hl (by decide) rfl (fun ls hl => ?_)
                  refine lv_iload hx hb d_CH_lengthOfCharacter_194 (lv_at hl 1 rfl) ?_
                  refine lv_if_ne (tgt := 204) hx hb d_CH_lengthOfCharacter_196 (by decide) (fun c_56 => ?_) (fun c_56 => ?_)
                  · refine lv_iconst (v := 0) hx hb d_CH_lengthOfCharacter_204 (by decide) ?_
                    refine lv_goto (tgt := 210) hx hb d_CH_lengthOfCharacter_205 (by decide) ?_
                    exact W.iret (v := 0) hx hb hr (fun t ht hW => ⟨0, rfl, (by rw [hV, tw_CH_lengthOfCharacter_h72, if_pos c_7, if_neg c_8, if_pos c_9, if_neg c_30, if_neg c_51, if_pos c_52, if_neg c_54]; first | done | rfl), ht⟩) (fun _ h => by cases h) d_CH_lengthOfCharacter_210
                  · exact absurd c_56 (by decide)
            · refine lv_iload hx hb d_CH_lengthOfCharacter_164 (lv_at hl 1 rfl) ?_
              refine lv_sipush (v := 159) hx hb d_CH_lengthOfCharacter_166 (by decide) ?_
              refine lv_icmp_gt (tgt := 187) hx hb d_CH_lengthOfCharacter_169 (by decide) (fun c_57 => ?_) (fun c_57 => ?_)
              · refine lv_iconst (v := 1) hx hb d_CH_lengthOfCharacter_187 (by decide) ?_
                refine lv_goto (tgt := 192) hx hb d_CH_lengthOfCharacter_188 (by decide) ?_
                refine lv_istore (lv' := [(7, .int 1), (6, .int 1), (5, .int (tw_ST_at b (p0 + 1))), (0, .ref aC), (1, .int p0), (3, .int x3), (4, .int x4)]) hx hb d_CH_lengthOfCharacter_192 hl (by decide) rfl (fun ls hl => ?_)
                refine lv_iload hx hb d_CH_lengthOfCharacter_194 (lv_at hl 1 rfl) ?_
                refine lv_if_ne (tgt := 204) hx hb d_CH_lengthOfCharacter_196 (by decide) (fun c_58 => ?_) (fun c_58 => ?_)
                · refine lv_iconst (v := 0) hx hb d_CH_lengthOfCharacter_204 (by decide) ?_
                  refine lv_goto (tgt := 210) hx hb d_CH_lengthOfCharacter_205 (by decide) ?_
                  exact W.iret (v := 0) hx hb hr (fun t ht hW => ⟨0, rfl, (by rw [hV, tw_CH_lengthOfCharacter_h72, if_pos c_7, if_neg c_8, if_pos c_9, if_neg c_30, if_pos c_51, if_pos c_57]; first | done | rfl), ht⟩) (fun _ h => by cases h) d_CH_lengthOfCharacter_210
                · exact absurd c_58 (by decide)
              · refine lv_iload_n hx hb d_CH_lengthOfCharacter_172 rfl (lv_at hl 4 rfl) ?_
                refine lv_sipush (v := 244) hx hb d_CH_lengthOfCharacter_173 (by decide) ?_
                refine lv_icmp_ne (tgt := 191) hx hb d_CH_lengthOfCharacter_176 (by decide) (fun c_59 => ?_) (fun c_59 => ?_)
                · refine lv_iconst (v := 0) hx hb d_CH_lengthOfCharacter_191 (by decide) ?_
                  refine lv_istore (lv' := [(7, .int 0), (6, .int 1), (5, .int (tw_ST_at b (p0 + 1))), (0, .ref aC), (1, .int p0), (3, .int x3), (4, .int x4)]) hx hb d_CH_lengthOfCharacter_192 hl (by decide) rfl (fun ls hl => ?_)
                  refine lv_iload hx hb d_CH_lengthOfCharacter_194 (lv_at hl 1 rfl) ?_
                  refine lv_if_ne (tgt := 204) hx hb d_CH_lengthOfCharacter_196 (by decide) (fun c_60 => ?_) (fun c_60 => ?_)
                  · refine lv_iconst (v := 0) hx hb d_CH_lengthOfCharacter_204 (by decide) ?_
                    refine lv_goto (tgt := 210) hx hb d_CH_lengthOfCharacter_205 (by decide) ?_
                    exact W.iret (v := 0) hx hb hr (fun t ht hW => ⟨0, rfl, (by rw [hV, tw_CH_lengthOfCharacter_h72, if_pos c_7, if_neg c_8, if_pos c_9, if_neg c_30, if_pos c_51, if_neg c_57, if_neg c_59]; first | done | rfl), ht⟩) (fun _ h => by cases h) d_CH_lengthOfCharacter_210
                  · exact absurd c_60 (by decide)
                · refine lv_iload hx hb d_CH_lengthOfCharacter_179 (lv_at hl 1 rfl) ?_
                  refine lv_sipush (v := 143) hx hb d_CH_lengthOfCharacter_181 (by decide) ?_
                  refine lv_icmp_le (tgt := 191) hx hb d_CH_lengthOfCharacter_184 (by decide) (fun c_61 => ?_) (fun c_61 => ?_)
                  · refine lv_iconst (v := 0) hx hb d_CH_lengthOfCharacter_191 (by decide) ?_
                    refine lv_istore (lv' := [(7, .int 0), (6, .int 1), (5, .int (tw_ST_at b (p0 + 1))), (0, .ref aC), (1, .int p0), (3, .int x3), (4, .int x4)]) hx hb d_CH_lengthOfCharacter_192 hl (by decide) rfl (fun ls hl => ?_)
                    refine lv_iload hx hb d_CH_lengthOfCharacter_194 (lv_at hl 1 rfl) ?_
                    refine lv_if_ne (tgt := 204) hx hb d_CH_lengthOfCharacter_196 (by decide) (fun c_62 => ?_) (fun c_62 => ?_)
                    · refine lv_iconst (v := 0) hx hb d_CH_lengthOfCharacter_204 (by decide) ?_
                      refine lv_goto (tgt := 210) hx hb d_CH_lengthOfCharacter_205 (by decide) ?_
                      exact W.iret (v := 0) hx hb hr (fun t ht hW => ⟨0, rfl, (by rw [hV, tw_CH_lengthOfCharacter_h72, if_pos c_7, if_neg c_8, if_pos c_9, if_neg c_30, if_pos c_51, if_neg c_57, if_pos c_59, if_pos c_61]; first | done | rfl), ht⟩) (fun _ h => by cases h) d_CH_lengthOfCharacter_210
                    · exact absurd c_62 (by decide)
                  · refine lv_iconst (v := 1) hx hb d_CH_lengthOfCharacter_187 (by decide) ?_
                    refine lv_goto (tgt := 192) hx hb d_CH_lengthOfCharacter_188 (by decide) ?_
                    refine lv_istore (lv' := [(7, .int 1), (6, .int 1), (5, .int (tw_ST_at b (p0 + 1))), (0, .ref aC), (1, .int p0), (3, .int x3), (4, .int x4)]) hx hb d_CH_lengthOfCharacter_192 hl (by decide) rfl (fun ls hl => ?_)
                    refine lv_iload hx hb d_CH_lengthOfCharacter_194 (lv_at hl 1 rfl) ?_
                    refine lv_if_ne (tgt := 204) hx hb d_CH_lengthOfCharacter_196 (by decide) (fun c_63 => ?_) (fun c_63 => ?_)
                    · refine lv_iconst (v := 0) hx hb d_CH_lengthOfCharacter_204 (by decide) ?_
                      refine lv_goto (tgt := 210) hx hb d_CH_lengthOfCharacter_205 (by decide) ?_
                      exact W.iret (v := 0) hx hb hr (fun t ht hW => ⟨0, rfl, (by rw [hV, tw_CH_lengthOfCharacter_h72, if_pos c_7, if_neg c_8, if_pos c_9, if_neg c_30, if_pos c_51, if_neg c_57, if_pos c_59, if_neg c_61]; first | done | rfl), ht⟩) (fun _ h => by cases h) d_CH_lengthOfCharacter_210
                    · exact absurd c_63 (by decide)
      · refine lv_iload hx hb d_CH_lengthOfCharacter_127 (lv_at hl 0 rfl) ?_
        refine lv_sipush (v := 160) hx hb d_CH_lengthOfCharacter_129 (by decide) ?_
        refine lv_icmp_lt (tgt := 150) hx hb d_CH_lengthOfCharacter_132 (by decide) (fun c_64 => ?_) (fun c_64 => ?_)
        · refine lv_iconst (v := 1) hx hb d_CH_lengthOfCharacter_150 (by decide) ?_
          refine lv_goto (tgt := 155) hx hb d_CH_lengthOfCharacter_151 (by decide) ?_
          refine lv_istore (lv' := [(6, .int 1), (5, .int (tw_ST_at b (p0 + 1))), (0, .ref aC), (1, .int p0), (3, .int x3), (4, .int x4)]) hx hb d_CH_lengthOfCharacter_155 hl (by decide) rfl (fun ls hl => ?_)
          refine lv_iload_n hx hb d_CH_lengthOfCharacter_157 rfl (lv_at hl 4 rfl) ?_
          refine lv_sipush (v := 237) hx hb d_CH_lengthOfCharacter_158 (by decide) ?_
          refine lv_icmp_ne (tgt := 172) hx hb d_CH_lengthOfCharacter_161 (by decide) (fun c_65 => ?_) (fun c_65 => ?_)
          · refine lv_iload_n hx hb d_CH_lengthOfCharacter_172 rfl (lv_at hl 4 rfl) ?_
            refine lv_sipush (v := 244) hx hb d_CH_lengthOfCharacter_173 (by decide) ?_
            refine lv_icmp_ne (tgt := 191) hx hb d_CH_lengthOfCharacter_176 (by decide) (fun c_66 => ?_) (fun c_66 => ?_)
            · refine lv_iconst (v := 0) hx hb d_CH_lengthOfCharacter_191 (by decide) ?_
              refine lv_istore (lv' := [(7, .int 0), (6, .int 1), (5, .int (tw_ST_at b (p0 + 1))), (0, .ref aC), (1, .int p0), (3, .int x3), (4, .int x4)]) hx hb d_CH_lengthOfCharacter_192 hl (by decide) rfl (fun ls hl => ?_)
              refine lv_iload hx hb d_CH_lengthOfCharacter_194 (lv_at hl 1 rfl) ?_
              refine lv_if_ne (tgt := 204) hx hb d_CH_lengthOfCharacter_196 (by decide) (fun c_67 => ?_) (fun c_67 => ?_)
              · refine lv_iconst (v := 0) hx hb d_CH_lengthOfCharacter_204 (by decide) ?_
                refine lv_goto (tgt := 210) hx hb d_CH_lengthOfCharacter_205 (by decide) ?_
                exact W.iret (v := 0) hx hb hr (fun t ht hW => ⟨0, rfl, (by rw [hV, tw_CH_lengthOfCharacter_h72, if_pos c_7, if_pos c_8, if_pos c_64, if_neg c_65, if_neg c_66]; first | done | rfl), ht⟩) (fun _ h => by cases h) d_CH_lengthOfCharacter_210
              · exact absurd c_67 (by decide)
            · refine lv_iload hx hb d_CH_lengthOfCharacter_179 (lv_at hl 1 rfl) ?_
              refine lv_sipush (v := 143) hx hb d_CH_lengthOfCharacter_181 (by decide) ?_
              refine lv_icmp_le (tgt := 191) hx hb d_CH_lengthOfCharacter_184 (by decide) (fun c_68 => ?_) (fun c_68 => ?_)
              · refine lv_iconst (v := 0) hx hb d_CH_lengthOfCharacter_191 (by decide) ?_
                refine lv_istore (lv' := [(7, .int 0), (6, .int 1), (5, .int (tw_ST_at b (p0 + 1))), (0, .ref aC), (1, .int p0), (3, .int x3), (4, .int x4)]) hx hb d_CH_lengthOfCharacter_192 hl (by decide) rfl (fun ls hl => ?_)
                refine lv_iload hx hb d_CH_lengthOfCharacter_194 (lv_at hl 1 rfl) ?_
                refine lv_if_ne (tgt := 204) hx hb d_CH_lengthOfCharacter_196 (by decide) (fun c_69 => ?_) (fun c_69 => ?_)
                · refine lv_iconst (v := 0) hx hb d_CH_lengthOfCharacter_204 (by decide) ?_
                  refine lv_goto (tgt := 210) hx hb d_CH_lengthOfCharacter_205 (by decide) ?_
                  exact W.iret (v := 0) hx hb hr (fun t ht hW => ⟨0, rfl, (by rw [hV, tw_CH_lengthOfCharacter_h72, if_pos c_7, if_pos c_8, if_pos c_64, if_neg c_65, if_pos c_66, if_pos c_68]; first | done | rfl), ht⟩) (fun _ h => by cases h) d_CH_lengthOfCharacter_210
                · exact absurd c_69 (by decide)
              · refine lv_iconst (v := 1) hx hb d_CH_lengthOfCharacter_187 (by decide) ?_
                refine lv_goto (tgt := 192) hx hb d_CH_lengthOfCharacter_188 (by decide) ?_
                refine lv_istore (lv' := [(7, .int 1), (6, .int 1), (5, .int (tw_ST_at b (p0 + 1))), (0, .ref aC), (1, .int p0), (3, .int x3), (4, .int x4)]) hx hb d_CH_lengthOfCharacter_192 hl (by decide) rfl (fun ls hl => ?_)
                refine lv_iload hx hb d_CH_lengthOfCharacter_194 (lv_at hl 1 rfl) ?_
                refine lv_if_ne (tgt := 204) hx hb d_CH_lengthOfCharacter_196 (by decide) (fun c_70 => ?_) (fun c_70 => ?_)
                · refine lv_iconst (v := 0) hx hb d_CH_lengthOfCharacter_204 (by decide) ?_
                  refine lv_goto (tgt := 210) hx hb d_CH_lengthOfCharacter_205 (by decide) ?_
                  exact W.iret (v := 0) hx hb hr (fun t ht hW => ⟨0, rfl, (by rw [hV, tw_CH_lengthOfCharacter_h72, if_pos c_7, if_pos c_8, if_pos c_64, if_neg c_65, if_pos c_66, if_neg c_68]; first | done | rfl), ht⟩) (fun _ h => by cases h) d_CH_lengthOfCharacter_210
                · exact absurd c_70 (by decide)
          · refine lv_iload hx hb d_CH_lengthOfCharacter_164 (lv_at hl 1 rfl) ?_
            refine lv_sipush (v := 159) hx hb d_CH_lengthOfCharacter_166 (by decide) ?_
            refine lv_icmp_gt (tgt := 187) hx hb d_CH_lengthOfCharacter_169 (by decide) (fun c_71 => ?_) (fun c_71 => ?_)
            · refine lv_iconst (v := 1) hx hb d_CH_lengthOfCharacter_187 (by decide) ?_
              refine lv_goto (tgt := 192) hx hb d_CH_lengthOfCharacter_188 (by decide) ?_
              refine lv_istore (lv' := [(7, .int 1), (6, .int 1), (5, .int (tw_ST_at b (p0 + 1))), (0, .ref aC), (1, .int p0), (3, .int x3), (4, .int x4)]) hx hb d_CH_lengthOfCharacter_192 hl (by decide) rfl (fun ls hl => ?_)
              refine lv_iload hx hb d_CH_lengthOfCharacter_194 (lv_at hl 1 rfl) ?_
              refine lv_if_ne (tgt := 204) hx hb d_CH_lengthOfCharacter_196 (by decide) (fun c_72 => ?_) (fun c_72 => ?_)
              · refine lv_iconst (v := 0) hx hb d_CH_lengthOfCharacter_204 (by decide) ?_
                refine lv_goto (tgt := 210) hx hb d_CH_lengthOfCharacter_205 (by decide) ?_
                exact W.iret (v := 0) hx hb hr (fun t ht hW => ⟨0, rfl, (by rw [hV, tw_CH_lengthOfCharacter_h72, if_pos c_7, if_pos c_8, if_pos c_64, if_pos c_65, if_pos c_71]; first | done | rfl), ht⟩) (fun _ h => by cases h) d_CH_lengthOfCharacter_210
              · exact absurd c_72 (by decide)
            · refine lv_iload_n hx hb d_CH_lengthOfCharacter_172 rfl (lv_at hl 4 rfl) ?_
              refine lv_sipush (v := 244) hx hb d_CH_lengthOfCharacter_173 (by decide) ?_
              refine lv_icmp_ne (tgt := 191) hx hb d_CH_lengthOfCharacter_176 (by decide) (fun c_73 => ?_) (fun c_73 => ?_)
              · refine lv_iconst (v := 0) hx hb d_CH_lengthOfCharacter_191 (by decide) ?_
                refine lv_istore (lv' := [(7, .int 0), (6, .int 1), (5, .int (tw_ST_at b (p0 + 1))), (0, .ref aC), (1, .int p0), (3, .int x3), (4, .int x4)]) hx hb d_CH_lengthOfCharacter_192 hl (by decide) rfl (fun ls hl => ?_)
                refine lv_iload hx hb d_CH_lengthOfCharacter_194 (lv_at hl 1 rfl) ?_
                refine lv_if_ne (tgt := 204) hx hb d_CH_lengthOfCharacter_196 (by decide) (fun c_74 => ?_) (fun c_74 => ?_)
                · refine lv_iconst (v := 0) hx hb d_CH_lengthOfCharacter_204 (by decide) ?_
                  refine lv_goto (tgt := 210) hx hb d_CH_lengthOfCharacter_205 (by decide) ?_
                  exact W.iret (v := 0) hx hb hr (fun t ht hW => ⟨0, rfl, (by rw [hV, tw_CH_lengthOfCharacter_h72, if_pos c_7, if_pos c_8, if_pos c_64, if_pos c_65, if_neg c_71, if_neg c_73]; first | done | rfl), ht⟩) (fun _ h => by cases h) d_CH_lengthOfCharacter_210
                · exact absurd c_74 (by decide)
              · refine lv_iload hx hb d_CH_lengthOfCharacter_179 (lv_at hl 1 rfl) ?_
                refine lv_sipush (v := 143) hx hb d_CH_lengthOfCharacter_181 (by decide) ?_
                refine lv_icmp_le (tgt := 191) hx hb d_CH_lengthOfCharacter_184 (by decide) (fun c_75 => ?_) (fun c_75 => ?_)
                · refine lv_iconst (v := 0) hx hb d_CH_lengthOfCharacter_191 (by decide) ?_
                  refine lv_istore (lv' := [(7, .int 0), (6, .int 1), (5, .int (tw_ST_at b (p0 + 1))), (0, .ref aC), (1, .int p0), (3, .int x3), (4, .int x4)]) hx hb d_CH_lengthOfCharacter_192 hl (by decide) rfl (fun ls hl => ?_)
                  refine lv_iload hx hb d_CH_lengthOfCharacter_194 (lv_at hl 1 rfl) ?_
                  refine lv_if_ne (tgt := 204) hx hb d_CH_lengthOfCharacter_196 (by decide) (fun c_76 => ?_) (fun c_76 => ?_)
                  · refine lv_iconst (v := 0) hx hb d_CH_lengthOfCharacter_204 (by decide) ?_
                    refine lv_goto (tgt := 210) hx hb d_CH_lengthOfCharacter_205 (by decide) ?_
                    exact W.iret (v := 0) hx hb hr (fun t ht hW => ⟨0, rfl, (by rw [hV, tw_CH_lengthOfCharacter_h72, if_pos c_7, if_pos c_8, if_pos c_64, if_pos c_65, if_neg c_71, if_pos c_73, if_pos c_75]; first | done | rfl), ht⟩) (fun _ h => by cases h) d_CH_lengthOfCharacter_210
                  · exact absurd c_76 (by decide)
                · refine lv_iconst (v := 1) hx hb d_CH_lengthOfCharacter_187 (by decide) ?_
                  refine lv_goto (tgt := 192) hx hb d_CH_lengthOfCharacter_188 (by decide) ?_
                  refine lv_istore (lv' := [(7, .int 1), (6, .int 1), (5, .int (tw_ST_at b (p0 + 1))), (0, .ref aC), (1, .int p0), (3, .int x3), (4, .int x4)]) hx hb d_CH_lengthOfCharacter_192 hl (by decide) rfl (fun ls hl => ?_)
                  refine lv_iload hx hb d_CH_lengthOfCharacter_194 (lv_at hl 1 rfl) ?_
                  refine lv_if_ne (tgt := 204) hx hb d_CH_lengthOfCharacter_196 (by decide) (fun c_77 => ?_) (fun c_77 => ?_)
                  · refine lv_iconst (v := 0) hx hb d_CH_lengthOfCharacter_204 (by decide) ?_
                    refine lv_goto (tgt := 210) hx hb d_CH_lengthOfCharacter_205 (by decide) ?_
                    exact W.iret (v := 0) hx hb hr (fun t ht hW => ⟨0, rfl, (by rw [hV, tw_CH_lengthOfCharacter_h72, if_pos c_7, if_pos c_8, if_pos c_64, if_pos c_65, if_neg c_71, if_pos c_73, if_neg c_75]; first | done | rfl), ht⟩) (fun _ h => by cases h) d_CH_lengthOfCharacter_210
                  · exact absurd c_77 (by decide)
        · refine lv_iload_n hx hb d_CH_lengthOfCharacter_135 rfl (lv_at hl 3 rfl) ?_
          refine lv_sipush (v := 240) hx hb d_CH_lengthOfCharacter_136 (by decide) ?_
          refine lv_icmp_ne (tgt := 154) hx hb d_CH_lengthOfCharacter_139 (by decide) (fun c_78 => ?_) (fun c_78 => ?_)
          · refine lv_iconst (v := 0) hx hb d_CH_lengthOfCharacter_154 (by decide) ?_
            refine lv_istore (lv' := [(6, .int 0), (5, .int (tw_ST_at b (p0 + 1))), (0, .ref aC), (1, .int p0), (3, .int x3), (4, .int x4)]) hx hb d_CH_lengthOfCharacter_155 hl (by decide) rfl (fun ls hl => ?_)
            refine lv_iload_n hx hb d_CH_lengthOfCharacter_157 rfl (lv_at hl 4 rfl) ?_
            refine lv_sipush (v := 237) hx hb d_CH_lengthOfCharacter_158 (by decide) ?_
            refine lv_icmp_ne (tgt := 172) hx hb d_CH_lengthOfCharacter_161 (by decide) (fun c_79 => ?_) (fun c_79 => ?_)
            · refine lv_iload_n hx hb d_CH_lengthOfCharacter_172 rfl (lv_at hl 4 rfl) ?_
              refine lv_sipush (v := 244) hx hb d_CH_lengthOfCharacter_173 (by decide) ?_
              refine lv_icmp_ne (tgt := 191) hx hb d_CH_lengthOfCharacter_176 (by decide) (fun c_80 => ?_) (fun c_80 => ?_)
              · refine lv_iconst (v := 0) hx hb d_CH_lengthOfCharacter_191 (by decide) ?_
                refine lv_istore (lv' := [(7, .int 0), (6, .int 0), (5, .int (tw_ST_at b (p0 + 1))), (0, .ref aC), (1, .int p0), (3, .int x3), (4, .int x4)]) hx hb d_CH_lengthOfCharacter_192 hl (by decide) rfl (fun ls hl => ?_)
                refine lv_iload hx hb d_CH_lengthOfCharacter_194 (lv_at hl 1 rfl) ?_
                refine lv_if_ne (tgt := 204) hx hb d_CH_lengthOfCharacter_196 (by decide) (fun c_81 => ?_) (fun c_81 => ?_)
                · exact absurd c_81 (by decide)
                · refine lv_iload hx hb d_CH_lengthOfCharacter_199 (lv_at hl 0 rfl) ?_
                  refine lv_if_eq (tgt := 208) hx hb d_CH_lengthOfCharacter_201 (by decide) (fun c_82 => ?_) (fun c_82 => ?_)
                  · refine lv_iload hx hb d_CH_lengthOfCharacter_208 (lv_at hl 6 rfl) ?_
                    exact W.iret (v := x4) hx hb hr (fun t ht hW => ⟨x4, rfl, (by rw [hV, tw_CH_lengthOfCharacter_h72, if_pos c_7, if_pos c_8, if_neg c_64, if_neg c_78, if_neg c_79, if_neg c_80]; first | done | rfl), ht⟩) (fun _ h => by cases h) d_CH_lengthOfCharacter_210
                  · exact absurd c_82 (by decide)
              · refine lv_iload hx hb d_CH_lengthOfCharacter_179 (lv_at hl 1 rfl) ?_
                refine lv_sipush (v := 143) hx hb d_CH_lengthOfCharacter_181 (by decide) ?_
                refine lv_icmp_le (tgt := 191) hx hb d_CH_lengthOfCharacter_184 (by decide) (fun c_83 => ?_) (fun c_83 => ?_)
                · refine lv_iconst (v := 0) hx hb d_CH_lengthOfCharacter_191 (by decide) ?_
                  refine lv_istore (lv' := [(7, .int 0), (6, .int 0), (5, .int (tw_ST_at b (p0 + 1))), (0, .ref aC), (1, .int p0), (3, .int x3), (4, .int x4)]) hx hb d_CH_lengthOfCharacter_192 hl (by decide) rfl (fun ls hl => ?_)
                  refine lv_iload hx hb d_CH_lengthOfCharacter_194 (lv_at hl 1 rfl) ?_
                  refine lv_if_ne (tgt := 204) hx hb d_CH_lengthOfCharacter_196 (by decide) (fun c_84 => ?_) (fun c_84 => ?_)
                  · exact absurd c_84 (by decide)
                  · refine lv_iload hx hb d_CH_lengthOfCharacter_199 (lv_at hl 0 rfl) ?_
                    refine lv_if_eq (tgt := 208) hx hb d_CH_lengthOfCharacter_201 (by decide) (fun c_85 => ?_) (fun c_85 => ?_)
                    · refine lv_iload hx hb d_CH_lengthOfCharacter_208 (lv_at hl 6 rfl) ?_
                      exact W.iret (v := x4) hx hb hr (fun t ht hW => ⟨x4, rfl, (by rw [hV, tw_CH_lengthOfCharacter_h72, if_pos c_7, if_pos c_8, if_neg c_64, if_neg c_78, if_neg c_79, if_pos c_80, if_pos c_83]; first | done | rfl), ht⟩) (fun _ h => by cases h) d_CH_lengthOfCharacter_210
                    · exact absurd c_85 (by decide)
                · refine lv_iconst (v := 1) hx hb d_CH_lengthOfCharacter_187 (by decide) ?_
                  refine lv_goto (tgt := 192) hx hb d_CH_lengthOfCharacter_188 (by decide) ?_
                  refine lv_istore (lv' := [(7, .int 1), (6, .int 0), (5, .int (tw_ST_at b (p0 + 1))), (0, .ref aC), (1, .int p0), (3, .int x3), (4, .int x4)]) hx hb d_CH_lengthOfCharacter_192 hl (by decide) rfl (fun ls hl => ?_)
                  refine lv_iload hx hb d_CH_lengthOfCharacter_194 (lv_at hl 1 rfl) ?_
                  refine lv_if_ne (tgt := 204) hx hb d_CH_lengthOfCharacter_196 (by decide) (fun c_86 => ?_) (fun c_86 => ?_)
                  · exact absurd c_86 (by decide)
                  · refine lv_iload hx hb d_CH_lengthOfCharacter_199 (lv_at hl 0 rfl) ?_
                    refine lv_if_eq (tgt := 208) hx hb d_CH_lengthOfCharacter_201 (by decide) (fun c_87 => ?_) (fun c_87 => ?_)
                    · exact absurd c_87 (by decide)
                    · refine lv_iconst (v := 0) hx hb d_CH_lengthOfCharacter_204 (by decide) ?_
                      refine lv_goto (tgt := 210) hx hb d_CH_lengthOfCharacter_205 (by decide) ?_
                      exact W.iret (v := 0) hx hb hr (fun t ht hW => ⟨0, rfl, (by rw [hV, tw_CH_lengthOfCharacter_h72, if_pos c_7, if_pos c_8, if_neg c_64, if_neg c_78, if_neg c_79, if_pos c_80, if_neg c_83]; first | done | rfl), ht⟩) (fun _ h => by cases h) d_CH_lengthOfCharacter_210
            · refine lv_iload hx hb d_CH_lengthOfCharacter_164 (lv_at hl 1 rfl) ?_
              refine lv_sipush (v := 159) hx hb d_CH_lengthOfCharacter_166 (by decide) ?_
              refine lv_icmp_gt (tgt := 187) hx hb d_CH_lengthOfCharacter_169 (by decide) (fun c_88 => ?_) (fun c_88 => ?_)
              · refine lv_iconst (v := 1) hx hb d_CH_lengthOfCharacter_187 (by decide) ?_
                refine lv_goto (tgt := 192) hx hb d_CH_lengthOfCharacter_188 (by decide) ?_
                refine lv_istore (lv' := [(7, .int 1), (6, .int 0), (5, .int (tw_ST_at b (p0 + 1))), (0, .ref aC), (1, .int p0), (3, .int x3), (4, .int x4)]) hx hb d_CH_lengthOfCharacter_192 hl (by decide) rfl (fun ls hl => ?_)
                refine lv_iload hx hb d_CH_lengthOfCharacter_194 (lv_at hl 1 rfl) ?_
                refine lv_if_ne (tgt := 204) hx hb d_CH_lengthOfCharacter_196 (by decide) (fun c_89 => ?_) (fun c_89 => ?_)
                · exact absurd c_89 (by decide)
                · refine lv_iload hx hb d_CH_lengthOfCharacter_199 (lv_at hl 0 rfl) ?_
                  refine lv_if_eq (tgt := 208) hx hb d_CH_lengthOfCharacter_201 (by decide) (fun c_90 => ?_) (fun c_90 => ?_)
                  · exact absurd c_90 (by decide)
                  · refine lv_iconst (v := 0) hx hb d_CH_lengthOfCharacter_204 (by decide) ?_
                    refine lv_goto (tgt := 210) hx hb d_CH_lengthOfCharacter_205 (by decide) ?_
                    exact W.iret (v := 0) hx hb hr (fun t ht hW => ⟨0, rfl, (by rw [hV, tw_CH_lengthOfCharacter_h72, if_pos c_7, if_pos c_8, if_neg c_64, if_neg c_78, if_pos c_79, if_pos c_88]; first | done | rfl), ht⟩) (fun _ h => by cases h) d_CH_lengthOfCharacter_210
              · refine lv_iload_n hx hb d_CH_lengthOfCharacter_172 rfl (lv_at hl 4 rfl) ?_
                refine lv_sipush (v := 244) hx hb d_CH_lengthOfCharacter_173 (by decide) ?_
                refine lv_icmp_ne (tgt := 191) hx hb d_CH_lengthOfCharacter_176 (by decide) (fun c_91 => ?_) (fun c_91 => ?_)
                · refine lv_iconst (v := 0) hx hb d_CH_lengthOfCharacter_191 (by decide) ?_
                  refine lv_istore (lv' := [(7, .int 0), (6, .int 0), (5, .int (tw_ST_at b (p0 + 1))), (0, .ref aC), (1, .int p0), (3, .int x3), (4, .int x4)]) hx hb d_CH_lengthOfCharacter_192 hl (by decide) rfl (fun ls hl => ?_)
                  refine lv_iload hx hb d_CH_lengthOfCharacter_194 (lv_at hl 1 rfl) ?_
                  refine lv_if_ne (tgt := 204) hx hb d_CH_lengthOfCharacter_196 (by decide) (fun c_92 => ?_) (fun c_92 => ?_)
                  · exact absurd c_92 (by decide)
                  · refine lv_iload hx hb d_CH_lengthOfCharacter_199 (lv_at hl 0 rfl) ?_
                    refine lv_if_eq (tgt := 208) hx hb d_CH_lengthOfCharacter_201 (by decide) (fun c_93 => ?_) (fun c_93 => ?_)
                    · refine lv_iload hx hb d_CH_lengthOfCharacter_208 (lv_at hl 6 rfl) ?_
                      exact W.iret (v := x4) hx hb hr (fun t ht hW => ⟨x4, rfl, (by rw [hV, tw_CH_lengthOfCharacter_h72, if_pos c_7, if_pos c_8, if_neg c_64, if_neg c_78, if_pos c_79, if_neg c_88, if_neg c_91]; first | done | rfl), ht⟩) (fun _ h => by cases h) d_CH_lengthOfCharacter_210
                    · exact absurd c_93 (by decide)
                · refine lv_iload hx hb d_CH_lengthOfCharacter_179 (lv_at hl 1 rfl) ?_
                  refine lv_sipush (v := 143) hx hb d_CH_lengthOfCharacter_181 (by decide) ?_
                  refine lv_icmp_le (tgt := 191) hx hb d_CH_lengthOfCharacter_184 (by decide) (fun c_94 => ?_) (fun c_94 => ?_)
                  · refine lv_iconst (v := 0) hx hb d_CH_lengthOfCharacter_191 (by decide) ?_
                    refine lv_istore (lv' := [(7, .int 0), (6, .int 0), (5, .int (tw_ST_at b (p0 + 1))), (0, .ref aC), (1, .int p0), (3, .int x3), (4, .int x4)]) hx hb d_CH_lengthOfCharacter_192 hl (by decide) rfl (fun ls hl => ?_)
                    refine lv_iload hx hb d_CH_lengthOfCharacter_194 (lv_at hl 1 rfl) ?_
                    refine lv_if_ne (tgt := 204) hx hb d_CH_lengthOfCharacter_196 (by decide) (fun c_95 => ?_) (fun c_95 => ?_)
                    · exact absurd c_95 (by decide)
                    · refine lv_iload hx hb d_CH_lengthOfCharacter_199 (lv_at hl 0 rfl) ?_
                      refine lv_if_eq (tgt := 208) hx hb d_CH_lengthOfCharacter_201 (by decide) (fun c_96 => ?_) (fun c_96 => ?_)
                      · refine lv_iload hx hb d_CH_lengthOfCharacter_208 (lv_at hl 6 rfl) ?_
                        exact W.iret (v := x4) hx hb hr (fun t ht hW => ⟨x4, rfl, (by rw [hV, tw_CH_lengthOfCharacter_h72, if_pos c_7, if_pos c_8, if_neg c_64, if_neg c_78, if_pos c_79, if_neg c_88, if_pos c_91, if_pos c_94]; first | done | rfl), ht⟩) (fun _ h => by cases h) d_CH_lengthOfCharacter_210
                      · exact absurd c_96 (by decide)
                  · refine lv_iconst (v := 1) hx hb d_CH_lengthOfCharacter_187 (by decide) ?_
                    refine lv_goto (tgt := 192) hx hb d_CH_lengthOfCharacter_188 (by decide) ?_
                    refine lv_istore (lv' := [(7, .int 1), (6, .int 0), (5, .int (tw_ST_at b (p0 + 1))), (0, .ref aC), (1, .int p0), (3, .int x3), (4, .int x4)]) hx hb d_CH_lengthOfCharacter_192 hl (by decide) rfl (fun ls hl => ?_)
                    refine lv_iload hx hb d_CH_lengthOfCharacter_194 (lv_at hl 1 rfl) ?_
                    refine lv_if_ne (tgt := 204) hx hb d_CH_lengthOfCharacter_196 (by decide) (fun c_97 => ?_) (fun c_97 => ?_)
                    · exact absurd c_97 (by decide)
                    · refine lv_iload hx hb d_CH_lengthOfCharacter_199 (lv_at hl 0 rfl) ?_
                      refine lv_if_eq (tgt := 208) hx hb d_CH_lengthOfCharacter_201 (by decide) (fun c_98 => ?_) (fun c_98 => ?_)
                      · exact absurd c_98 (by decide)
                      · refine lv_iconst (v := 0) hx hb d_CH_lengthOfCharacter_204 (by decide) ?_
                        refine lv_goto (tgt := 210) hx hb d_CH_lengthOfCharacter_205 (by decide) ?_
                        exact W.iret (v := 0) hx hb hr (fun t ht hW => ⟨0, rfl, (by rw [hV, tw_CH_lengthOfCharacter_h72, if_pos c_7, if_pos c_8, if_neg c_64, if_neg c_78, if_pos c_79, if_neg c_88, if_pos c_91, if_neg c_94]; first | done | rfl), ht⟩) (fun _ h => by cases h) d_CH_lengthOfCharacter_210
          · refine lv_iload hx hb d_CH_lengthOfCharacter_142 (lv_at hl 0 rfl) ?_
            refine lv_sipush (v := 144) hx hb d_CH_lengthOfCharacter_144 (by decide) ?_
            refine lv_icmp_ge (tgt := 154) hx hb d_CH_lengthOfCharacter_147 (by decide) (fun c_99 => ?_) (fun c_99 => ?_)
            · refine lv_iconst (v := 0) hx hb d_CH_lengthOfCharacter_154 (by decide) ?_
              refine lv_istore (lv' := [(6, .int 0), (5, .int (tw_ST_at b (p0 + 1))), (0, .ref aC), (1, .int p0), (3, .int x3), (4, .int x4)]) hx hb d_CH_lengthOfCharacter_155 hl (by decide) rfl (fun ls hl => ?_)
              refine lv_iload_n hx hb d_CH_lengthOfCharacter_157 rfl (lv_at hl 4 rfl) ?_
              refine lv_sipush (v := 237) hx hb d_CH_lengthOfCharacter_158 (by decide) ?_
              refine lv_icmp_ne (tgt := 172) hx hb d_CH_lengthOfCharacter_161 (by decide) (fun c_100 => ?_) (fun c_100 => ?_)
              · refine lv_iload_n hx hb d_CH_lengthOfCharacter_172 rfl (lv_at hl 4 rfl) ?_
                refine lv_sipush (v := 244) hx hb d_CH_lengthOfCharacter_173 (by decide) ?_
                refine lv_icmp_ne (tgt := 191) hx hb d_CH_lengthOfCharacter_176 (by decide) (fun c_101 => ?_) (fun c_101 => ?_)
                · refine lv_iconst (v := 0) hx hb d_CH_lengthOfCharacter_191 (by decide) ?_
                  refine lv_istore (lv' := [(7, .int 0), (6, .int 0), (5, .int (tw_ST_at b (p0 + 1))), (0, .ref aC), (1, .int p0), (3, .int x3), (4, .int x4)]) hx hb d_CH_lengthOfCharacter_192 hl (by decide) rfl (fun ls hl => ?_)
                  refine lv_iload hx hb d_CH_lengthOfCharacter_194 (lv_at hl 1 rfl) ?_
                  refine lv_if_ne (tgt := 204) hx hb d_CH_lengthOfCharacter_196 (by decide) (fun c_102 => ?_) (fun c_102 => ?_)
                  · exact absurd c_102 (by decide)
                  · refine lv_iload hx hb d_CH_lengthOfCharacter_199 (lv_at hl 0 rfl) ?_
                    refine lv_if_eq (tgt := 208) hx hb d_CH_lengthOfCharacter_201 (by decide) (fun c_103 => ?_) (fun c_103 => ?_)
                    · refine lv_iload hx hb d_CH_lengthOfCharacter_208 (lv_at hl 6 rfl) ?_
                      exact W.iret (v := x4) hx hb hr (fun t ht hW => ⟨x4, rfl, (by rw [hV, tw_CH_lengthOfCharacter_h72, if_pos c_7, if_pos c_8, if_neg c_64, if_pos c_78, if_pos c_99, if_neg c_100, if_neg c_101]; first | done | rfl), ht⟩) (fun _ h => by cases h) d_CH_lengthOfCharacter_210
                    · exact absurd c_103 (by decide)
                · refine lv_iload hx hb d_CH_lengthOfCharacter_179 (lv_at hl 1 rfl) ?_
                  refine lv_sipush (v := 143) hx hb d_CH_lengthOfCharacter_181 (by decide) ?_
                  refine lv_icmp_le (tgt := 191) hx hb d_CH_lengthOfCharacter_184 (by decide) (fun c_104 => ?_) (fun c_104 => ?_)
                  · refine lv_iconst (v := 0) hx hb d_CH_lengthOfCharacter_191 (by decide) ?_
                    refine lv_istore (lv' := [(7, .int 0), (6, .int 0), (5, .int (tw_ST_at b (p0 + 1))), (0, .ref aC), (1, .int p0), (3, .int x3), (4, .int x4)]) hx hb d_CH_lengthOfCharacter_192 hl (by decide) rfl (fun ls hl => ?_)
                    refine lv_iload hx hb d_CH_lengthOfCharacter_194 (lv_at hl 1 rfl) ?_
                    refine lv_if_ne (tgt := 204) hx hb d_CH_lengthOfCharacter_196 (by decide) (fun c_105 => ?_) (fun c_105 => ?_)
                    · exact absurd c_105 (by decide)
                    · refine lv_iload hx hb d_CH_lengthOfCharacter_199 (lv_at hl 0 rfl) ?_
                      refine lv_if_eq (tgt := 208) hx hb d_CH_lengthOfCharacter_201 (by decide) (fun c_106 => ?_) (fun c_106 => ?_)
                      · refine lv_iload hx hb d_CH_lengthOfCharacter_208 (lv_at hl 6 rfl) ?_
                        exact W.iret (v := x4) hx hb hr (fun t ht hW => ⟨x4, rfl, (by rw [hV, tw_CH_lengthOfCharacter_h72, if_pos c_7, if_pos c_8, if_neg c_64, if_pos c_78, if_pos c_99, if_neg c_100, if_pos c_101, if_pos c_104]; first | done | rfl), ht⟩) (fun _ h => by cases h) d_CH_lengthOfCharacter_210
                      · exact absurd c_106 (by decide)
                  · refine lv_iconst (v := 1) hx hb d_CH_lengthOfCharacter_187 (by decide) ?_
                    refine lv_goto (tgt := 192) hx hb d_CH_lengthOfCharacter_188 (by decide) ?_
                    refine lv_istore (lv' := [(7, .int 1), (6, .int 0), (5, .int (tw_ST_at b (p0 + 1))), (0, .ref aC), (1, .int p0), (3, .int x3), (4, .int x4)]) hx hb d_CH_lengthOfCharacter_192 hl (by decide) rfl (fun ls hl => ?_)
                    refine lv_iload hx hb d_CH_lengthOfCharacter_194 (lv_at hl 1 rfl) ?_
                    refine lv_if_ne (tgt := 204) hx hb d_CH_lengthOfCharacter_196 (by decide) (fun c_107 => ?_) (fun c_107 => ?_)
                    · exact absurd c_107 (by decide)
                    · refine lv_iload hx hb d_CH_lengthOfCharacter_199 (lv_at hl 0 rfl) ?_
                      refine lv_if_eq (tgt := 208) hx hb d_CH_lengthOfCharacter_201 (by decide) (fun c_108 => ?_) (fun c_108 => ?_)
                      · exact absurd c_108 (by decide)
                      · refine lv_iconst (v := 0) hx hb d_CH_lengthOfCharacter_204 (by decide) ?_
                        refine lv_goto (tgt := 210) hx hb d_CH_lengthOfCharacter_205 (by decide) ?_
                        exact W.iret (v := 0) hx hb hr (fun t ht hW => ⟨0, rfl, (by rw [hV, tw_CH_lengthOfCharacter_h72, if_pos c_7, if_pos c_8, if_neg c_64, if_pos c_78, if_pos c_99, if_neg c_100, if_pos c_101, if_neg c_104]; first | done | rfl), ht⟩) (fun _ h => by cases h) d_CH_lengthOfCharacter_210
              · refine lv_iload hx hb d_CH_lengthOfCharacter_164 (lv_at hl 1 rfl) ?_
                refine lv_sipush (v := 159) hx hb d_CH_lengthOfCharacter_166 (by decide) ?_
                refine lv_icmp_gt (tgt := 187) hx hb d_CH_lengthOfCharacter_169 (by decide) (fun c_109 => ?_) (fun c_109 => ?_)
                · refine lv_iconst (v := 1) hx hb d_CH_lengthOfCharacter_187 (by decide) ?_
                  refine lv_goto (tgt := 192) hx hb d_CH_lengthOfCharacter_188 (by decide) ?_
                  refine lv_istore (lv' := [(7, .int 1), (6, .int 0), (5, .int (tw_ST_at b (p0 + 1))), (0, .ref aC), (1, .int p0), (3, .int x3), (4, .int x4)]) hx hb d_CH_lengthOfCharacter_192 hl (by decide) rfl (fun ls hl => ?_)
                  refine lv_iload hx hb d_CH_lengthOfCharacter_194 (lv_at hl 1 rfl) ?_
                  refine lv_if_ne (tgt := 204) hx hb d_CH_lengthOfCharacter_196 (by decide) (fun c_110 => ?_) (fun c_110 => ?_)
                  · exact absurd c_110 (by decide)
                  · refine lv_iload hx hb d_CH_lengthOfCharacter_199 (lv_at hl 0 rfl) ?_
                    refine lv_if_eq (tgt := 208) hx hb d_CH_lengthOfCharacter_201 (by decide) (fun c_111 => ?_) (fun c_111 => ?_)
                    · exact absurd c_111 (by decide)
                    · refine lv_iconst (v := 0) hx hb d_CH_lengthOfCharacter_204 (by decide) ?_
                      refine lv_goto (tgt := 210) hx hb d_CH_lengthOfCharacter_205 (by decide) ?_
                      exact W.iret (v := 0) hx hb hr (fun t ht hW => ⟨0, rfl, (by rw [hV, tw_CH_lengthOfCharacter_h72, if_pos c_7, if_pos c_8, if_neg c_64, if_pos c_78, if_pos c_99, if_pos c_100, if_pos c_109]; first | done | rfl), ht⟩) (fun _ h => by cases h) d_CH_lengthOfCharacter_210
                · refine lv_iload_n hx hb d_CH_lengthOfCharacter_172 rfl (lv_at hl 4 rfl) ?_
                  refine lv_sipush (v := 244) hx hb d_CH_lengthOfCharacter_173 (by decide) ?_
                  refine lv_icmp_ne (tgt := 191) hx hb d_CH_lengthOfCharacter_176 (by decide) (fun c_112 => ?_) (fun c_112 => ?_)
                  · refine lv_iconst (v := 0) hx hb d_CH_lengthOfCharacter_191 (by decide) ?_
                    refine lv_istore (lv' := [(7, .int 0), (6, .int 0), (5, .int (tw_ST_at b (p0 + 1))), (0, .ref aC), (1, .int p0), (3, .int x3), (4, .int x4)]) hx hb d_CH_lengthOfCharacter_192 hl (by decide) rfl (fun ls hl => ?_)
                    refine lv_iload hx hb d_CH_lengthOfCharacter_194 (lv_at hl 1 rfl) ?_
                    refine lv_if_ne (tgt := 204) hx hb d_CH_lengthOfCharacter_196 (by decide) (fun c_113 => ?_) (fun c_113 => ?_)
                    · exact absurd c_113 (by decide)
                    · refine lv_iload hx hb d_CH_lengthOfCharacter_199 (lv_at hl 0 rfl) ?_
                      refine lv_if_eq (tgt := 208) hx hb d_CH_lengthOfCharacter_201 (by decide) (fun c_114 => ?_) (fun c_114 => ?_)
                      · refine lv_iload hx hb d_CH_lengthOfCharacter_208 (lv_at hl 6 rfl) ?_
                        exact W.iret (v := x4) hx hb hr (fun t ht hW => ⟨x4, rfl, (by rw [hV, tw_CH_lengthOfCharacter_h72, if_pos c_7, if_pos c_8, if_neg c_64, if_pos c_78, if_pos c_99, if_pos c_100, if_neg c_109, if_neg c_112]; first | done | rfl), ht⟩) (fun _ h => by cases h) d_CH_lengthOfCharacter_210
                      · exact absurd c_114 (by decide)
                  · refine lv_iload hx hb d_CH_lengthOfCharacter_179 (lv_at hl 1 rfl) ?_
                    refine lv_sipush (v := 143) hx hb d_CH_lengthOfCharacter_181 (by decide) ?_
                    refine lv_icmp_le (tgt := 191) hx hb d_CH_lengthOfCharacter_184 (by decide) (fun c_115 => ?_) (fun c_115 => ?_)
                    · refine lv_iconst (v := 0) hx hb d_CH_lengthOfCharacter_191 (by decide) ?_
                      refine lv_istore (lv' := [(7, .int 0), (6, .int 0), (5, .int (tw_ST_at b (p0 + 1))), (0, .ref aC), (1, .int p0), (3, .int x3), (4, .int x4)]) hx hb d_CH_lengthOfCharacter_192 hl (by decide) rfl (fun ls hl => ?_)
                      refine lv_iload hx hb d_CH_lengthOfCharacter_194 (lv_at hl 1 rfl) ?_
                      refine lv_if_ne (tgt := 204) hx hb d_CH_lengthOfCharacter_196 (by decide) (fun c_116 => ?_) (fun c_116 => ?_)
                      · exact absurd c_116 (by decide)
                      · refine lv_iload hx hb d_CH_lengthOfCharacter_199 (lv_at hl 0 rfl) ?_
                        refine lv_if_eq (tgt := 208) hx hb d_CH_lengthOfCharacter_201 (by decide) (fun c_117 => ?_) (fun c_117 => ?_)
                        · refine lv_iload hx hb d_CH_lengthOfCharacter_208 (lv_at hl 6 rfl) ?_
                          exact W.iret (v := x4) hx hb hr (fun t ht hW => ⟨x4, rfl, (by rw [hV, tw_CH_lengthOfCharacter_h72, if_pos c_7, if_pos c_8, if_neg c_64, if_pos c_78, if_pos c_99, if_pos c_100, if_neg c_109, if_pos c_112, if_pos c_115]; first | done | rfl), ht⟩) (fun _ h => by cases h) d_CH_lengthOfCharacter_210
                        · exact absurd c_117 (by decide)
                    · refine lv_iconst (v := 1) hx hb d_CH_lengthOfCharacter_187 (by decide) ?_
                      refine lv_goto (tgt := 192) hx hb d_CH_lengthOfCharacter_188 (by decide) ?_
                      refine lv_istore (lv' := [(7, .int 1), (6, .int 0), (5, .int (tw_ST_at b (p0 + 1))), (0, .ref aC), (1, .int p0), (3, .int x3), (4, .int x4)]) hx hb d_CH_lengthOfCharacter_192 hl (by decide) rfl (fun ls hl => ?_)
                      refine lv_iload hx hb d_CH_lengthOfCharacter_194 (lv_at hl 1 rfl) ?_
                      refine lv_if_ne (tgt := 204) hx hb d_CH_lengthOfCharacter_196 (by decide) (fun c_118 => ?_) (fun c_118 => ?_)
                      · exact absurd c_118 (by decide)
                      · refine lv_iload hx hb d_CH_lengthOfCharacter_199 (lv_at hl 0 rfl) ?_
                        refine lv_if_eq (tgt := 208) hx hb d_CH_lengthOfCharacter_201 (by decide) (fun c_119 => ?_) (fun c_119 => ?_)
                        · exact absurd c_119 (by decide)
                        · refine lv_iconst (v := 0) hx hb d_CH_lengthOfCharacter_204 (by decide) ?_
                          refine lv_goto (tgt := 210) hx hb d_CH_lengthOfCharacter_205 (by decide) ?_
                          exact W.iret (v := 0) hx hb hr (fun t ht hW => ⟨0, rfl, (by rw [hV, tw_CH_lengthOfCharacter_h72, if_pos c_7, if_pos c_8, if_neg c_64, if_pos c_78, if_pos c_99, if_pos c_100, if_neg c_109, if_pos c_112, if_neg c_115]; first | done | rfl), ht⟩) (fun _ h => by cases h) d_CH_lengthOfCharacter_210
            · refine lv_iconst (v := 1) hx hb d_CH_lengthOfCharacter_150 (by decide) ?_
              refine lv_goto (tgt := 155) hx hb d_CH_lengthOfCharacter_151 (by decide) ?_
              refine lv_istore (lv' := [(6, .int 1), (5, .int (tw_ST_at b (p0 + 1))), (0, .ref aC), (1, .int p0), (3, .int x3), (4, .int x4)]) hx hb d_CH_lengthOfCharacter_155 hl (by decide) rfl (fun ls hl => ?_)
              refine lv_iload_n hx hb d_CH_lengthOfCharacter_157 rfl (lv_at hl 4 rfl) ?_
              refine lv_sipush (v := 237) hx hb d_CH_lengthOfCharacter_158 (by decide) ?_
              refine lv_icmp_ne (tgt := 172) hx hb d_CH_lengthOfCharacter_161 (by decide) (fun c_120 => ?_) (fun c_120 => ?_)
              · refine lv_iload_n hx hb d_CH_lengthOfCharacter_172 rfl (lv_at hl 4 rfl) ?_
                refine lv_sipush (v := 244) hx hb d_CH_lengthOfCharacter_173 (by decide) ?_
                refine lv_icmp_ne (tgt := 191) hx hb d_CH_lengthOfCharacter_176 (by decide) (fun c_121 => ?_) (fun c_121 => ?_)
                · refine lv_iconst (v := 0) hx hb d_CH_lengthOfCharacter_191 (by decide) ?_
                  refine lv_istore (lv' := [(7, .int 0), (6, .int 1), (5, .int (tw_ST_at b (p0 + 1))), (0, .ref aC), (1, .int p0), (3, .int x3), (4, .int x4)]) hx hb d_CH_lengthOfCharacter_192 hl (by decide) rfl (fun ls hl => ?_)
                  refine lv_iload hx hb d_CH_lengthOfCharacter_194 (lv_at hl 1 rfl) ?_
                  refine lv_if_ne (tgt := 204) hx hb d_CH_lengthOfCharacter_196 (by decide) (fun c_122 => ?_) (fun c_122 => ?_)
                  · refine lv_iconst (v := 0) hx hb d_CH_lengthOfCharacter_204 (by decide) ?_
                    refine lv_goto (tgt := 210) hx hb d_CH_lengthOfCharacter_205 (by decide) ?_
                    exact W.iret (v := 0) hx hb hr (fun t ht hW => ⟨0, rfl, (by rw [hV, tw_CH_lengthOfCharacter_h72, if_pos c_7, if_pos c_8, if_neg c_64, if_pos c_78, if_neg c_99, if_neg c_120, if_neg c_121]; first | done | rfl), ht⟩) (fun _ h => by cases h) d_CH_lengthOfCharacter_210
                  · exact absurd c_122 (by decide)
                · refine lv_iload hx hb d_CH_lengthOfCharacter_179 (lv_at hl 1 rfl) ?_
                  refine lv_sipush (v := 143) hx hb d_CH_lengthOfCharacter_181 (by decide) ?_
                  refine lv_icmp_le (tgt := 191) hx hb d_CH_lengthOfCharacter_184 (by decide) (fun c_123 => ?_) (fun c_123 => ?_)
                  · refine lv_iconst (v := 0) hx hb d_CH_lengthOfCharacter_191 (by decide) ?_
                    refine lv_istore (lv' := [(7, .int 0), (6, .int 1), (5, .int (tw_ST_at b (p0 + 1))), (0, .ref aC), (1, .int p0), (3, .int x3), (4, .int x4)]) hx hb d_CH_lengthOfCharacter_192 hl (by decide) rfl (fun ls hl => ?_)
                    refine lv_iload hx hb d_CH_lengthOfCharacter_194 (lv_at hl 1 rfl) ?_
                    refine lv_if_ne (tgt := 204) hx hb d_CH_lengthOfCharacter_196 (by decide) (fun c_124 => ?_) (fun c_124 => ?_)
                    · refine lv_iconst (v := 0) hx hb d_CH_lengthOfCharacter_204 (by decide) ?_
                      refine lv_goto (tgt := 210) hx hb d_CH_lengthOfCharacter_205 (by decide) ?_
                      exact W.iret (v := 0) hx hb hr (fun t ht hW => ⟨0, rfl, (by rw [hV, tw_CH_lengthOfCharacter_h72, if_pos c_7, if_pos c_8, if_neg c_64, if_pos c_78, if_neg c_99, if_neg c_120, if_pos c_121, if_pos c_123]; first | done | rfl), ht⟩) (fun _ h => by cases h) d_CH_lengthOfCharacter_210
                    · exact absurd c_124 (by decide)
                  · refine lv_iconst (v := 1) hx hb d_CH_lengthOfCharacter_187 (by decide) ?_
                    refine lv_goto (tgt := 192) hx hb d_CH_lengthOfCharacter_188 (by decide) ?_
                    refine lv_istore (lv' := [(7, .int 1), (6, .int 1), (5, .int (tw_ST_at b (p0 + 1))), (0, .ref aC), (1, .int p0), (3, .int x3), (4, .int x4)]) hx hb d_CH_lengthOfCharacter_192 hl (by decide) rfl (fun ls hl => ?_)
                    refine lv_iload hx hb d_CH_lengthOfCharacter_194 (lv_at hl 1 rfl) ?_
                    refine lv_if_ne (tgt := 204) hx hb d_CH_lengthOfCharacter_196 (by decide) (fun c_125 => ?_) (fun c_125 => ?_)
                    · refine lv_iconst (v := 0) hx hb d_CH_lengthOfCharacter_204 (by decide) ?_
                      refine lv_goto (tgt := 210) hx hb d_CH_lengthOfCharacter_205 (by decide) ?_
                      exact W.iret (v := 0) hx hb hr (fun t ht hW => ⟨0, rfl, (by rw [hV, tw_CH_lengthOfCharacter_h72, if_pos c_7, if_pos c_8, if_neg c_64, if_pos c_78, if_neg c_99, if_neg c_120, if_pos c_121, if_neg c_123]; first | done | rfl), ht⟩) (fun _ h => by cases h) d_CH_lengthOfCharacter_210
                    · exact absurd c_125 (by decide)
              · refine lv_iload hx hb d_CH_lengthOfCharacter_164 (lv_at hl 1 rfl) ?_
                refine lv_sipush (v := 159) hx hb d_CH_lengthOfCharacter_166 (by decide) ?_
                refine lv_icmp_gt (tgt := 187) hx hb d_CH_lengthOfCharacter_169 (by decide) (fun c_126 => ?_) (fun c_126 => ?_)
                · refine lv_iconst (v := 1) hx hb d_CH_lengthOfCharacter_187 (by decide) ?_
                  refine lv_goto (tgt := 192) hx hb d_CH_lengthOfCharacter_188 (by decide) ?_
                  refine lv_istore (lv' := [(7, .int 1), (6, .int 1), (5, .int (tw_ST_at b (p0 + 1))), (0, .ref aC), (1, .int p0), (3, .int x3), (4, .int x4)]) hx hb d_CH_lengthOfCharacter_192 hl (by decide) rfl (fun ls hl => ?_)
                  refine lv_iload hx hb d_CH_lengthOfCharacter_194 (lv_at hl 1 rfl) ?_
                  refine lv_if_ne (tgt := 204) hx hb d_CH_lengthOfCharacter_196 (by decide) (fun c_127 => ?_) (fun c_127 => ?_)
                  · refine lv_iconst (v := 0) hx hb d_CH_lengthOfCharacter_204 (by decide) ?_
                    refine lv_goto (tgt := 210) hx hb d_CH_lengthOfCharacter_205 (by decide) ?_
                    exact W.iret (v := 0) hx hb hr (fun t ht hW => ⟨0, rfl, (by rw [hV, tw_CH_lengthOfCharacter_h72, if_pos c_7, if_pos c_8, if_neg c_64, if_pos c_78, if_neg c_99, if_pos c_120, if_pos c_126]; first | done | rfl), ht⟩) (fun _ h => by cases h) d_CH_lengthOfCharacter_210
                  · exact absurd c_127 (by decide)
                · refine lv_iload_n hx hb d_CH_lengthOfCharacter_172 rfl (lv_at hl 4 rfl) ?_
                  refine lv_sipush (v := 244) hx hb d_CH_lengthOfCharacter_173 (by decide) ?_
                  refine lv_icmp_ne (tgt := 191) hx hb d_CH_lengthOfCharacter_176 (by decide) (fun c_128 => ?_) (fun c_128 => ?_)
                  · refine lv_iconst (v := 0) hx hb d_CH_lengthOfCharacter_191 (by decide) ?_
                    refine lv_istore (lv' := [(7, .int 0), (6, .int 1), (5, .int (tw_ST_at b (p0 + 1))), (0, .ref aC), (1, .int p0), (3, .int x3), (4, .int x4)]) hx hb d_CH_lengthOfCharacter_192 hl (by decide) rfl (fun ls hl => ?_)
                    refine lv_iload hx hb d_CH_lengthOfCharacter_194 (lv_at hl 1 rfl) ?_
                    refine lv_if_ne (tgt := 204) hx hb d_CH_lengthOfCharacter_196 (by decide) (fun c_129 => ?_) (fun c_129 => ?_)
                    · refine lv_iconst (v := 0) hx hb d_CH_lengthOfCharacter_204 (by decide) ?_
                      refine lv_goto (tgt := 210) hx hb d_CH_lengthOfCharacter_205 (by decide) ?_
                      exact W.iret (v := 0) hx hb hr (fun t ht hW => ⟨0, rfl, (by rw [hV, tw_CH_lengthOfCharacter_h72, if_pos c_7, if_pos c_8, if_neg c_64, if_pos c_78, if_neg c_99, if_pos c_120, if_neg c_126, if_neg c_128]; first | done | rfl), ht⟩) (fun _ h => by cases h) d_CH_lengthOfCharacter_210
                    · exact absurd c_129 (by decide)
                  · refine lv_iload hx hb d_CH_lengthOfCharacter_179 (lv_at hl 1 rfl) ?_
                    refine lv_sipush (v := 143) hx hb d_CH_lengthOfCharacter_181 (by decide) ?_
                    refine lv_icmp_le (tgt := 191) hx hb d_CH_lengthOfCharacter_184 (by decide) (fun c_130 => ?_) (fun c_130 => ?_)
                    · refine lv_iconst (v := 0) hx hb d_CH_lengthOfCharacter_191 (by decide) ?_
                      refine lv_istore (lv' := [(7, .int 0), (6, .int 1), (5, .int (tw_ST_at b (p0 + 1))), (0, .ref aC), (1, .int p0), (3, .int x3), (4, .int x4)]) hx hb d_CH_lengthOfCharacter_192 hl (by decide) rfl (fun ls hl => ?_)
                      refine lv_iload hx hb d_CH_lengthOfCharacter_194 (lv_at hl 1 rfl) ?_
                      refine lv_if_ne (tgt := 204) hx hb d_CH_lengthOfCharacter_196 (by decide) (fun c_131 => ?_) (fun c_131 => ?_)
                      · refine lv_iconst (v := 0) hx hb d_CH_lengthOfCharacter_204 (by decide) ?_
                        refine lv_goto (tgt := 210) hx hb d_CH_lengthOfCharacter_205 (by decide) ?_
                        exact W.iret (v := 0) hx hb hr (fun t ht hW => ⟨0, rfl, (by rw [hV, tw_CH_lengthOfCharacter_h72, if_pos c_7, if_pos c_8, if_neg c_64, if_pos c_78, if_neg c_99, if_pos c_120, if_neg c_126, if_pos c_128, if_pos c_130]; first | done | rfl), ht⟩) (fun _ h => by cases h) d_CH_lengthOfCharacter_210
                      · exact absurd c_131 (by decide)
                    · refine lv_iconst (v := 1) hx hb d_CH_lengthOfCharacter_187 (by decide) ?_
                      refine lv_goto (tgt := 192) hx hb d_CH_lengthOfCharacter_188 (by decide) ?_
                      refine lv_istore (lv' := [(7, .int 1), (6, .int 1), (5, .int (tw_ST_at b (p0 + 1))), (0, .ref aC), (1, .int p0), (3, .int x3), (4, .int x4)]) hx hb d_CH_lengthOfCharacter_192 hl (by decide) rfl (fun ls hl => ?_)
                      refine lv_iload hx hb d_CH_lengthOfCharacter_194 (lv_at hl 1 rfl) ?_
                      refine lv_if_ne (tgt := 204) hx hb d_CH_lengthOfCharacter_196 (by decide) (fun c_132 => ?_) (fun c_132 => ?_)
                      · refine lv_iconst (v := 0) hx hb d_CH_lengthOfCharacter_204 (by decide) ?_
                        refine lv_goto (tgt := 210) hx hb d_CH_lengthOfCharacter_205 (by decide) ?_
                        exact W.iret (v := 0) hx hb hr (fun t ht hW => ⟨0, rfl, (by rw [hV, tw_CH_lengthOfCharacter_h72, if_pos c_7, if_pos c_8, if_neg c_64, if_pos c_78, if_neg c_99, if_pos c_120, if_neg c_126, if_pos c_128, if_neg c_130]; first | done | rfl), ht⟩) (fun _ h => by cases h) d_CH_lengthOfCharacter_210
                      · exact absurd c_132 (by decide)
    · refine lv_aload_n hx hb d_CH_lengthOfCharacter_79 rfl (lv_at hl 0 rfl) ?_
      refine va_get (D := D) (ci := 4) (v := .ref aS) (C := R_CH) (T := T_CH) (N := 1) hx hb hT u_CH hown hK hP 0 rfl rfl 0 (by decide) (hT _ k_49) (fun _ h9 => h9) rfl d_CH_lengthOfCharacter_80 ?_
      refine lv_iload_n hx hb d_CH_lengthOfCharacter_83 rfl (lv_at hl 1 rfl) ?_
      refine lv_iload hx hb d_CH_lengthOfCharacter_84 (lv_at hl 4 rfl) ?_
      refine lv_iadd hx hb d_CH_lengthOfCharacter_86 ?_
      refine rd_V (val := tw_ST_at b (p0 + x5)) (As := [.int (p0 + x5)]) (rest := []) ⟨hx, hb, hml, hown, hT⟩ (c_ST_at l D cB cI aS aB b (p0 + x5)) (cwV 1 hT (gV_of k_377 k_378 k_379 k_2 kc_ST_at) rfl rfl rfl hd_ST_at ⟨Nat.le_of_ble_eq_true rfl, Nat.le_of_ble_eq_true rfl⟩) hk (hP.sub (ws' := [(aS, .inr (0, [.ref aB])), (aB, .inl (cB, 202000, .inl (by_ b)))]) [1, 2] rfl) (q0 := 0) rfl rfl rfl rfl hl.1 rfl (Nat.le_of_ble_eq_true rfl) d_CH_lengthOfCharacter_87 ⟨Nat.zero_le _, Nat.zero_le _⟩ ?_
      refine lv_sipush (v := 192) hx hb d_CH_lengthOfCharacter_90 (by decide) ?_
      refine lv_iand hx hb d_CH_lengthOfCharacter_93 ?_
      refine lv_sipush (v := 128) hx hb d_CH_lengthOfCharacter_94 (by decide) ?_
      refine lv_icmp_eq (tgt := 102) hx hb d_CH_lengthOfCharacter_97 (by decide) (fun c_133 => ?_) (fun c_133 => ?_)
      · refine lv_iinc (v := x5 + 1) (lv' := [(5, .int (x5 + 1)), (0, .ref aC), (1, .int p0), (3, .int x3), (4, .int x4)]) hx hb d_CH_lengthOfCharacter_102 hl (k := 4) rfl rfl (by decide) rfl (fun ls hl => ?_)
        refine lv_goto (tgt := 72) hx hb d_CH_lengthOfCharacter_105 (by decide) ?_
        exact ih (x5 + 1) (lp_up hm c_7) (by rw [hV, tw_CH_lengthOfCharacter_h72, if_neg c_7, if_pos c_133]) ls (lv_sub hl [1, 2, 3, 4, 0] rfl)
      · refine lv_iconst (v := 0) hx hb d_CH_lengthOfCharacter_100 (by decide) ?_
        exact W.iret (v := 0) hx hb hr (fun t ht hW => ⟨0, rfl, (by rw [hV, tw_CH_lengthOfCharacter_h72, if_neg c_7, if_neg c_133]; first | done | rfl), ht⟩) (fun _ h => by cases h) d_CH_lengthOfCharacter_101
set_option maxHeartbeats 4000000 in
set_option maxRecDepth 100000 in
theorem c_CH_lengthOfCharacter (l : Launch) (D : va_G) (cB cI : ClassId) (aC aS aB : Nat) (b : Nat → UInt8) (p0 : Int32) (p1 : Int32) : Met l y_CH_lengthOfCharacter mw_CH_lengthOfCharacter { frames := 1, cells := 0, slots := 0, locals := 21 } (va_Pc [.ref aC, .int p0, .int p1] (fun U => va_P D vwCl [(aC, .inr (4, [.ref aS])), (aS, .inr (0, [.ref aB])), (aB, .inl (cB, 202000, .inl (by_ b)))] U.heap ∧ hk_ D cB cI U)) (vp_Si (fun r => r = tw_CH_lengthOfCharacter b p0 p1)) 0 0 (fun _ => False) := by
  refine Met.ofW (cc := b_CH_lengthOfCharacter) (maxL := 8) (ret := (some .int)) (by decide) rfl ?_
  intro p e s m args below meth c s₁ B0 hml hv
  obtain ⟨rfl, hP, hk⟩ := hv
  have hK := hk.1
  have hN := hk.2.1
  have hx := B0.exec
  have hb := B0.bytes
  have hr := B0.returns
  have hT : ∀ w ∈ lw_g, w.before _ s = true := fun w h => atoms_spec (ws := mw_CH_lengthOfCharacter) B0.pre w (List.mem_cons_of_mem _ h)
  have hown : s.vm.findClass R_CH = some m.cls := findClass_of_methodNamed B0.named
  have hlocks := B0.notSynchronized
  have hl := lv_entry ([.ref aC, .int p0, .int p1]) (n := 8) (Nat.le_of_ble_eq_true rfl)
  rw [lg_entry_eq]
  generalize (lg_sl ([.ref aC, .int p0, .int p1]) ++ List.replicate (8 - (lg_sl ([.ref aC, .int p0, .int p1])).length) Slot.unset).toArray = ls at hl ⊢
  have hl : lv_has ls 8 [(0, .ref aC), (1, .int p0), (2, .int p1)] := hl
  have C0 : lc_C p s m meth c _ b_CH_lengthOfCharacter 8 (some .int) R_CH lw_g := ⟨hx, hb, hml, hr, hown, hlocks, hT⟩
  refine lv_aload_n hx hb d_CH_lengthOfCharacter_0 rfl (lv_at hl 0 rfl) ?_
  refine va_get (D := D) (ci := 4) (v := .ref aS) (C := R_CH) (T := T_CH) (N := 1) hx hb hT u_CH hown hK hP 0 rfl rfl 0 (by decide) (hT _ k_49) (fun _ h9 => h9) rfl d_CH_lengthOfCharacter_1 ?_
  refine lv_iload_n hx hb d_CH_lengthOfCharacter_4 rfl (lv_at hl 1 rfl) ?_
  refine rd_V (val := tw_ST_at b p0) (As := [.int p0]) (rest := []) ⟨hx, hb, hml, hown, hT⟩ (c_ST_at l D cB cI aS aB b p0) (cwV 1 hT (gV_of k_377 k_378 k_379 k_2 kc_ST_at) rfl rfl rfl hd_ST_at ⟨Nat.le_of_ble_eq_true rfl, Nat.le_of_ble_eq_true rfl⟩) hk (hP.sub (ws' := [(aS, .inr (0, [.ref aB])), (aB, .inl (cB, 202000, .inl (by_ b)))]) [1, 2] rfl) (q0 := 0) rfl rfl rfl rfl hl.1 rfl (Nat.le_of_ble_eq_true rfl) d_CH_lengthOfCharacter_5 ⟨Nat.zero_le _, Nat.zero_le _⟩ ?_
  refine lv_istore_n (lv' := [(3, .int (tw_ST_at b p0)), (0, .ref aC), (1, .int p0), (2, .int p1)]) hx hb d_CH_lengthOfCharacter_8 rfl hl (by decide) rfl (fun ls hl => ?_)
  refine lv_iload_n hx hb d_CH_lengthOfCharacter_9 rfl (lv_at hl 0 rfl) ?_
  refine lv_sipush (v := 128) hx hb d_CH_lengthOfCharacter_10 (by decide) ?_
  refine lv_icmp_ge (tgt := 18) hx hb d_CH_lengthOfCharacter_13 (by decide) (fun c_1 => ?_) (fun c_1 => ?_)
  · refine lv_iload_n hx hb d_CH_lengthOfCharacter_18 rfl (lv_at hl 0 rfl) ?_
    refine lv_sipush (v := 194) hx hb d_CH_lengthOfCharacter_19 (by decide) ?_
    refine lv_icmp_lt (tgt := 32) hx hb d_CH_lengthOfCharacter_22 (by decide) (fun c_2 => ?_) (fun c_2 => ?_)
    · refine lv_iconst (v := 0) hx hb d_CH_lengthOfCharacter_32 (by decide) ?_
      exact W.iret (v := 0) hx hb hr (fun t ht hW => ⟨0, rfl, (by rw [tw_CH_lengthOfCharacter, if_pos c_1, if_pos c_2]; first | done | rfl), ht⟩) (fun _ h => by cases h) d_CH_lengthOfCharacter_33
    · refine lv_iload_n hx hb d_CH_lengthOfCharacter_25 rfl (lv_at hl 0 rfl) ?_
      refine lv_sipush (v := 244) hx hb d_CH_lengthOfCharacter_26 (by decide) ?_
      refine lv_icmp_le (tgt := 34) hx hb d_CH_lengthOfCharacter_29 (by decide) (fun c_3 => ?_) (fun c_3 => ?_)
      · refine lv_iload_n hx hb d_CH_lengthOfCharacter_34 rfl (lv_at hl 0 rfl) ?_
        refine lv_sipush (v := 224) hx hb d_CH_lengthOfCharacter_35 (by decide) ?_
        refine lv_icmp_ge (tgt := 45) hx hb d_CH_lengthOfCharacter_38 (by decide) (fun c_4 => ?_) (fun c_4 => ?_)
        · refine lv_iload_n hx hb d_CH_lengthOfCharacter_45 rfl (lv_at hl 0 rfl) ?_
          refine lv_sipush (v := 240) hx hb d_CH_lengthOfCharacter_46 (by decide) ?_
          refine lv_icmp_ge (tgt := 56) hx hb d_CH_lengthOfCharacter_49 (by decide) (fun c_5 => ?_) (fun c_5 => ?_)
          · refine lv_iconst (v := 4) hx hb d_CH_lengthOfCharacter_56 (by decide) ?_
            refine lv_istore (lv' := [(4, .int 4), (3, .int (tw_ST_at b p0)), (0, .ref aC), (1, .int p0), (2, .int p1)]) hx hb d_CH_lengthOfCharacter_57 hl (by decide) rfl (fun ls hl => ?_)
            refine lv_iload hx hb d_CH_lengthOfCharacter_59 (lv_at hl 0 rfl) ?_
            refine lv_iload_n hx hb d_CH_lengthOfCharacter_61 rfl (lv_at hl 4 rfl) ?_
            refine lv_iload_n hx hb d_CH_lengthOfCharacter_62 rfl (lv_at hl 3 rfl) ?_
            refine lv_isub hx hb d_CH_lengthOfCharacter_63 ?_
            refine lv_icmp_le (tgt := 69) hx hb d_CH_lengthOfCharacter_64 (by decide) (fun c_6 => ?_) (fun c_6 => ?_)
            · refine lv_iconst (v := 1) hx hb d_CH_lengthOfCharacter_69 (by decide) ?_
              refine lv_istore (lv' := [(5, .int 1), (4, .int 4), (3, .int (tw_ST_at b p0)), (0, .ref aC), (1, .int p0), (2, .int p1)]) hx hb d_CH_lengthOfCharacter_70 hl (by decide) rfl (fun ls hl => ?_)
              exact l_CH_lengthOfCharacter_h72 C0 l D cB cI aC aS aB b hP hk p0 (tw_ST_at b p0) 4  ((((4 : Int32).toInt - (1 : Int32).toInt).toNat) + 1) 1 (Nat.lt_succ_self _) (by rw [tw_CH_lengthOfCharacter, if_pos c_1, if_neg c_2, if_pos c_3, if_pos c_4, if_pos c_5, if_pos c_6]) ls (lv_sub hl [3, 4, 2, 1, 0] rfl)
            · refine lv_iconst (v := 0) hx hb d_CH_lengthOfCharacter_67 (by decide) ?_
              exact W.iret (v := 0) hx hb hr (fun t ht hW => ⟨0, rfl, (by rw [tw_CH_lengthOfCharacter, if_pos c_1, if_neg c_2, if_pos c_3, if_pos c_4, if_pos c_5, if_neg c_6]; first | done | rfl), ht⟩) (fun _ h => by cases h) d_CH_lengthOfCharacter_68
          · refine lv_iconst (v := 3) hx hb d_CH_lengthOfCharacter_52 (by decide) ?_
            refine lv_goto (tgt := 57) hx hb d_CH_lengthOfCharacter_53 (by decide) ?_
            refine lv_istore (lv' := [(4, .int 3), (3, .int (tw_ST_at b p0)), (0, .ref aC), (1, .int p0), (2, .int p1)]) hx hb d_CH_lengthOfCharacter_57 hl (by decide) rfl (fun ls hl => ?_)
            refine lv_iload hx hb d_CH_lengthOfCharacter_59 (lv_at hl 0 rfl) ?_
            refine lv_iload_n hx hb d_CH_lengthOfCharacter_61 rfl (lv_at hl 4 rfl) ?_
            refine lv_iload_n hx hb d_CH_lengthOfCharacter_62 rfl (lv_at hl 3 rfl) ?_
            refine lv_isub hx hb d_CH_lengthOfCharacter_63 ?_
            refine lv_icmp_le (tgt := 69) hx hb d_CH_lengthOfCharacter_64 (by decide) (fun c_134 => ?_) (fun c_134 => ?_)
            · refine lv_iconst (v := 1) hx hb d_CH_lengthOfCharacter_69 (by decide) ?_
              refine lv_istore (lv' := [(5, .int 1), (4, .int 3), (3, .int (tw_ST_at b p0)), (0, .ref aC), (1, .int p0), (2, .int p1)]) hx hb d_CH_lengthOfCharacter_70 hl (by decide) rfl (fun ls hl => ?_)
              exact l_CH_lengthOfCharacter_h72 C0 l D cB cI aC aS aB b hP hk p0 (tw_ST_at b p0) 3  ((((3 : Int32).toInt - (1 : Int32).toInt).toNat) + 1) 1 (Nat.lt_succ_self _) (by rw [tw_CH_lengthOfCharacter, if_pos c_1, if_neg c_2, if_pos c_3, if_pos c_4, if_neg c_5, if_pos c_134]) ls (lv_sub hl [3, 4, 2, 1, 0] rfl)
            · refine lv_iconst (v := 0) hx hb d_CH_lengthOfCharacter_67 (by decide) ?_
              exact W.iret (v := 0) hx hb hr (fun t ht hW => ⟨0, rfl, (by rw [tw_CH_lengthOfCharacter, if_pos c_1, if_neg c_2, if_pos c_3, if_pos c_4, if_neg c_5, if_neg c_134]; first | done | rfl), ht⟩) (fun _ h => by cases h) d_CH_lengthOfCharacter_68
        · refine lv_iconst (v := 2) hx hb d_CH_lengthOfCharacter_41 (by decide) ?_
          refine lv_goto (tgt := 57) hx hb d_CH_lengthOfCharacter_42 (by decide) ?_
          refine lv_istore (lv' := [(4, .int 2), (3, .int (tw_ST_at b p0)), (0, .ref aC), (1, .int p0), (2, .int p1)]) hx hb d_CH_lengthOfCharacter_57 hl (by decide) rfl (fun ls hl => ?_)
          refine lv_iload hx hb d_CH_lengthOfCharacter_59 (lv_at hl 0 rfl) ?_
          refine lv_iload_n hx hb d_CH_lengthOfCharacter_61 rfl (lv_at hl 4 rfl) ?_
          refine lv_iload_n hx hb d_CH_lengthOfCharacter_62 rfl (lv_at hl 3 rfl) ?_
          refine lv_isub hx hb d_CH_lengthOfCharacter_63 ?_
          refine lv_icmp_le (tgt := 69) hx hb d_CH_lengthOfCharacter_64 (by decide) (fun c_135 => ?_) (fun c_135 => ?_)
          · refine lv_iconst (v := 1) hx hb d_CH_lengthOfCharacter_69 (by decide) ?_
            refine lv_istore (lv' := [(5, .int 1), (4, .int 2), (3, .int (tw_ST_at b p0)), (0, .ref aC), (1, .int p0), (2, .int p1)]) hx hb d_CH_lengthOfCharacter_70 hl (by decide) rfl (fun ls hl => ?_)
            exact l_CH_lengthOfCharacter_h72 C0 l D cB cI aC aS aB b hP hk p0 (tw_ST_at b p0) 2  ((((2 : Int32).toInt - (1 : Int32).toInt).toNat) + 1) 1 (Nat.lt_succ_self _) (by rw [tw_CH_lengthOfCharacter, if_pos c_1, if_neg c_2, if_pos c_3, if_neg c_4, if_pos c_135]) ls (lv_sub hl [3, 4, 2, 1, 0] rfl)
          · refine lv_iconst (v := 0) hx hb d_CH_lengthOfCharacter_67 (by decide) ?_
            exact W.iret (v := 0) hx hb hr (fun t ht hW => ⟨0, rfl, (by rw [tw_CH_lengthOfCharacter, if_pos c_1, if_neg c_2, if_pos c_3, if_neg c_4, if_neg c_135]; first | done | rfl), ht⟩) (fun _ h => by cases h) d_CH_lengthOfCharacter_68
      · refine lv_iconst (v := 0) hx hb d_CH_lengthOfCharacter_32 (by decide) ?_
        exact W.iret (v := 0) hx hb hr (fun t ht hW => ⟨0, rfl, (by rw [tw_CH_lengthOfCharacter, if_pos c_1, if_neg c_2, if_neg c_3]; first | done | rfl), ht⟩) (fun _ h => by cases h) d_CH_lengthOfCharacter_33
  · refine lv_iconst (v := 1) hx hb d_CH_lengthOfCharacter_16 (by decide) ?_
    exact W.iret (v := 1) hx hb hr (fun t ht hW => ⟨1, rfl, (by rw [tw_CH_lengthOfCharacter, if_neg c_1]; first | done | rfl), ht⟩) (fun _ h => by cases h) d_CH_lengthOfCharacter_17
set_option maxHeartbeats 4000000 in
set_option maxRecDepth 100000 in
theorem l_CH_isUtf8_h5 {p : Program} {e : Env} {s : State} {m : MethodId} {args : Array Value} {below : List Frame} {meth : Method} {c : Code} {V : Bool} (C0 : lc_C p s m meth c args b_CH_isUtf8 6 (some .boolean) R_CH lw_g) (l : Launch) (D : va_G) (cB cI : ClassId) (aC aS aB : Nat) (b : Nat → UInt8) (hP : va_P D vwCl [(aC, .inr (4, [.ref aS])), (aS, .inr (0, [.ref aB])), (aB, .inl (cB, 202000, .inl (by_ b)))] s.heap) (hk : hk_ D cB cI s) (p1 : Int32) : ∀ (n : Nat) (x3 : Int32) (x4 : Int32), (p1.toInt - x4.toInt).toNat < n → V = tw_CH_isUtf8_h5 b p1 n x3 x4 → ∀ ls : Array Slot, lv_has ls 6 [(0, .ref aC), (2, .int p1), (3, .int x3), (4, .int x4)] → W p l e ({ frames := 2, cells := 0, slots := 0, locals := 48 }) s m args below meth c s.heap [] 0 0 (MQ below (vp_Si (fun r => r = b2i V)) args s 0 0 (fun _ => False)) (F0 m 5 ls []) := by
  obtain ⟨hx, hb, hml, hr, hown, hlocks, hT⟩ := id C0
  have hK := hk.1
  have hN := hk.2.1
  intro n
  induction n with
  | zero =>
    intro x3 x4 hm
    exact absurd hm (Nat.not_lt_zero _)
  | succ n ih =>
    intro x3 x4 hm hV ls hl
    refine lv_iload hx hb d_CH_isUtf8_5 (lv_at hl 3 rfl) ?_
    refine lv_iload_n hx hb d_CH_isUtf8_7 rfl (lv_at hl 1 rfl) ?_
    refine lv_icmp_ge (tgt := 42) hx hb d_CH_isUtf8_8 (by decide) (fun c_1 => ?_) (fun c_1 => ?_)
    · refine lv_iload_n hx hb d_CH_isUtf8_42 rfl (lv_at hl 2 rfl) ?_
      refine lv_iload_n hx hb d_CH_isUtf8_43 rfl (lv_at hl 1 rfl) ?_
      refine lv_icmp_ne (tgt := 51) hx hb d_CH_isUtf8_44 (by decide) (fun c_2 => ?_) (fun c_2 => ?_)
      · refine lv_iconst (v := 0) hx hb d_CH_isUtf8_51 (by decide) ?_
        exact W.zret (v := 0) (ty := .boolean) hx hb hr (rfl) (fun t ht hW => ⟨0, rfl, (by rw [hV, tw_CH_isUtf8_h5, if_pos c_1, if_neg c_2]; first | done | rfl), ht⟩) (fun _ h => by cases h) d_CH_isUtf8_52
      · refine lv_iconst (v := 1) hx hb d_CH_isUtf8_47 (by decide) ?_
        refine lv_goto (tgt := 52) hx hb d_CH_isUtf8_48 (by decide) ?_
        exact W.zret (v := 1) (ty := .boolean) hx hb hr (rfl) (fun t ht hW => ⟨1, rfl, (by rw [hV, tw_CH_isUtf8_h5, if_pos c_1, if_pos c_2]; first | done | rfl), ht⟩) (fun _ h => by cases h) d_CH_isUtf8_52
    · refine lv_iload_n hx hb d_CH_isUtf8_11 rfl (lv_at hl 2 rfl) ?_
      refine lv_iload_n hx hb d_CH_isUtf8_12 rfl (lv_at hl 1 rfl) ?_
      refine lv_icmp_ge (tgt := 42) hx hb d_CH_isUtf8_13 (by decide) (fun c_3 => ?_) (fun c_3 => ?_)
      · refine lv_iload_n hx hb d_CH_isUtf8_42 rfl (lv_at hl 2 rfl) ?_
        refine lv_iload_n hx hb d_CH_isUtf8_43 rfl (lv_at hl 1 rfl) ?_
        refine lv_icmp_ne (tgt := 51) hx hb d_CH_isUtf8_44 (by decide) (fun c_4 => ?_) (fun c_4 => ?_)
        · refine lv_iconst (v := 0) hx hb d_CH_isUtf8_51 (by decide) ?_
          exact W.zret (v := 0) (ty := .boolean) hx hb hr (rfl) (fun t ht hW => ⟨0, rfl, (by rw [hV, tw_CH_isUtf8_h5, if_neg c_1, if_pos c_3, if_neg c_4]; first | done | rfl), ht⟩) (fun _ h => by cases h) d_CH_isUtf8_52
        · refine lv_iconst (v := 1) hx hb d_CH_isUtf8_47 (by decide) ?_
          refine lv_goto (tgt := 52) hx hb d_CH_isUtf8_48 (by decide) ?_
          exact W.zret (v := 1) (ty := .boolean) hx hb hr (rfl) (fun t ht hW => ⟨1, rfl, (by rw [hV, tw_CH_isUtf8_h5, if_neg c_1, if_pos c_3, if_pos c_4]; first | done | rfl), ht⟩) (fun _ h => by cases h) d_CH_isUtf8_52
      · refine lv_aload_n hx hb d_CH_isUtf8_16 rfl (lv_at hl 0 rfl) ?_
        refine lv_iload_n hx hb d_CH_isUtf8_17 rfl (lv_at hl 2 rfl) ?_
        refine lv_iload_n hx hb d_CH_isUtf8_18 rfl (lv_at hl 1 rfl) ?_
        refine rd_V (val := tw_CH_lengthOfCharacter b x3 p1) (As := [.int x3, .int p1]) (rest := []) ⟨hx, hb, hml, hown, hT⟩ (c_CH_lengthOfCharacter l D cB cI aC aS aB b x3 p1) (cwV 2 hT (gV_of k_394 k_396 kp_CH_lengthOfCharacter k_3 kc_CH_lengthOfCharacter) rfl rfl rfl hd_CH_lengthOfCharacter ⟨Nat.le_of_ble_eq_true rfl, Nat.le_of_ble_eq_true rfl⟩) hk hP (q0 := 0) rfl rfl rfl rfl hl.1 rfl (Nat.le_of_ble_eq_true rfl) d_CH_isUtf8_19 ⟨Nat.zero_le _, Nat.zero_le _⟩ ?_
        refine lv_istore (lv' := [(5, .int (tw_CH_lengthOfCharacter b x3 p1)), (0, .ref aC), (2, .int p1), (3, .int x3), (4, .int x4)]) hx hb d_CH_isUtf8_22 hl (by decide) rfl (fun ls hl => ?_)
        refine lv_iload hx hb d_CH_isUtf8_24 (lv_at hl 0 rfl) ?_
        refine lv_if_ne (tgt := 31) hx hb d_CH_isUtf8_26 (by decide) (fun c_5 => ?_) (fun c_5 => ?_)
        · refine lv_iload_n hx hb d_CH_isUtf8_31 rfl (lv_at hl 3 rfl) ?_
          refine lv_iload hx hb d_CH_isUtf8_32 (lv_at hl 0 rfl) ?_
          refine lv_iadd hx hb d_CH_isUtf8_34 ?_
          refine lv_istore_n (lv' := [(3, .int (x3 + (tw_CH_lengthOfCharacter b x3 p1))), (5, .int (tw_CH_lengthOfCharacter b x3 p1)), (0, .ref aC), (2, .int p1), (4, .int x4)]) hx hb d_CH_isUtf8_35 rfl hl (by decide) rfl (fun ls hl => ?_)
          refine lv_iinc (v := x4 + 1) (lv' := [(4, .int (x4 + 1)), (3, .int (x3 + (tw_CH_lengthOfCharacter b x3 p1))), (5, .int (tw_CH_lengthOfCharacter b x3 p1)), (0, .ref aC), (2, .int p1)]) hx hb d_CH_isUtf8_36 hl (k := 4) rfl rfl (by decide) rfl (fun ls hl => ?_)
          refine lv_goto (tgt := 5) hx hb d_CH_isUtf8_39 (by decide) ?_
          exact ih (x3 + (tw_CH_lengthOfCharacter b x3 p1)) (x4 + 1) (lp_up hm c_1) (by rw [hV, tw_CH_isUtf8_h5, if_neg c_1, if_neg c_3, if_neg c_5]) ls (lv_sub hl [3, 4, 1, 0] rfl)
        · refine lv_iconst (v := 0) hx hb d_CH_isUtf8_29 (by decide) ?_
          exact W.zret (v := 0) (ty := .boolean) hx hb hr (rfl) (fun t ht hW => ⟨0, rfl, (by rw [hV, tw_CH_isUtf8_h5, if_neg c_1, if_neg c_3, if_pos c_5]; first | done | rfl), ht⟩) (fun _ h => by cases h) d_CH_isUtf8_30
set_option maxHeartbeats 4000000 in
set_option maxRecDepth 100000 in
theorem c_CH_isUtf8 (l : Launch) (D : va_G) (cB cI : ClassId) (aC aS aB : Nat) (b : Nat → UInt8) (p0 : Int32) (p1 : Int32) : Met l y_CH_isUtf8 mw_CH_isUtf8 { frames := 2, cells := 0, slots := 0, locals := 48 } (va_Pc [.ref aC, .int p0, .int p1] (fun U => va_P D vwCl [(aC, .inr (4, [.ref aS])), (aS, .inr (0, [.ref aB])), (aB, .inl (cB, 202000, .inl (by_ b)))] U.heap ∧ hk_ D cB cI U)) (vp_Si (fun r => r = b2i (tw_CH_isUtf8 b p0 p1))) 0 0 (fun _ => False) := by
  refine Met.ofW (cc := b_CH_isUtf8) (maxL := 6) (ret := (some .boolean)) (by decide) rfl ?_
  intro p e s m args below meth c s₁ B0 hml hv
  obtain ⟨rfl, hP, hk⟩ := hv
  have hK := hk.1
  have hN := hk.2.1
  have hx := B0.exec
  have hb := B0.bytes
  have hr := B0.returns
  have hT : ∀ w ∈ lw_g, w.before _ s = true := fun w h => atoms_spec (ws := mw_CH_isUtf8) B0.pre w (List.mem_cons_of_mem _ h)
  have hown : s.vm.findClass R_CH = some m.cls := findClass_of_methodNamed B0.named
  have hlocks := B0.notSynchronized
  have hl := lv_entry ([.ref aC, .int p0, .int p1]) (n := 6) (Nat.le_of_ble_eq_true rfl)
  rw [lg_entry_eq]
  generalize (lg_sl ([.ref aC, .int p0, .int p1]) ++ List.replicate (6 - (lg_sl ([.ref aC, .int p0, .int p1])).length) Slot.unset).toArray = ls at hl ⊢
  have hl : lv_has ls 6 [(0, .ref aC), (1, .int p0), (2, .int p1)] := hl
  have C0 : lc_C p s m meth c _ b_CH_isUtf8 6 (some .boolean) R_CH lw_g := ⟨hx, hb, hml, hr, hown, hlocks, hT⟩
  refine lv_iload_n hx hb d_CH_isUtf8_0 rfl (lv_at hl 1 rfl) ?_
  refine lv_istore_n (lv' := [(3, .int p0), (0, .ref aC), (1, .int p0), (2, .int p1)]) hx hb d_CH_isUtf8_1 rfl hl (by decide) rfl (fun ls hl => ?_)
  refine lv_iload_n hx hb d_CH_isUtf8_2 rfl (lv_at hl 2 rfl) ?_
  refine lv_istore (lv' := [(4, .int p0), (3, .int p0), (0, .ref aC), (1, .int p0), (2, .int p1)]) hx hb d_CH_isUtf8_3 hl (by decide) rfl (fun ls hl => ?_)
  exact l_CH_isUtf8_h5 C0 l D cB cI aC aS aB b hP hk p1  (((p1.toInt - p0.toInt).toNat) + 1) p0 p0 (Nat.lt_succ_self _) (by rw [tw_CH_isUtf8]) ls (lv_sub hl [2, 4, 1, 0] rfl)
set_option maxHeartbeats 4000000 in
set_option maxRecDepth 100000 in
theorem l_CH_isNewName_h19 {p : Program} {e : Env} {s : State} {m : MethodId} {args : Array Value} {below : List Frame} {meth : Method} {c : Code} {V : Bool} (C0 : lc_C p s m meth c args b_CH_isNewName 7 (some .boolean) R_CH lw_g) (l : Launch) (D : va_G) (cB cI : ClassId) (aC aS aB : Nat) (b : Nat → UInt8) (hP : va_P D vwCl [(aC, .inr (4, [.ref aS])), (aS, .inr (0, [.ref aB])), (aB, .inl (cB, 202000, .inl (by_ b)))] s.heap) (hk : hk_ D cB cI s) (p1 : Int32) (p2 : Int32) : ∀ (n : Nat) (x4 : Int32) (x5 : Int32), ((1000 : Int32).toInt - x5.toInt).toNat < n → V = tw_CH_isNewName_h19 b p1 p2 n x4 x5 → ∀ ls : Array Slot, lv_has ls 7 [(0, .ref aC), (2, .int p1), (3, .int p2), (4, .int x4), (5, .int x5)] → W p l e ({ frames := 3, cells := 0, slots := 0, locals := 73 }) s m args below meth c s.heap [] 0 0 (MQ below (vp_Si (fun r => r = b2i V)) args s 0 0 (fun _ => False)) (F0 m 19 ls []) := by
  obtain ⟨hx, hb, hml, hr, hown, hlocks, hT⟩ := id C0
  have hK := hk.1
  have hN := hk.2.1
  intro n
  induction n with
  | zero =>
    intro x4 x5 hm
    exact absurd hm (Nat.not_lt_zero _)
  | succ n ih =>
    intro x4 x5 hm hV ls hl
    refine lv_iload hx hb d_CH_isNewName_19 (lv_at hl 4 rfl) ?_
    refine lv_sipush (v := 1000) hx hb d_CH_isNewName_21 (by decide) ?_
    refine lv_icmp_ge (tgt := 88) hx hb d_CH_isNewName_24 (by decide) (fun c_2 => ?_) (fun c_2 => ?_)
    · refine lv_iconst (v := 1) hx hb d_CH_isNewName_88 (by decide) ?_
      exact W.zret (v := 1) (ty := .boolean) hx hb hr (rfl) (fun t ht hW => ⟨1, rfl, (by rw [hV, tw_CH_isNewName_h19, if_pos c_2]; first | done | rfl), ht⟩) (fun _ h => by cases h) d_CH_isNewName_89
    · refine lv_iload hx hb d_CH_isNewName_27 (lv_at hl 3 rfl) ?_
      refine lv_iload_n hx hb d_CH_isNewName_29 rfl (lv_at hl 1 rfl) ?_
      refine lv_icmp_ge (tgt := 88) hx hb d_CH_isNewName_30 (by decide) (fun c_3 => ?_) (fun c_3 => ?_)
      · refine lv_iconst (v := 1) hx hb d_CH_isNewName_88 (by decide) ?_
        exact W.zret (v := 1) (ty := .boolean) hx hb hr (rfl) (fun t ht hW => ⟨1, rfl, (by rw [hV, tw_CH_isNewName_h19, if_neg c_2, if_pos c_3]; first | done | rfl), ht⟩) (fun _ h => by cases h) d_CH_isNewName_89
      · refine lv_aload_n hx hb d_CH_isNewName_33 rfl (lv_at hl 0 rfl) ?_
        refine va_get (D := D) (ci := 4) (v := .ref aS) (C := R_CH) (T := T_CH) (N := 1) hx hb hT u_CH hown hK hP 0 rfl rfl 0 (by decide) (hT _ k_49) (fun _ h9 => h9) rfl d_CH_isNewName_34 ?_
        refine lv_iload hx hb d_CH_isNewName_37 (lv_at hl 3 rfl) ?_
        refine rd_V (val := tw_ST_valueOf b x4) (As := [.int x4]) (rest := []) ⟨hx, hb, hml, hown, hT⟩ (c_ST_valueOf l D cB cI aS aB b x4) (cwV 1 hT (gV_of k_398 k_399 k_400 k_2 kc_ST_valueOf) rfl rfl rfl hd_ST_valueOf ⟨Nat.le_of_ble_eq_true rfl, Nat.le_of_ble_eq_true rfl⟩) hk (hP.sub (ws' := [(aS, .inr (0, [.ref aB])), (aB, .inl (cB, 202000, .inl (by_ b)))]) [1, 2] rfl) (q0 := 0) rfl rfl rfl rfl hl.1 rfl (Nat.le_of_ble_eq_true rfl) d_CH_isNewName_39 ⟨Nat.zero_le _, Nat.zero_le _⟩ ?_
        refine lv_istore (lv' := [(6, .int (tw_ST_valueOf b x4)), (0, .ref aC), (2, .int p1), (3, .int p2), (4, .int x4), (5, .int x5)]) hx hb d_CH_isNewName_42 hl (by decide) rfl (fun ls hl => ?_)
        refine lv_aload_n hx hb d_CH_isNewName_44 rfl (lv_at hl 1 rfl) ?_
        refine va_get (D := D) (ci := 4) (v := .ref aS) (C := R_CH) (T := T_CH) (N := 1) hx hb hT u_CH hown hK hP 0 rfl rfl 0 (by decide) (hT _ k_49) (fun _ h9 => h9) rfl d_CH_isNewName_45 ?_
        refine lv_iload hx hb d_CH_isNewName_48 (lv_at hl 4 rfl) ?_
        refine lv_iconst (v := 1) hx hb d_CH_isNewName_50 (by decide) ?_
        refine lv_iadd hx hb d_CH_isNewName_51 ?_
        refine lv_iload hx hb d_CH_isNewName_52 (lv_at hl 0 rfl) ?_
        refine rd_S (val := tw_ST_placeOf (tw_ST_valueOf b x4)) (As := [.int (tw_ST_valueOf b x4)]) (rest := [.int (x4 + 1), .ref aS]) ⟨hx, hb, hml, hown, hT⟩ (c_ST_placeOf l D cB cI (tw_ST_valueOf b x4)) (va_cwS 1 hT (gS_of k_402 k_403 k_2 kc_ST_placeOf) rfl rfl rfl hd_ST_placeOf ⟨Nat.le_of_ble_eq_true rfl, Nat.le_of_ble_eq_true rfl⟩) hk (va_P_nil) rfl hl.1 rfl (Nat.le_of_ble_eq_true rfl) d_CH_isNewName_54 ⟨Nat.zero_le _, Nat.zero_le _⟩ ?_
        refine lv_iconst (v := 1) hx hb d_CH_isNewName_57 (by decide) ?_
        refine lv_isub hx hb d_CH_isNewName_58 ?_
        refine lv_iload_n hx hb d_CH_isNewName_59 rfl (lv_at hl 2 rfl) ?_
        refine lv_iconst (v := 1) hx hb d_CH_isNewName_60 (by decide) ?_
        refine lv_iadd hx hb d_CH_isNewName_61 ?_
        refine lv_iload_n hx hb d_CH_isNewName_62 rfl (lv_at hl 3 rfl) ?_
        refine rd_V (val := tw_ST_compareBytes b (x4 + 1) ((tw_ST_placeOf (tw_ST_valueOf b x4)) - 1) (p1 + 1) p2) (As := [.int (x4 + 1), .int ((tw_ST_placeOf (tw_ST_valueOf b x4)) - 1), .int (p1 + 1), .int p2]) (rest := []) ⟨hx, hb, hml, hown, hT⟩ (c_ST_compareBytes l D cB cI aS aB b (x4 + 1) ((tw_ST_placeOf (tw_ST_valueOf b x4)) - 1) (p1 + 1) p2) (cwV 4 hT (gV_of k_405 k_406 k_407 k_2 kc_ST_compareBytes) rfl rfl rfl hd_ST_compareBytes ⟨Nat.le_of_ble_eq_true rfl, Nat.le_of_ble_eq_true rfl⟩) hk (hP.sub (ws' := [(aS, .inr (0, [.ref aB])), (aB, .inl (cB, 202000, .inl (by_ b)))]) [1, 2] rfl) (q0 := 0) rfl rfl rfl rfl hl.1 rfl (Nat.le_of_ble_eq_true rfl) d_CH_isNewName_63 ⟨Nat.zero_le _, Nat.zero_le _⟩ ?_
        refine lv_if_ne (tgt := 71) hx hb d_CH_isNewName_66 (by decide) (fun c_4 => ?_) (fun c_4 => ?_)
        · refine lv_aload_n hx hb d_CH_isNewName_71 rfl (lv_at hl 1 rfl) ?_
          refine va_get (D := D) (ci := 4) (v := .ref aS) (C := R_CH) (T := T_CH) (N := 1) hx hb hT u_CH hown hK hP 0 rfl rfl 0 (by decide) (hT _ k_49) (fun _ h9 => h9) rfl d_CH_isNewName_72 ?_
          refine lv_iload hx hb d_CH_isNewName_75 (lv_at hl 0 rfl) ?_
          refine rd_V (val := tw_ST_endOf b (tw_ST_valueOf b x4)) (As := [.int (tw_ST_valueOf b x4)]) (rest := []) ⟨hx, hb, hml, hown, hT⟩ (c_ST_endOf l D cB cI aS aB b (tw_ST_valueOf b x4)) (cwV 1 hT (gV_of k_415 k_416 k_417 k_2 kc_ST_endOf) rfl rfl rfl hd_ST_endOf ⟨Nat.le_of_ble_eq_true rfl, Nat.le_of_ble_eq_true rfl⟩) hk (hP.sub (ws' := [(aS, .inr (0, [.ref aB])), (aB, .inl (cB, 202000, .inl (by_ b)))]) [1, 2] rfl) (q0 := 0) rfl rfl rfl rfl hl.1 rfl (Nat.le_of_ble_eq_true rfl) d_CH_isNewName_77 ⟨Nat.zero_le _, Nat.zero_le _⟩ ?_
          refine lv_istore (lv' := [(4, .int (tw_ST_endOf b (tw_ST_valueOf b x4))), (6, .int (tw_ST_valueOf b x4)), (0, .ref aC), (2, .int p1), (3, .int p2), (5, .int x5)]) hx hb d_CH_isNewName_80 hl (by decide) rfl (fun ls hl => ?_)
          refine lv_iinc (v := x5 + 1) (lv' := [(5, .int (x5 + 1)), (4, .int (tw_ST_endOf b (tw_ST_valueOf b x4))), (6, .int (tw_ST_valueOf b x4)), (0, .ref aC), (2, .int p1), (3, .int p2)]) hx hb d_CH_isNewName_82 hl (k := 5) rfl rfl (by decide) rfl (fun ls hl => ?_)
          refine lv_goto (tgt := 19) hx hb d_CH_isNewName_85 (by decide) ?_
          exact ih (tw_ST_endOf b (tw_ST_valueOf b x4)) (x5 + 1) (lp_up hm c_2) (by rw [hV, tw_CH_isNewName_h19, if_neg c_2, if_neg c_3, if_neg c_4]) ls (lv_sub hl [3, 4, 5, 1, 0] rfl)
        · refine lv_iconst (v := 0) hx hb d_CH_isNewName_69 (by decide) ?_
          exact W.zret (v := 0) (ty := .boolean) hx hb hr (rfl) (fun t ht hW => ⟨0, rfl, (by rw [hV, tw_CH_isNewName_h19, if_neg c_2, if_neg c_3, if_pos c_4]; first | done | rfl), ht⟩) (fun _ h => by cases h) d_CH_isNewName_70
set_option maxHeartbeats 4000000 in
set_option maxRecDepth 100000 in
theorem c_CH_isNewName (l : Launch) (D : va_G) (cB cI : ClassId) (aC aS aB : Nat) (b : Nat → UInt8) (p0 : Int32) (p1 : Int32) (p2 : Int32) : Met l y_CH_isNewName mw_CH_isNewName { frames := 3, cells := 0, slots := 0, locals := 73 } (va_Pc [.ref aC, .int p0, .int p1, .int p2] (fun U => va_P D vwCl [(aC, .inr (4, [.ref aS])), (aS, .inr (0, [.ref aB])), (aB, .inl (cB, 202000, .inl (by_ b)))] U.heap ∧ hk_ D cB cI U)) (vp_Si (fun r => r = b2i (tw_CH_isNewName b p0 p1 p2))) 0 0 (fun _ => False) := by
  refine Met.ofW (cc := b_CH_isNewName) (maxL := 7) (ret := (some .boolean)) (by decide) rfl ?_
  intro p e s m args below meth c s₁ B0 hml hv
  obtain ⟨rfl, hP, hk⟩ := hv
  have hK := hk.1
  have hN := hk.2.1
  have hx := B0.exec
  have hb := B0.bytes
  have hr := B0.returns
  have hT : ∀ w ∈ lw_g, w.before _ s = true := fun w h => atoms_spec (ws := mw_CH_isNewName) B0.pre w (List.mem_cons_of_mem _ h)
  have hown : s.vm.findClass R_CH = some m.cls := findClass_of_methodNamed B0.named
  have hlocks := B0.notSynchronized
  have hl := lv_entry ([.ref aC, .int p0, .int p1, .int p2]) (n := 7) (Nat.le_of_ble_eq_true rfl)
  rw [lg_entry_eq]
  generalize (lg_sl ([.ref aC, .int p0, .int p1, .int p2]) ++ List.replicate (7 - (lg_sl ([.ref aC, .int p0, .int p1, .int p2])).length) Slot.unset).toArray = ls at hl ⊢
  have hl : lv_has ls 7 [(0, .ref aC), (1, .int p0), (2, .int p1), (3, .int p2)] := hl
  have C0 : lc_C p s m meth c _ b_CH_isNewName 7 (some .boolean) R_CH lw_g := ⟨hx, hb, hml, hr, hown, hlocks, hT⟩
  refine lv_aload_n hx hb d_CH_isNewName_0 rfl (lv_at hl 0 rfl) ?_
  refine lv_iload_n hx hb d_CH_isNewName_1 rfl (lv_at hl 2 rfl) ?_
  refine lv_iconst (v := 1) hx hb d_CH_isNewName_2 (by decide) ?_
  refine lv_iadd hx hb d_CH_isNewName_3 ?_
  refine lv_iload_n hx hb d_CH_isNewName_4 rfl (lv_at hl 3 rfl) ?_
  refine rd_V (val := b2i (tw_CH_isUtf8 b (p1 + 1) p2)) (As := [.int (p1 + 1), .int p2]) (rest := []) ⟨hx, hb, hml, hown, hT⟩ (c_CH_isUtf8 l D cB cI aC aS aB b (p1 + 1) p2) (cwV 2 hT (gV_of k_390 k_392 kp_CH_isUtf8 k_3 kc_CH_isUtf8) rfl rfl rfl hd_CH_isUtf8 ⟨Nat.le_of_ble_eq_true rfl, Nat.le_of_ble_eq_true rfl⟩) hk hP (q0 := 0) rfl rfl rfl rfl hl.1 rfl (Nat.le_of_ble_eq_true rfl) d_CH_isNewName_5 ⟨Nat.zero_le _, Nat.zero_le _⟩ ?_
  refine lv_if_ne (tgt := 13) hx hb d_CH_isNewName_8 (by decide) (fun c_1 => ?_) (fun c_1 => ?_)
  · refine lv_iload_n hx hb d_CH_isNewName_13 rfl (lv_at hl 1 rfl) ?_
    refine lv_istore (lv' := [(4, .int p0), (0, .ref aC), (1, .int p0), (2, .int p1), (3, .int p2)]) hx hb d_CH_isNewName_14 hl (by decide) rfl (fun ls hl => ?_)
    refine lv_iconst (v := 0) hx hb d_CH_isNewName_16 (by decide) ?_
    refine lv_istore (lv' := [(5, .int 0), (4, .int p0), (0, .ref aC), (1, .int p0), (2, .int p1), (3, .int p2)]) hx hb d_CH_isNewName_17 hl (by decide) rfl (fun ls hl => ?_)
    exact l_CH_isNewName_h19 C0 l D cB cI aC aS aB b hP hk p1 p2  ((((1000 : Int32).toInt - (0 : Int32).toInt).toNat) + 1) p0 0 (Nat.lt_succ_self _) (by rw [tw_CH_isNewName, if_neg c_1]) ls (lv_sub hl [2, 4, 5, 1, 0] rfl)
  · refine lv_iconst (v := 0) hx hb d_CH_isNewName_11 (by decide) ?_
    exact W.zret (v := 0) (ty := .boolean) hx hb hr (rfl) (fun t ht hW => ⟨0, rfl, (by rw [tw_CH_isNewName, if_pos c_1]; first | done | rfl), ht⟩) (fun _ h => by cases h) d_CH_isNewName_12
set_option maxHeartbeats 4000000 in
set_option maxRecDepth 100000 in
theorem c_CH_endOfText (l : Launch) (D : va_G) (cB cI : ClassId) (aC aS aB : Nat) (b : Nat → UInt8) (p0 : Int32) (p1 : Int32) : Met l y_CH_endOfText mw_CH_endOfText { frames := 3, cells := 0, slots := 0, locals := 73 } (va_Pc [.ref aC, .int p0, .int p1] (fun U => va_P D vwCl [(aC, .inr (4, [.ref aS])), (aS, .inr (0, [.ref aB])), (aB, .inl (cB, 202000, .inl (by_ b)))] U.heap ∧ hk_ D cB cI U)) (vp_Si (fun r => r = tw_CH_endOfText b p0 p1)) 0 0 (fun _ => False) := by
  refine Met.ofW (cc := b_CH_endOfText) (maxL := 6) (ret := (some .int)) (by decide) rfl ?_
  intro p e s m args below meth c s₁ B0 hml hv
  obtain ⟨rfl, hP, hk⟩ := hv
  have hK := hk.1
  have hN := hk.2.1
  have hx := B0.exec
  have hb := B0.bytes
  have hr := B0.returns
  have hT : ∀ w ∈ lw_g, w.before _ s = true := fun w h => atoms_spec (ws := mw_CH_endOfText) B0.pre w (List.mem_cons_of_mem _ h)
  have hown : s.vm.findClass R_CH = some m.cls := findClass_of_methodNamed B0.named
  have hlocks := B0.notSynchronized
  have hl := lv_entry ([.ref aC, .int p0, .int p1]) (n := 6) (Nat.le_of_ble_eq_true rfl)
  rw [lg_entry_eq]
  generalize (lg_sl ([.ref aC, .int p0, .int p1]) ++ List.replicate (6 - (lg_sl ([.ref aC, .int p0, .int p1])).length) Slot.unset).toArray = ls at hl ⊢
  have hl : lv_has ls 6 [(0, .ref aC), (1, .int p0), (2, .int p1)] := hl
  refine lv_iload_n hx hb d_CH_endOfText_0 rfl (lv_at hl 1 rfl) ?_
  refine lv_iconst (v := 4) hx hb d_CH_endOfText_1 (by decide) ?_
  refine lv_iadd hx hb d_CH_endOfText_2 ?_
  refine lv_istore_n (lv' := [(3, .int (p0 + 4)), (0, .ref aC), (1, .int p0), (2, .int p1)]) hx hb d_CH_endOfText_3 rfl hl (by decide) rfl (fun ls hl => ?_)
  refine lv_iload_n hx hb d_CH_endOfText_4 rfl (lv_at hl 3 rfl) ?_
  refine lv_iload_n hx hb d_CH_endOfText_5 rfl (lv_at hl 0 rfl) ?_
  refine lv_icmp_ge (tgt := 11) hx hb d_CH_endOfText_6 (by decide) (fun c_1 => ?_) (fun c_1 => ?_)
  · refine lv_aload_n hx hb d_CH_endOfText_11 rfl (lv_at hl 1 rfl) ?_
    refine va_get (D := D) (ci := 4) (v := .ref aS) (C := R_CH) (T := T_CH) (N := 1) hx hb hT u_CH hown hK hP 0 rfl rfl 0 (by decide) (hT _ k_49) (fun _ h9 => h9) rfl d_CH_endOfText_12 ?_
    refine lv_iload_n hx hb d_CH_endOfText_15 rfl (lv_at hl 2 rfl) ?_
    refine rd_V (val := tw_ST_int32 b p0) (As := [.int p0]) (rest := []) ⟨hx, hb, hml, hown, hT⟩ (c_ST_int32 l D cB cI aS aB b p0) (cwV 1 hT (gV_of k_369 k_370 k_371 k_2 kc_ST_int32) rfl rfl rfl hd_ST_int32 ⟨Nat.le_of_ble_eq_true rfl, Nat.le_of_ble_eq_true rfl⟩) hk (hP.sub (ws' := [(aS, .inr (0, [.ref aB])), (aB, .inl (cB, 202000, .inl (by_ b)))]) [1, 2] rfl) (q0 := 0) rfl rfl rfl rfl hl.1 rfl (Nat.le_of_ble_eq_true rfl) d_CH_endOfText_16 ⟨Nat.zero_le _, Nat.zero_le _⟩ ?_
    refine lv_istore (lv' := [(4, .int (tw_ST_int32 b p0)), (3, .int (p0 + 4)), (0, .ref aC), (1, .int p0), (2, .int p1)]) hx hb d_CH_endOfText_19 hl (by decide) rfl (fun ls hl => ?_)
    refine lv_iload hx hb d_CH_endOfText_21 (lv_at hl 0 rfl) ?_
    refine lv_iconst (v := 1) hx hb d_CH_endOfText_23 (by decide) ?_
    refine lv_icmp_lt (tgt := 35) hx hb d_CH_endOfText_24 (by decide) (fun c_2 => ?_) (fun c_2 => ?_)
    · refine lv_iconst (v := -1) hx hb d_CH_endOfText_35 (by decide) ?_
      exact W.iret (v := (-1)) hx hb hr (fun t ht hW => ⟨(-1), rfl, (by rw [tw_CH_endOfText, if_pos c_1, if_pos c_2]; first | done | rfl), ht⟩) (fun _ h => by cases h) d_CH_endOfText_36
    · refine lv_iload hx hb d_CH_endOfText_27 (lv_at hl 0 rfl) ?_
      refine lv_iload_n hx hb d_CH_endOfText_29 rfl (lv_at hl 4 rfl) ?_
      refine lv_iload_n hx hb d_CH_endOfText_30 rfl (lv_at hl 1 rfl) ?_
      refine lv_isub hx hb d_CH_endOfText_31 ?_
      refine lv_icmp_le (tgt := 37) hx hb d_CH_endOfText_32 (by decide) (fun c_3 => ?_) (fun c_3 => ?_)
      · refine lv_iload_n hx hb d_CH_endOfText_37 rfl (lv_at hl 1 rfl) ?_
        refine lv_iload hx hb d_CH_endOfText_38 (lv_at hl 0 rfl) ?_
        refine lv_iadd hx hb d_CH_endOfText_40 ?_
        refine lv_istore (lv' := [(5, .int ((p0 + 4) + (tw_ST_int32 b p0))), (4, .int (tw_ST_int32 b p0)), (3, .int (p0 + 4)), (0, .ref aC), (1, .int p0), (2, .int p1)]) hx hb d_CH_endOfText_41 hl (by decide) rfl (fun ls hl => ?_)
        refine lv_aload_n hx hb d_CH_endOfText_43 rfl (lv_at hl 3 rfl) ?_
        refine va_get (D := D) (ci := 4) (v := .ref aS) (C := R_CH) (T := T_CH) (N := 1) hx hb hT u_CH hown hK hP 0 rfl rfl 0 (by decide) (hT _ k_49) (fun _ h9 => h9) rfl d_CH_endOfText_44 ?_
        refine lv_iload hx hb d_CH_endOfText_47 (lv_at hl 0 rfl) ?_
        refine lv_iconst (v := 1) hx hb d_CH_endOfText_49 (by decide) ?_
        refine lv_isub hx hb d_CH_endOfText_50 ?_
        refine rd_V (val := tw_ST_at b (((p0 + 4) + (tw_ST_int32 b p0)) - 1)) (As := [.int (((p0 + 4) + (tw_ST_int32 b p0)) - 1)]) (rest := []) ⟨hx, hb, hml, hown, hT⟩ (c_ST_at l D cB cI aS aB b (((p0 + 4) + (tw_ST_int32 b p0)) - 1)) (cwV 1 hT (gV_of k_377 k_378 k_379 k_2 kc_ST_at) rfl rfl rfl hd_ST_at ⟨Nat.le_of_ble_eq_true rfl, Nat.le_of_ble_eq_true rfl⟩) hk (hP.sub (ws' := [(aS, .inr (0, [.ref aB])), (aB, .inl (cB, 202000, .inl (by_ b)))]) [1, 2] rfl) (q0 := 0) rfl rfl rfl rfl hl.1 rfl (Nat.le_of_ble_eq_true rfl) d_CH_endOfText_51 ⟨Nat.zero_le _, Nat.zero_le _⟩ ?_
        refine lv_if_ne (tgt := 74) hx hb d_CH_endOfText_54 (by decide) (fun c_4 => ?_) (fun c_4 => ?_)
        · refine lv_iconst (v := -1) hx hb d_CH_endOfText_74 (by decide) ?_
          exact W.iret (v := (-1)) hx hb hr (fun t ht hW => ⟨(-1), rfl, (by rw [tw_CH_endOfText, if_pos c_1, if_neg c_2, if_pos c_3, if_neg c_4]; first | done | rfl), ht⟩) (fun _ h => by cases h) d_CH_endOfText_75
        · refine lv_aload_n hx hb d_CH_endOfText_57 rfl (lv_at hl 3 rfl) ?_
          refine lv_iload_n hx hb d_CH_endOfText_58 rfl (lv_at hl 2 rfl) ?_
          refine lv_iload hx hb d_CH_endOfText_59 (lv_at hl 0 rfl) ?_
          refine lv_iconst (v := 1) hx hb d_CH_endOfText_61 (by decide) ?_
          refine lv_isub hx hb d_CH_endOfText_62 ?_
          refine rd_V (val := b2i (tw_CH_isUtf8 b (p0 + 4) (((p0 + 4) + (tw_ST_int32 b p0)) - 1))) (As := [.int (p0 + 4), .int (((p0 + 4) + (tw_ST_int32 b p0)) - 1)]) (rest := []) ⟨hx, hb, hml, hown, hT⟩ (c_CH_isUtf8 l D cB cI aC aS aB b (p0 + 4) (((p0 + 4) + (tw_ST_int32 b p0)) - 1)) (cwV 2 hT (gV_of k_390 k_392 kp_CH_isUtf8 k_3 kc_CH_isUtf8) rfl rfl rfl hd_CH_isUtf8 ⟨Nat.le_of_ble_eq_true rfl, Nat.le_of_ble_eq_true rfl⟩) hk hP (q0 := 0) rfl rfl rfl rfl hl.1 rfl (Nat.le_of_ble_eq_true rfl) d_CH_endOfText_63 ⟨Nat.zero_le _, Nat.zero_le _⟩ ?_
          refine lv_if_eq (tgt := 74) hx hb d_CH_endOfText_66 (by decide) (fun c_5 => ?_) (fun c_5 => ?_)
          · refine lv_iconst (v := -1) hx hb d_CH_endOfText_74 (by decide) ?_
            exact W.iret (v := (-1)) hx hb hr (fun t ht hW => ⟨(-1), rfl, (by rw [tw_CH_endOfText, if_pos c_1, if_neg c_2, if_pos c_3, if_pos c_4, if_pos c_5]; first | done | rfl), ht⟩) (fun _ h => by cases h) d_CH_endOfText_75
          · refine lv_iload hx hb d_CH_endOfText_69 (lv_at hl 0 rfl) ?_
            refine lv_goto (tgt := 75) hx hb d_CH_endOfText_71 (by decide) ?_
            exact W.iret (v := (p0 + 4) + (tw_ST_int32 b p0)) hx hb hr (fun t ht hW => ⟨(p0 + 4) + (tw_ST_int32 b p0), rfl, (by rw [tw_CH_endOfText, if_pos c_1, if_neg c_2, if_pos c_3, if_pos c_4, if_neg c_5]; first | done | rfl), ht⟩) (fun _ h => by cases h) d_CH_endOfText_75
      · refine lv_iconst (v := -1) hx hb d_CH_endOfText_35 (by decide) ?_
        exact W.iret (v := (-1)) hx hb hr (fun t ht hW => ⟨(-1), rfl, (by rw [tw_CH_endOfText, if_pos c_1, if_neg c_2, if_neg c_3]; first | done | rfl), ht⟩) (fun _ h => by cases h) d_CH_endOfText_36
  · refine lv_iconst (v := -1) hx hb d_CH_endOfText_9 (by decide) ?_
    exact W.iret (v := (-1)) hx hb hr (fun t ht hW => ⟨(-1), rfl, (by rw [tw_CH_endOfText, if_neg c_1]; first | done | rfl), ht⟩) (fun _ h => by cases h) d_CH_endOfText_10
set_option maxHeartbeats 4000000 in
set_option maxRecDepth 100000 in
theorem c_CH_endOfNest (l : Launch) (D : va_G) (cB cI : ClassId) (aC aS aB : Nat) (rF : Nat) (rL : Nat) (fn : Int32 → Int32 → Int32 → Bool) (b : Nat → UInt8) (p0 : Int32) (p1 : Int32) (p2 : Int32) (p3 : Int32) (hn : ∀ x y z : Int32, Met l y_CH_isNest mw_CH_isNest { frames := rF, cells := 0, slots := 0, locals := rL } (va_Pc [.ref aC, .int x, .int y, .int z, .int (p3 + 1)] (fun U => va_P D vwCl [(aC, .inr (4, [.ref aS])), (aS, .inr (0, [.ref aB])), (aB, .inl (cB, 202000, .inl (by_ b)))] U.heap ∧ hk_ D cB cI U)) (vp_Si (fun r => r = b2i (fn x y z))) 0 0 (fun _ => False)) : Met l y_CH_endOfNest mw_CH_endOfNest { frames := rF + 5, cells := 0, slots := 0, locals := rL + 120 } (va_Pc [.ref aC, .int p0, .int p1, .int p2, .int p3] (fun U => va_P D vwCl [(aC, .inr (4, [.ref aS])), (aS, .inr (0, [.ref aB])), (aB, .inl (cB, 202000, .inl (by_ b)))] U.heap ∧ hk_ D cB cI U)) (vp_Si (fun r => r = tw_CH_endOfNest fn b p0 p1 p2 p3)) 0 0 (fun _ => False) := by
  refine Met.ofW (cc := b_CH_endOfNest) (maxL := 6) (ret := (some .int)) (by decide) rfl ?_
  intro p e s m args below meth c s₁ B0 hml hv
  obtain ⟨rfl, hP, hk⟩ := hv
  have hK := hk.1
  have hN := hk.2.1
  have hx := B0.exec
  have hb := B0.bytes
  have hr := B0.returns
  have hT : ∀ w ∈ lw_g, w.before _ s = true := fun w h => atoms_spec (ws := mw_CH_endOfNest) B0.pre w (List.mem_cons_of_mem _ h)
  have hown : s.vm.findClass R_CH = some m.cls := findClass_of_methodNamed B0.named
  have hlocks := B0.notSynchronized
  have hl := lv_entry ([.ref aC, .int p0, .int p1, .int p2, .int p3]) (n := 6) (Nat.le_of_ble_eq_true rfl)
  rw [lg_entry_eq]
  generalize (lg_sl ([.ref aC, .int p0, .int p1, .int p2, .int p3]) ++ List.replicate (6 - (lg_sl ([.ref aC, .int p0, .int p1, .int p2, .int p3])).length) Slot.unset).toArray = ls at hl ⊢
  have hl : lv_has ls 6 [(0, .ref aC), (1, .int p0), (2, .int p1), (3, .int p2), (4, .int p3)] := hl
  refine lv_iload_n hx hb d_CH_endOfNest_0 rfl (lv_at hl 3 rfl) ?_
  refine lv_iload_n hx hb d_CH_endOfNest_1 rfl (lv_at hl 2 rfl) ?_
  refine lv_isub hx hb d_CH_endOfNest_2 ?_
  refine lv_iconst (v := 5) hx hb d_CH_endOfNest_3 (by decide) ?_
  refine lv_icmp_ge (tgt := 9) hx hb d_CH_endOfNest_4 (by decide) (fun c_1 => ?_) (fun c_1 => ?_)
  · refine lv_aload_n hx hb d_CH_endOfNest_9 rfl (lv_at hl 0 rfl) ?_
    refine va_get (D := D) (ci := 4) (v := .ref aS) (C := R_CH) (T := T_CH) (N := 1) hx hb hT u_CH hown hK hP 0 rfl rfl 0 (by decide) (hT _ k_49) (fun _ h9 => h9) rfl d_CH_endOfNest_10 ?_
    refine lv_iload_n hx hb d_CH_endOfNest_13 rfl (lv_at hl 2 rfl) ?_
    refine rd_V (val := tw_ST_int32 b p1) (As := [.int p1]) (rest := []) ⟨hx, hb, hml, hown, hT⟩ (c_ST_int32 l D cB cI aS aB b p1) (cwV 1 hT (gV_of k_369 k_370 k_371 k_2 kc_ST_int32) rfl rfl rfl hd_ST_int32 ⟨rl_s (Nat.le_of_ble_eq_true rfl), rl_s (Nat.le_of_ble_eq_true rfl)⟩) hk (hP.sub (ws' := [(aS, .inr (0, [.ref aB])), (aB, .inl (cB, 202000, .inl (by_ b)))]) [1, 2] rfl) (q0 := 0) rfl rfl rfl rfl hl.1 rfl (Nat.le_of_ble_eq_true rfl) d_CH_endOfNest_14 ⟨Nat.zero_le _, Nat.zero_le _⟩ ?_
    refine lv_istore (lv' := [(5, .int (tw_ST_int32 b p1)), (0, .ref aC), (1, .int p0), (2, .int p1), (3, .int p2), (4, .int p3)]) hx hb d_CH_endOfNest_17 hl (by decide) rfl (fun ls hl => ?_)
    refine lv_iload hx hb d_CH_endOfNest_19 (lv_at hl 0 rfl) ?_
    refine lv_iconst (v := 5) hx hb d_CH_endOfNest_21 (by decide) ?_
    refine lv_icmp_lt (tgt := 33) hx hb d_CH_endOfNest_22 (by decide) (fun c_2 => ?_) (fun c_2 => ?_)
    · refine lv_iconst (v := -1) hx hb d_CH_endOfNest_33 (by decide) ?_
      exact W.iret (v := (-1)) hx hb hr (fun t ht hW => ⟨(-1), rfl, (by rw [tw_CH_endOfNest, if_pos c_1, if_pos c_2]; first | done | rfl), ht⟩) (fun _ h => by cases h) d_CH_endOfNest_34
    · refine lv_iload hx hb d_CH_endOfNest_25 (lv_at hl 0 rfl) ?_
      refine lv_iload_n hx hb d_CH_endOfNest_27 rfl (lv_at hl 4 rfl) ?_
      refine lv_iload_n hx hb d_CH_endOfNest_28 rfl (lv_at hl 3 rfl) ?_
      refine lv_isub hx hb d_CH_endOfNest_29 ?_
      refine lv_icmp_le (tgt := 35) hx hb d_CH_endOfNest_30 (by decide) (fun c_3 => ?_) (fun c_3 => ?_)
      · refine lv_aload_n hx hb d_CH_endOfNest_35 rfl (lv_at hl 1 rfl) ?_
        refine lv_iload_n hx hb d_CH_endOfNest_36 rfl (lv_at hl 3 rfl) ?_
        refine lv_iload_n hx hb d_CH_endOfNest_37 rfl (lv_at hl 3 rfl) ?_
        refine lv_iload hx hb d_CH_endOfNest_38 (lv_at hl 0 rfl) ?_
        refine lv_iadd hx hb d_CH_endOfNest_40 ?_
        refine lv_iload_n hx hb d_CH_endOfNest_41 rfl (lv_at hl 2 rfl) ?_
        refine lv_iload hx hb d_CH_endOfNest_42 (lv_at hl 5 rfl) ?_
        refine lv_iconst (v := 1) hx hb d_CH_endOfNest_44 (by decide) ?_
        refine lv_iadd hx hb d_CH_endOfNest_45 ?_
        refine rd_V (val := b2i (fn p1 (p1 + (tw_ST_int32 b p1)) p0)) (As := [.int p1, .int (p1 + (tw_ST_int32 b p1)), .int p0, .int (p3 + 1)]) (rest := []) ⟨hx, hb, hml, hown, hT⟩ (hn p1 (p1 + (tw_ST_int32 b p1)) p0) (cwV 4 hT (gV_of k_365 k_367 kp_CH_isNest k_3 kc_CH_isNest) rfl rfl rfl hd_CH_isNest ⟨rl_f (Nat.le_of_ble_eq_true rfl), rl_l (Nat.le_of_ble_eq_true rfl)⟩) hk hP (q0 := 0) rfl rfl rfl rfl hl.1 rfl (Nat.le_of_ble_eq_true rfl) d_CH_endOfNest_46 ⟨Nat.zero_le _, Nat.zero_le _⟩ ?_
        refine lv_if_eq (tgt := 59) hx hb d_CH_endOfNest_49 (by decide) (fun c_4 => ?_) (fun c_4 => ?_)
        · refine lv_iconst (v := -1) hx hb d_CH_endOfNest_59 (by decide) ?_
          exact W.iret (v := (-1)) hx hb hr (fun t ht hW => ⟨(-1), rfl, (by rw [tw_CH_endOfNest, if_pos c_1, if_neg c_2, if_pos c_3, if_pos c_4]; first | done | rfl), ht⟩) (fun _ h => by cases h) d_CH_endOfNest_60
        · refine lv_iload_n hx hb d_CH_endOfNest_52 rfl (lv_at hl 3 rfl) ?_
          refine lv_iload hx hb d_CH_endOfNest_53 (lv_at hl 0 rfl) ?_
          refine lv_iadd hx hb d_CH_endOfNest_55 ?_
          refine lv_goto (tgt := 60) hx hb d_CH_endOfNest_56 (by decide) ?_
          exact W.iret (v := p1 + (tw_ST_int32 b p1)) hx hb hr (fun t ht hW => ⟨p1 + (tw_ST_int32 b p1), rfl, (by rw [tw_CH_endOfNest, if_pos c_1, if_neg c_2, if_pos c_3, if_neg c_4]; first | done | rfl), ht⟩) (fun _ h => by cases h) d_CH_endOfNest_60
      · refine lv_iconst (v := -1) hx hb d_CH_endOfNest_33 (by decide) ?_
        exact W.iret (v := (-1)) hx hb hr (fun t ht hW => ⟨(-1), rfl, (by rw [tw_CH_endOfNest, if_pos c_1, if_neg c_2, if_neg c_3]; first | done | rfl), ht⟩) (fun _ h => by cases h) d_CH_endOfNest_34
  · refine lv_iconst (v := -1) hx hb d_CH_endOfNest_7 (by decide) ?_
    exact W.iret (v := (-1)) hx hb hr (fun t ht hW => ⟨(-1), rfl, (by rw [tw_CH_endOfNest, if_neg c_1]; first | done | rfl), ht⟩) (fun _ h => by cases h) d_CH_endOfNest_8
set_option maxHeartbeats 4000000 in
set_option maxRecDepth 100000 in
theorem c_CH_endOfValue (l : Launch) (D : va_G) (cB cI : ClassId) (aC aS aB : Nat) (rF : Nat) (rL : Nat) (fe : Int32 → Int32 → Int32 → Int32) (b : Nat → UInt8) (p0 : Int32) (p1 : Int32) (p2 : Int32) (p3 : Int32) (he : ∀ x y z : Int32, Met l y_CH_endOfNest mw_CH_endOfNest { frames := rF, cells := 0, slots := 0, locals := rL } (va_Pc [.ref aC, .int x, .int y, .int z, .int p3] (fun U => va_P D vwCl [(aC, .inr (4, [.ref aS])), (aS, .inr (0, [.ref aB])), (aB, .inl (cB, 202000, .inl (by_ b)))] U.heap ∧ hk_ D cB cI U)) (vp_Si (fun r => r = fe x y z)) 0 0 (fun _ => False)) : Met l y_CH_endOfValue mw_CH_endOfValue { frames := rF + 5, cells := 0, slots := 0, locals := rL + 120 } (va_Pc [.ref aC, .int p0, .int p1, .int p2, .int p3] (fun U => va_P D vwCl [(aC, .inr (4, [.ref aS])), (aS, .inr (0, [.ref aB])), (aB, .inl (cB, 202000, .inl (by_ b)))] U.heap ∧ hk_ D cB cI U)) (vp_Si (fun r => r = tw_CH_endOfValue fe b p0 p1 p2 p3)) 0 0 (fun _ => False) := by
  refine Met.ofW (cc := b_CH_endOfValue) (maxL := 5) (ret := (some .int)) (by decide) rfl ?_
  intro p e s m args below meth c s₁ B0 hml hv
  obtain ⟨rfl, hP, hk⟩ := hv
  have hK := hk.1
  have hN := hk.2.1
  have hx := B0.exec
  have hb := B0.bytes
  have hr := B0.returns
  have hT : ∀ w ∈ lw_g, w.before _ s = true := fun w h => atoms_spec (ws := mw_CH_endOfValue) B0.pre w (List.mem_cons_of_mem _ h)
  have hown : s.vm.findClass R_CH = some m.cls := findClass_of_methodNamed B0.named
  have hlocks := B0.notSynchronized
  have hl := lv_entry ([.ref aC, .int p0, .int p1, .int p2, .int p3]) (n := 5) (Nat.le_of_ble_eq_true rfl)
  rw [lg_entry_eq]
  generalize (lg_sl ([.ref aC, .int p0, .int p1, .int p2, .int p3]) ++ List.replicate (5 - (lg_sl ([.ref aC, .int p0, .int p1, .int p2, .int p3])).length) Slot.unset).toArray = ls at hl ⊢
  have hl : lv_has ls 5 [(0, .ref aC), (1, .int p0), (2, .int p1), (3, .int p2), (4, .int p3)] := hl
  refine lv_iload_n hx hb d_CH_endOfValue_0 rfl (lv_at hl 1 rfl) ?_
  by_cases c_1 : p0 = 2
  · refine sw_T (tgt := 145) hx hb d_CH_endOfValue_1 (Or.inr ⟨by rw [c_1]; decide, by rw [c_1]; decide, 144, by rw [c_1]; rfl, by decide⟩) ?_
    refine lv_aload_n hx hb d_CH_endOfValue_145 rfl (lv_at hl 0 rfl) ?_
    refine lv_iload_n hx hb d_CH_endOfValue_146 rfl (lv_at hl 2 rfl) ?_
    refine lv_iload_n hx hb d_CH_endOfValue_147 rfl (lv_at hl 3 rfl) ?_
    refine rd_V (val := tw_CH_endOfText b p1 p2) (As := [.int p1, .int p2]) (rest := []) ⟨hx, hb, hml, hown, hT⟩ (c_CH_endOfText l D cB cI aC aS aB b p1 p2) (cwV 2 hT (gV_of k_423 k_425 kp_CH_endOfText k_3 kc_CH_endOfText) rfl rfl rfl hd_CH_endOfText ⟨rl_s (Nat.le_of_ble_eq_true rfl), rl_s (Nat.le_of_ble_eq_true rfl)⟩) hk hP (q0 := 0) rfl rfl rfl rfl hl.1 rfl (Nat.le_of_ble_eq_true rfl) d_CH_endOfValue_148 ⟨Nat.zero_le _, Nat.zero_le _⟩ ?_
    exact W.iret (v := tw_CH_endOfText b p1 p2) hx hb hr (fun t ht hW => ⟨tw_CH_endOfText b p1 p2, rfl, (by rw [tw_CH_endOfValue, if_pos c_1]; first | done | rfl), ht⟩) (fun _ h => by cases h) d_CH_endOfValue_151
  by_cases c_2 : p0 = 3
  · refine sw_T (tgt := 152) hx hb d_CH_endOfValue_1 (Or.inr ⟨by rw [c_2]; decide, by rw [c_2]; decide, 151, by rw [c_2]; rfl, by decide⟩) ?_
    refine lv_aload_n hx hb d_CH_endOfValue_152 rfl (lv_at hl 0 rfl) ?_
    refine lv_iconst (v := 0) hx hb d_CH_endOfValue_153 (by decide) ?_
    refine lv_iload_n hx hb d_CH_endOfValue_154 rfl (lv_at hl 2 rfl) ?_
    refine lv_iload_n hx hb d_CH_endOfValue_155 rfl (lv_at hl 3 rfl) ?_
    refine lv_iload hx hb d_CH_endOfValue_156 (lv_at hl 4 rfl) ?_
    refine rd_V (val := fe 0 p1 p2) (As := [.int 0, .int p1, .int p2, .int p3]) (rest := []) ⟨hx, hb, hml, hown, hT⟩ (he 0 p1 p2) (cwV 4 hT (gV_of k_427 k_429 kp_CH_endOfNest k_3 kc_CH_endOfNest) rfl rfl rfl hd_CH_endOfNest ⟨rl_f (Nat.le_of_ble_eq_true rfl), rl_l (Nat.le_of_ble_eq_true rfl)⟩) hk hP (q0 := 0) rfl rfl rfl rfl hl.1 rfl (Nat.le_of_ble_eq_true rfl) d_CH_endOfValue_158 ⟨Nat.zero_le _, Nat.zero_le _⟩ ?_
    exact W.iret (v := fe 0 p1 p2) hx hb hr (fun t ht hW => ⟨fe 0 p1 p2, rfl, (by rw [tw_CH_endOfValue, if_neg c_1, if_pos c_2]; first | done | rfl), ht⟩) (fun _ h => by cases h) d_CH_endOfValue_161
  by_cases c_3 : p0 = 4
  · refine sw_T (tgt := 162) hx hb d_CH_endOfValue_1 (Or.inr ⟨by rw [c_3]; decide, by rw [c_3]; decide, 161, by rw [c_3]; rfl, by decide⟩) ?_
    refine lv_aload_n hx hb d_CH_endOfValue_162 rfl (lv_at hl 0 rfl) ?_
    refine lv_iconst (v := 1) hx hb d_CH_endOfValue_163 (by decide) ?_
    refine lv_iload_n hx hb d_CH_endOfValue_164 rfl (lv_at hl 2 rfl) ?_
    refine lv_iload_n hx hb d_CH_endOfValue_165 rfl (lv_at hl 3 rfl) ?_
    refine lv_iload hx hb d_CH_endOfValue_166 (lv_at hl 4 rfl) ?_
    refine rd_V (val := fe 1 p1 p2) (As := [.int 1, .int p1, .int p2, .int p3]) (rest := []) ⟨hx, hb, hml, hown, hT⟩ (he 1 p1 p2) (cwV 4 hT (gV_of k_427 k_429 kp_CH_endOfNest k_3 kc_CH_endOfNest) rfl rfl rfl hd_CH_endOfNest ⟨rl_f (Nat.le_of_ble_eq_true rfl), rl_l (Nat.le_of_ble_eq_true rfl)⟩) hk hP (q0 := 0) rfl rfl rfl rfl hl.1 rfl (Nat.le_of_ble_eq_true rfl) d_CH_endOfValue_168 ⟨Nat.zero_le _, Nat.zero_le _⟩ ?_
    exact W.iret (v := fe 1 p1 p2) hx hb hr (fun t ht hW => ⟨fe 1 p1 p2, rfl, (by rw [tw_CH_endOfValue, if_neg c_1, if_neg c_2, if_pos c_3]; first | done | rfl), ht⟩) (fun _ h => by cases h) d_CH_endOfValue_171
  by_cases c_4 : p0 = 8
  · refine sw_T (tgt := 116) hx hb d_CH_endOfValue_1 (Or.inr ⟨by rw [c_4]; decide, by rw [c_4]; decide, 115, by rw [c_4]; rfl, by decide⟩) ?_
    refine lv_iload_n hx hb d_CH_endOfValue_116 rfl (lv_at hl 3 rfl) ?_
    refine lv_iload_n hx hb d_CH_endOfValue_117 rfl (lv_at hl 2 rfl) ?_
    refine lv_isub hx hb d_CH_endOfValue_118 ?_
    refine lv_iconst (v := 1) hx hb d_CH_endOfValue_119 (by decide) ?_
    refine lv_icmp_lt (tgt := 141) hx hb d_CH_endOfValue_120 (by decide) (fun c_5 => ?_) (fun c_5 => ?_)
    · refine lv_iconst (v := -1) hx hb d_CH_endOfValue_141 (by decide) ?_
      exact W.iret (v := (-1)) hx hb hr (fun t ht hW => ⟨(-1), rfl, (by rw [tw_CH_endOfValue, if_neg c_1, if_neg c_2, if_neg c_3, if_pos c_4, if_pos c_5]; first | done | rfl), ht⟩) (fun _ h => by cases h) d_CH_endOfValue_142
    · refine lv_aload_n hx hb d_CH_endOfValue_123 rfl (lv_at hl 0 rfl) ?_
      refine va_get (D := D) (ci := 4) (v := .ref aS) (C := R_CH) (T := T_CH) (N := 1) hx hb hT u_CH hown hK hP 0 rfl rfl 0 (by decide) (hT _ k_49) (fun _ h9 => h9) rfl d_CH_endOfValue_124 ?_
      refine lv_iload_n hx hb d_CH_endOfValue_127 rfl (lv_at hl 2 rfl) ?_
      refine rd_V (val := tw_ST_at b p1) (As := [.int p1]) (rest := []) ⟨hx, hb, hml, hown, hT⟩ (c_ST_at l D cB cI aS aB b p1) (cwV 1 hT (gV_of k_377 k_378 k_379 k_2 kc_ST_at) rfl rfl rfl hd_ST_at ⟨rl_s (Nat.le_of_ble_eq_true rfl), rl_s (Nat.le_of_ble_eq_true rfl)⟩) hk (hP.sub (ws' := [(aS, .inr (0, [.ref aB])), (aB, .inl (cB, 202000, .inl (by_ b)))]) [1, 2] rfl) (q0 := 0) rfl rfl rfl rfl hl.1 rfl (Nat.le_of_ble_eq_true rfl) d_CH_endOfValue_128 ⟨Nat.zero_le _, Nat.zero_le _⟩ ?_
      refine lv_iconst (v := 1) hx hb d_CH_endOfValue_131 (by decide) ?_
      refine lv_icmp_gt (tgt := 141) hx hb d_CH_endOfValue_132 (by decide) (fun c_6 => ?_) (fun c_6 => ?_)
      · refine lv_iconst (v := -1) hx hb d_CH_endOfValue_141 (by decide) ?_
        exact W.iret (v := (-1)) hx hb hr (fun t ht hW => ⟨(-1), rfl, (by rw [tw_CH_endOfValue, if_neg c_1, if_neg c_2, if_neg c_3, if_pos c_4, if_neg c_5, if_pos c_6]; first | done | rfl), ht⟩) (fun _ h => by cases h) d_CH_endOfValue_142
      · refine lv_iload_n hx hb d_CH_endOfValue_135 rfl (lv_at hl 2 rfl) ?_
        refine lv_iconst (v := 1) hx hb d_CH_endOfValue_136 (by decide) ?_
        refine lv_iadd hx hb d_CH_endOfValue_137 ?_
        refine lv_goto (tgt := 142) hx hb d_CH_endOfValue_138 (by decide) ?_
        exact W.iret (v := p1 + 1) hx hb hr (fun t ht hW => ⟨p1 + 1, rfl, (by rw [tw_CH_endOfValue, if_neg c_1, if_neg c_2, if_neg c_3, if_pos c_4, if_neg c_5, if_neg c_6]; first | done | rfl), ht⟩) (fun _ h => by cases h) d_CH_endOfValue_142
  by_cases c_7 : p0 = 10
  · refine sw_T (tgt := 143) hx hb d_CH_endOfValue_1 (Or.inr ⟨by rw [c_7]; decide, by rw [c_7]; decide, 142, by rw [c_7]; rfl, by decide⟩) ?_
    refine lv_iload_n hx hb d_CH_endOfValue_143 rfl (lv_at hl 2 rfl) ?_
    exact W.iret (v := p1) hx hb hr (fun t ht hW => ⟨p1, rfl, (by rw [tw_CH_endOfValue, if_neg c_1, if_neg c_2, if_neg c_3, if_neg c_4, if_pos c_7]; first | done | rfl), ht⟩) (fun _ h => by cases h) d_CH_endOfValue_144
  by_cases c_8 : p0 = 16
  · refine sw_T (tgt := 84) hx hb d_CH_endOfValue_1 (Or.inr ⟨by rw [c_8]; decide, by rw [c_8]; decide, 83, by rw [c_8]; rfl, by decide⟩) ?_
    refine lv_iload_n hx hb d_CH_endOfValue_84 rfl (lv_at hl 3 rfl) ?_
    refine lv_iload_n hx hb d_CH_endOfValue_85 rfl (lv_at hl 2 rfl) ?_
    refine lv_isub hx hb d_CH_endOfValue_86 ?_
    refine lv_iconst (v := 4) hx hb d_CH_endOfValue_87 (by decide) ?_
    refine lv_icmp_lt (tgt := 97) hx hb d_CH_endOfValue_88 (by decide) (fun c_9 => ?_) (fun c_9 => ?_)
    · refine lv_iconst (v := -1) hx hb d_CH_endOfValue_97 (by decide) ?_
      exact W.iret (v := (-1)) hx hb hr (fun t ht hW => ⟨(-1), rfl, (by rw [tw_CH_endOfValue, if_neg c_1, if_neg c_2, if_neg c_3, if_neg c_4, if_neg c_7, if_pos c_8, if_pos c_9]; first | done | rfl), ht⟩) (fun _ h => by cases h) d_CH_endOfValue_98
    · refine lv_iload_n hx hb d_CH_endOfValue_91 rfl (lv_at hl 2 rfl) ?_
      refine lv_iconst (v := 4) hx hb d_CH_endOfValue_92 (by decide) ?_
      refine lv_iadd hx hb d_CH_endOfValue_93 ?_
      refine lv_goto (tgt := 98) hx hb d_CH_endOfValue_94 (by decide) ?_
      exact W.iret (v := p1 + 4) hx hb hr (fun t ht hW => ⟨p1 + 4, rfl, (by rw [tw_CH_endOfValue, if_neg c_1, if_neg c_2, if_neg c_3, if_neg c_4, if_neg c_7, if_pos c_8, if_neg c_9]; first | done | rfl), ht⟩) (fun _ h => by cases h) d_CH_endOfValue_98
  by_cases c_10 : p0 = 18
  · refine sw_T (tgt := 99) hx hb d_CH_endOfValue_1 (Or.inr ⟨by rw [c_10]; decide, by rw [c_10]; decide, 98, by rw [c_10]; rfl, by decide⟩) ?_
    refine lv_iload_n hx hb d_CH_endOfValue_99 rfl (lv_at hl 3 rfl) ?_
    refine lv_iload_n hx hb d_CH_endOfValue_100 rfl (lv_at hl 2 rfl) ?_
    refine lv_isub hx hb d_CH_endOfValue_101 ?_
    refine lv_bipush (v := 8) hx hb d_CH_endOfValue_102 (by decide) ?_
    refine lv_icmp_lt (tgt := 114) hx hb d_CH_endOfValue_104 (by decide) (fun c_11 => ?_) (fun c_11 => ?_)
    · refine lv_iconst (v := -1) hx hb d_CH_endOfValue_114 (by decide) ?_
      exact W.iret (v := (-1)) hx hb hr (fun t ht hW => ⟨(-1), rfl, (by rw [tw_CH_endOfValue, if_neg c_1, if_neg c_2, if_neg c_3, if_neg c_4, if_neg c_7, if_neg c_8, if_pos c_10, if_pos c_11]; first | done | rfl), ht⟩) (fun _ h => by cases h) d_CH_endOfValue_115
    · refine lv_iload_n hx hb d_CH_endOfValue_107 rfl (lv_at hl 2 rfl) ?_
      refine lv_bipush (v := 8) hx hb d_CH_endOfValue_108 (by decide) ?_
      refine lv_iadd hx hb d_CH_endOfValue_110 ?_
      refine lv_goto (tgt := 115) hx hb d_CH_endOfValue_111 (by decide) ?_
      exact W.iret (v := p1 + 8) hx hb hr (fun t ht hW => ⟨p1 + 8, rfl, (by rw [tw_CH_endOfValue, if_neg c_1, if_neg c_2, if_neg c_3, if_neg c_4, if_neg c_7, if_neg c_8, if_pos c_10, if_neg c_11]; first | done | rfl), ht⟩) (fun _ h => by cases h) d_CH_endOfValue_115
  have h_c_1 := lv_neT c_1 (show (2 : Int32).toInt = 2 from rfl)
  have h_c_2 := lv_neT c_2 (show (3 : Int32).toInt = 3 from rfl)
  have h_c_3 := lv_neT c_3 (show (4 : Int32).toInt = 4 from rfl)
  have h_c_4 := lv_neT c_4 (show (8 : Int32).toInt = 8 from rfl)
  have h_c_7 := lv_neT c_7 (show (10 : Int32).toInt = 10 from rfl)
  have h_c_8 := lv_neT c_8 (show (16 : Int32).toInt = 16 from rfl)
  have h_c_10 := lv_neT c_10 (show (18 : Int32).toInt = 18 from rfl)
  refine sw_T (tgt := 172) hx hb d_CH_endOfValue_1 (by
    rcases Int.lt_or_le p0.toInt 2 with q | q
    · exact Or.inl ⟨Or.inl q, by decide⟩
    · rcases Int.lt_or_le 18 p0.toInt with q2 | q2
      · exact Or.inl ⟨Or.inr q2, by decide⟩
      · refine Or.inr ⟨by omega, by omega, ?_⟩
        have q3 : p0.toInt = 5 ∨ p0.toInt = 6 ∨ p0.toInt = 7 ∨ p0.toInt = 9 ∨ p0.toInt = 11 ∨ p0.toInt = 12 ∨ p0.toInt = 13 ∨ p0.toInt = 14 ∨ p0.toInt = 15 ∨ p0.toInt = 17 := by omega
        rcases q3 with q3 | q3 | q3 | q3 | q3 | q3 | q3 | q3 | q3 | q3 <;> (rw [q3]; exact ⟨_, rfl, by decide⟩)) ?_
  refine lv_iconst (v := -1) hx hb d_CH_endOfValue_172 (by decide) ?_
  exact W.iret (v := (-1)) hx hb hr (fun t ht hW => ⟨(-1), rfl, (by rw [tw_CH_endOfValue, if_neg c_1, if_neg c_2, if_neg c_3, if_neg c_4, if_neg c_7, if_neg c_8, if_neg c_10]; first | done | rfl), ht⟩) (fun _ h => by cases h) d_CH_endOfValue_173
set_option maxHeartbeats 4000000 in
set_option maxRecDepth 100000 in
theorem l_CH_isNest_h43 {p : Program} {e : Env} {s : State} {m : MethodId} {args : Array Value} {below : List Frame} {meth : Method} {c : Code} {V : Bool} (C0 : lc_C p s m meth c args b_CH_isNest 9 (some .boolean) R_CH lw_g) (l : Launch) (D : va_G) (cB cI : ClassId) (aC aS aB : Nat) (rF : Nat) (rL : Nat) (fv : Int32 → Int32 → Int32 → Int32) (b : Nat → UInt8) (hP : va_P D vwCl [(aC, .inr (4, [.ref aS])), (aS, .inr (0, [.ref aB])), (aB, .inl (cB, 202000, .inl (by_ b)))] s.heap) (hk : hk_ D cB cI s) (p0 : Int32) (p2 : Int32) (p3 : Int32) (x5 : Int32) (hv : ¬ 16 < p3 → ∀ x y z : Int32, Met l y_CH_endOfValue mw_CH_endOfValue { frames := rF, cells := 0, slots := 0, locals := rL } (va_Pc [.ref aC, .int x, .int y, .int z, .int p3] (fun U => va_P D vwCl [(aC, .inr (4, [.ref aS])), (aS, .inr (0, [.ref aB])), (aB, .inl (cB, 202000, .inl (by_ b)))] U.heap ∧ hk_ D cB cI U)) (vp_Si (fun r => r = fv x y z)) 0 0 (fun _ => False)) (hf1 : ¬ 16 < p3) : ∀ (n : Nat) (x6 : Int32) (x7 : Int32), ((1000 : Int32).toInt - x7.toInt).toNat < n → V = tw_CH_isNest_h43 fv b p0 p2 p3 x5 n x6 x7 → ∀ ls : Array Slot, lv_has ls 9 [(0, .ref aC), (1, .int p0), (3, .int p2), (4, .int p3), (5, .int x5), (6, .int x6), (7, .int x7)] → W p l e ({ frames := rF + 5, cells := 0, slots := 0, locals := rL + 120 }) s m args below meth c s.heap [] 0 0 (MQ below (vp_Si (fun r => r = b2i V)) args s 0 0 (fun _ => False)) (F0 m 43 ls []) := by
  obtain ⟨hx, hb, hml, hr, hown, hlocks, hT⟩ := id C0
  have hK := hk.1
  have hN := hk.2.1
  intro n
  induction n with
  | zero =>
    intro x6 x7 hm
    exact absurd hm (Nat.not_lt_zero _)
  | succ n ih =>
    intro x6 x7 hm hV ls hl
    refine lv_iload hx hb d_CH_isNest_43 (lv_at hl 6 rfl) ?_
    refine lv_sipush (v := 1000) hx hb d_CH_isNest_45 (by decide) ?_
    refine lv_icmp_ge (tgt := 154) hx hb d_CH_isNest_48 (by decide) (fun c_4 => ?_) (fun c_4 => ?_)
    · refine lv_iload hx hb d_CH_isNest_154 (lv_at hl 5 rfl) ?_
      refine lv_iload hx hb d_CH_isNest_156 (lv_at hl 4 rfl) ?_
      refine lv_icmp_ne (tgt := 177) hx hb d_CH_isNest_158 (by decide) (fun c_5 => ?_) (fun c_5 => ?_)
      · refine lv_iconst (v := 0) hx hb d_CH_isNest_177 (by decide) ?_
        exact W.zret (v := 0) (ty := .boolean) hx hb hr (rfl) (fun t ht hW => ⟨0, rfl, (by rw [hV, tw_CH_isNest_h43, if_pos c_4, if_neg c_5]; first | done | rfl), ht⟩) (fun _ h => by cases h) d_CH_isNest_178
      · refine lv_aload_n hx hb d_CH_isNest_161 rfl (lv_at hl 0 rfl) ?_
        refine va_get (D := D) (ci := 4) (v := .ref aS) (C := R_CH) (T := T_CH) (N := 1) hx hb hT u_CH hown hK hP 0 rfl rfl 0 (by decide) (hT _ k_49) (fun _ h9 => h9) rfl d_CH_isNest_162 ?_
        refine lv_iload hx hb d_CH_isNest_165 (lv_at hl 4 rfl) ?_
        refine rd_V (val := tw_ST_at b x5) (As := [.int x5]) (rest := []) ⟨hx, hb, hml, hown, hT⟩ (c_ST_at l D cB cI aS aB b x5) (cwV 1 hT (gV_of k_377 k_378 k_379 k_2 kc_ST_at) rfl rfl rfl hd_ST_at ⟨rl_s (Nat.le_of_ble_eq_true rfl), rl_s (Nat.le_of_ble_eq_true rfl)⟩) hk (hP.sub (ws' := [(aS, .inr (0, [.ref aB])), (aB, .inl (cB, 202000, .inl (by_ b)))]) [1, 2] rfl) (q0 := 0) rfl rfl rfl rfl hl.1 rfl (Nat.le_of_ble_eq_true rfl) d_CH_isNest_167 ⟨Nat.zero_le _, Nat.zero_le _⟩ ?_
        refine lv_if_ne (tgt := 177) hx hb d_CH_isNest_170 (by decide) (fun c_6 => ?_) (fun c_6 => ?_)
        · refine lv_iconst (v := 0) hx hb d_CH_isNest_177 (by decide) ?_
          exact W.zret (v := 0) (ty := .boolean) hx hb hr (rfl) (fun t ht hW => ⟨0, rfl, (by rw [hV, tw_CH_isNest_h43, if_pos c_4, if_pos c_5, if_neg c_6]; first | done | rfl), ht⟩) (fun _ h => by cases h) d_CH_isNest_178
        · refine lv_iconst (v := 1) hx hb d_CH_isNest_173 (by decide) ?_
          refine lv_goto (tgt := 178) hx hb d_CH_isNest_174 (by decide) ?_
          exact W.zret (v := 1) (ty := .boolean) hx hb hr (rfl) (fun t ht hW => ⟨1, rfl, (by rw [hV, tw_CH_isNest_h43, if_pos c_4, if_pos c_5, if_pos c_6]; first | done | rfl), ht⟩) (fun _ h => by cases h) d_CH_isNest_178
    · refine lv_iload hx hb d_CH_isNest_51 (lv_at hl 5 rfl) ?_
      refine lv_iload hx hb d_CH_isNest_53 (lv_at hl 4 rfl) ?_
      refine lv_icmp_ge (tgt := 154) hx hb d_CH_isNest_55 (by decide) (fun c_7 => ?_) (fun c_7 => ?_)
      · refine lv_iload hx hb d_CH_isNest_154 (lv_at hl 5 rfl) ?_
        refine lv_iload hx hb d_CH_isNest_156 (lv_at hl 4 rfl) ?_
        refine lv_icmp_ne (tgt := 177) hx hb d_CH_isNest_158 (by decide) (fun c_8 => ?_) (fun c_8 => ?_)
        · refine lv_iconst (v := 0) hx hb d_CH_isNest_177 (by decide) ?_
          exact W.zret (v := 0) (ty := .boolean) hx hb hr (rfl) (fun t ht hW => ⟨0, rfl, (by rw [hV, tw_CH_isNest_h43, if_neg c_4, if_pos c_7, if_neg c_8]; first | done | rfl), ht⟩) (fun _ h => by cases h) d_CH_isNest_178
        · refine lv_aload_n hx hb d_CH_isNest_161 rfl (lv_at hl 0 rfl) ?_
          refine va_get (D := D) (ci := 4) (v := .ref aS) (C := R_CH) (T := T_CH) (N := 1) hx hb hT u_CH hown hK hP 0 rfl rfl 0 (by decide) (hT _ k_49) (fun _ h9 => h9) rfl d_CH_isNest_162 ?_
          refine lv_iload hx hb d_CH_isNest_165 (lv_at hl 4 rfl) ?_
          refine rd_V (val := tw_ST_at b x5) (As := [.int x5]) (rest := []) ⟨hx, hb, hml, hown, hT⟩ (c_ST_at l D cB cI aS aB b x5) (cwV 1 hT (gV_of k_377 k_378 k_379 k_2 kc_ST_at) rfl rfl rfl hd_ST_at ⟨rl_s (Nat.le_of_ble_eq_true rfl), rl_s (Nat.le_of_ble_eq_true rfl)⟩) hk (hP.sub (ws' := [(aS, .inr (0, [.ref aB])), (aB, .inl (cB, 202000, .inl (by_ b)))]) [1, 2] rfl) (q0 := 0) rfl rfl rfl rfl hl.1 rfl (Nat.le_of_ble_eq_true rfl) d_CH_isNest_167 ⟨Nat.zero_le _, Nat.zero_le _⟩ ?_
          refine lv_if_ne (tgt := 177) hx hb d_CH_isNest_170 (by decide) (fun c_9 => ?_) (fun c_9 => ?_)
          · refine lv_iconst (v := 0) hx hb d_CH_isNest_177 (by decide) ?_
            exact W.zret (v := 0) (ty := .boolean) hx hb hr (rfl) (fun t ht hW => ⟨0, rfl, (by rw [hV, tw_CH_isNest_h43, if_neg c_4, if_pos c_7, if_pos c_8, if_neg c_9]; first | done | rfl), ht⟩) (fun _ h => by cases h) d_CH_isNest_178
          · refine lv_iconst (v := 1) hx hb d_CH_isNest_173 (by decide) ?_
            refine lv_goto (tgt := 178) hx hb d_CH_isNest_174 (by decide) ?_
            exact W.zret (v := 1) (ty := .boolean) hx hb hr (rfl) (fun t ht hW => ⟨1, rfl, (by rw [hV, tw_CH_isNest_h43, if_neg c_4, if_pos c_7, if_pos c_8, if_pos c_9]; first | done | rfl), ht⟩) (fun _ h => by cases h) d_CH_isNest_178
      · refine lv_aload_n hx hb d_CH_isNest_58 rfl (lv_at hl 0 rfl) ?_
        refine lv_iload hx hb d_CH_isNest_59 (lv_at hl 5 rfl) ?_
        refine lv_iconst (v := 1) hx hb d_CH_isNest_61 (by decide) ?_
        refine lv_iadd hx hb d_CH_isNest_62 ?_
        refine lv_iload hx hb d_CH_isNest_63 (lv_at hl 4 rfl) ?_
        refine rd_V (val := tw_CH_endOfName b (x6 + 1) x5) (As := [.int (x6 + 1), .int x5]) (rest := []) ⟨hx, hb, hml, hown, hT⟩ (c_CH_endOfName l D cB cI aC aS aB b (x6 + 1) x5) (cwV 2 hT (gV_of k_373 k_375 kp_CH_endOfName k_3 kc_CH_endOfName) rfl rfl rfl hd_CH_endOfName ⟨rl_s (Nat.le_of_ble_eq_true rfl), rl_s (Nat.le_of_ble_eq_true rfl)⟩) hk hP (q0 := 0) rfl rfl rfl rfl hl.1 rfl (Nat.le_of_ble_eq_true rfl) d_CH_isNest_65 ⟨Nat.zero_le _, Nat.zero_le _⟩ ?_
        refine lv_istore (lv' := [(8, .int (tw_CH_endOfName b (x6 + 1) x5)), (0, .ref aC), (1, .int p0), (3, .int p2), (4, .int p3), (5, .int x5), (6, .int x6), (7, .int x7)]) hx hb d_CH_isNest_68 hl (by decide) rfl (fun ls hl => ?_)
        refine lv_iload hx hb d_CH_isNest_70 (lv_at hl 0 rfl) ?_
        refine lv_if_ge (tgt := 77) hx hb d_CH_isNest_72 (by decide) (fun c_10 => ?_) (fun c_10 => ?_)
        · refine lv_iload_n hx hb d_CH_isNest_77 rfl (lv_at hl 3 rfl) ?_
          refine lv_if_eq (tgt := 102) hx hb d_CH_isNest_78 (by decide) (fun c_11 => ?_) (fun c_11 => ?_)
          · refine lv_aload_n hx hb d_CH_isNest_102 rfl (lv_at hl 1 rfl) ?_
            refine lv_iload_n hx hb d_CH_isNest_103 rfl (lv_at hl 2 rfl) ?_
            refine lv_iconst (v := 4) hx hb d_CH_isNest_104 (by decide) ?_
            refine lv_iadd hx hb d_CH_isNest_105 ?_
            refine lv_iload hx hb d_CH_isNest_106 (lv_at hl 6 rfl) ?_
            refine lv_iload hx hb d_CH_isNest_108 (lv_at hl 0 rfl) ?_
            refine rd_V (val := b2i (tw_CH_isNewName b (p0 + 4) x6 (tw_CH_endOfName b (x6 + 1) x5))) (As := [.int (p0 + 4), .int x6, .int (tw_CH_endOfName b (x6 + 1) x5)]) (rest := []) ⟨hx, hb, hml, hown, hT⟩ (c_CH_isNewName l D cB cI aC aS aB b (p0 + 4) x6 (tw_CH_endOfName b (x6 + 1) x5)) (cwV 3 hT (gV_of k_386 k_388 kp_CH_isNewName k_3 kc_CH_isNewName) rfl rfl rfl hd_CH_isNewName ⟨rl_s (Nat.le_of_ble_eq_true rfl), rl_s (Nat.le_of_ble_eq_true rfl)⟩) hk hP (q0 := 0) rfl rfl rfl rfl hl.1 rfl (Nat.le_of_ble_eq_true rfl) d_CH_isNest_110 ⟨Nat.zero_le _, Nat.zero_le _⟩ ?_
            refine lv_if_ne (tgt := 118) hx hb d_CH_isNest_113 (by decide) (fun c_12 => ?_) (fun c_12 => ?_)
            · refine lv_aload_n hx hb d_CH_isNest_118 rfl (lv_at hl 1 rfl) ?_
              refine lv_aload_n hx hb d_CH_isNest_119 rfl (lv_at hl 1 rfl) ?_
              refine va_get (D := D) (ci := 4) (v := .ref aS) (C := R_CH) (T := T_CH) (N := 1) hx hb hT u_CH hown hK hP 0 rfl rfl 0 (by decide) (hT _ k_49) (fun _ h9 => h9) rfl d_CH_isNest_120 ?_
              refine lv_iload hx hb d_CH_isNest_123 (lv_at hl 6 rfl) ?_
              refine rd_V (val := tw_ST_at b x6) (As := [.int x6]) (rest := [.ref aC]) ⟨hx, hb, hml, hown, hT⟩ (c_ST_at l D cB cI aS aB b x6) (cwV 1 hT (gV_of k_377 k_378 k_379 k_2 kc_ST_at) rfl rfl rfl hd_ST_at ⟨rl_s (Nat.le_of_ble_eq_true rfl), rl_s (Nat.le_of_ble_eq_true rfl)⟩) hk (hP.sub (ws' := [(aS, .inr (0, [.ref aB])), (aB, .inl (cB, 202000, .inl (by_ b)))]) [1, 2] rfl) (q0 := 0) rfl rfl rfl rfl hl.1 rfl (Nat.le_of_ble_eq_true rfl) d_CH_isNest_125 ⟨Nat.zero_le _, Nat.zero_le _⟩ ?_
              refine lv_iload hx hb d_CH_isNest_128 (lv_at hl 0 rfl) ?_
              refine lv_iconst (v := 1) hx hb d_CH_isNest_130 (by decide) ?_
              refine lv_iadd hx hb d_CH_isNest_131 ?_
              refine lv_iload hx hb d_CH_isNest_132 (lv_at hl 5 rfl) ?_
              refine lv_iload hx hb d_CH_isNest_134 (lv_at hl 4 rfl) ?_
              refine rd_V (val := fv (tw_ST_at b x6) ((tw_CH_endOfName b (x6 + 1) x5) + 1) x5) (As := [.int (tw_ST_at b x6), .int ((tw_CH_endOfName b (x6 + 1) x5) + 1), .int x5, .int p3]) (rest := []) ⟨hx, hb, hml, hown, hT⟩ (hv hf1 (tw_ST_at b x6) ((tw_CH_endOfName b (x6 + 1) x5) + 1) x5) (cwV 4 hT (gV_of k_419 k_421 kp_CH_endOfValue k_3 kc_CH_endOfValue) rfl rfl rfl hd_CH_endOfValue ⟨rl_f (Nat.le_of_ble_eq_true rfl), rl_l (Nat.le_of_ble_eq_true rfl)⟩) hk hP (q0 := 0) rfl rfl rfl rfl hl.1 rfl (Nat.le_of_ble_eq_true rfl) d_CH_isNest_136 ⟨Nat.zero_le _, Nat.zero_le _⟩ ?_
              refine lv_istore (lv' := [(6, .int (fv (tw_ST_at b x6) ((tw_CH_endOfName b (x6 + 1) x5) + 1) x5)), (8, .int (tw_CH_endOfName b (x6 + 1) x5)), (0, .ref aC), (1, .int p0), (3, .int p2), (4, .int p3), (5, .int x5), (7, .int x7)]) hx hb d_CH_isNest_139 hl (by decide) rfl (fun ls hl => ?_)
              refine lv_iload hx hb d_CH_isNest_141 (lv_at hl 0 rfl) ?_
              refine lv_if_ge (tgt := 148) hx hb d_CH_isNest_143 (by decide) (fun c_13 => ?_) (fun c_13 => ?_)
              · refine lv_iinc (v := x7 + 1) (lv' := [(7, .int (x7 + 1)), (6, .int (fv (tw_ST_at b x6) ((tw_CH_endOfName b (x6 + 1) x5) + 1) x5)), (8, .int (tw_CH_endOfName b (x6 + 1) x5)), (0, .ref aC), (1, .int p0), (3, .int p2), (4, .int p3), (5, .int x5)]) hx hb d_CH_isNest_148 hl (k := 7) rfl rfl (by decide) rfl (fun ls hl => ?_)
                refine lv_goto (tgt := 43) hx hb d_CH_isNest_151 (by decide) ?_
                exact ih (fv (tw_ST_at b x6) ((tw_CH_endOfName b (x6 + 1) x5) + 1) x5) (x7 + 1) (lp_up hm c_4) (by rw [hV, tw_CH_isNest_h43, if_neg c_4, if_neg c_7, if_pos c_10, if_pos c_11, if_neg c_12, if_pos c_13]) ls (lv_sub hl [3, 4, 5, 6, 7, 1, 0] rfl)
              · refine lv_iconst (v := 0) hx hb d_CH_isNest_146 (by decide) ?_
                exact W.zret (v := 0) (ty := .boolean) hx hb hr (rfl) (fun t ht hW => ⟨0, rfl, (by rw [hV, tw_CH_isNest_h43, if_neg c_4, if_neg c_7, if_pos c_10, if_pos c_11, if_neg c_12, if_neg c_13]; first | done | rfl), ht⟩) (fun _ h => by cases h) d_CH_isNest_147
            · refine lv_iconst (v := 0) hx hb d_CH_isNest_116 (by decide) ?_
              exact W.zret (v := 0) (ty := .boolean) hx hb hr (rfl) (fun t ht hW => ⟨0, rfl, (by rw [hV, tw_CH_isNest_h43, if_neg c_4, if_neg c_7, if_pos c_10, if_pos c_11, if_pos c_12]; first | done | rfl), ht⟩) (fun _ h => by cases h) d_CH_isNest_117
          · refine lv_aload_n hx hb d_CH_isNest_81 rfl (lv_at hl 1 rfl) ?_
            refine va_get (D := D) (ci := 4) (v := .ref aS) (C := R_CH) (T := T_CH) (N := 1) hx hb hT u_CH hown hK hP 0 rfl rfl 0 (by decide) (hT _ k_49) (fun _ h9 => h9) rfl d_CH_isNest_82 ?_
            refine lv_iload hx hb d_CH_isNest_85 (lv_at hl 6 rfl) ?_
            refine lv_iconst (v := 1) hx hb d_CH_isNest_87 (by decide) ?_
            refine lv_iadd hx hb d_CH_isNest_88 ?_
            refine lv_iload hx hb d_CH_isNest_89 (lv_at hl 0 rfl) ?_
            refine rd_V (val := tw_ST_indexNamed b (x6 + 1) (tw_CH_endOfName b (x6 + 1) x5)) (As := [.int (x6 + 1), .int (tw_CH_endOfName b (x6 + 1) x5)]) (rest := []) ⟨hx, hb, hml, hown, hT⟩ (c_ST_indexNamed l D cB cI aS aB b (x6 + 1) (tw_CH_endOfName b (x6 + 1) x5)) (cwV 2 hT (gV_of k_381 k_382 k_383 k_2 kc_ST_indexNamed) rfl rfl rfl hd_ST_indexNamed ⟨rl_s (Nat.le_of_ble_eq_true rfl), rl_s (Nat.le_of_ble_eq_true rfl)⟩) hk (hP.sub (ws' := [(aS, .inr (0, [.ref aB])), (aB, .inl (cB, 202000, .inl (by_ b)))]) [1, 2] rfl) (q0 := 0) rfl rfl rfl rfl hl.1 rfl (Nat.le_of_ble_eq_true rfl) d_CH_isNest_91 ⟨Nat.zero_le _, Nat.zero_le _⟩ ?_
            refine lv_iload hx hb d_CH_isNest_94 (lv_at hl 7 rfl) ?_
            refine lv_icmp_eq (tgt := 118) hx hb d_CH_isNest_96 (by decide) (fun c_14 => ?_) (fun c_14 => ?_)
            · refine lv_aload_n hx hb d_CH_isNest_118 rfl (lv_at hl 1 rfl) ?_
              refine lv_aload_n hx hb d_CH_isNest_119 rfl (lv_at hl 1 rfl) ?_
              refine va_get (D := D) (ci := 4) (v := .ref aS) (C := R_CH) (T := T_CH) (N := 1) hx hb hT u_CH hown hK hP 0 rfl rfl 0 (by decide) (hT _ k_49) (fun _ h9 => h9) rfl d_CH_isNest_120 ?_
              refine lv_iload hx hb d_CH_isNest_123 (lv_at hl 6 rfl) ?_
              refine rd_V (val := tw_ST_at b x6) (As := [.int x6]) (rest := [.ref aC]) ⟨hx, hb, hml, hown, hT⟩ (c_ST_at l D cB cI aS aB b x6) (cwV 1 hT (gV_of k_377 k_378 k_379 k_2 kc_ST_at) rfl rfl rfl hd_ST_at ⟨rl_s (Nat.le_of_ble_eq_true rfl), rl_s (Nat.le_of_ble_eq_true rfl)⟩) hk (hP.sub (ws' := [(aS, .inr (0, [.ref aB])), (aB, .inl (cB, 202000, .inl (by_ b)))]) [1, 2] rfl) (q0 := 0) rfl rfl rfl rfl hl.1 rfl (Nat.le_of_ble_eq_true rfl) d_CH_isNest_125 ⟨Nat.zero_le _, Nat.zero_le _⟩ ?_
              refine lv_iload hx hb d_CH_isNest_128 (lv_at hl 0 rfl) ?_
              refine lv_iconst (v := 1) hx hb d_CH_isNest_130 (by decide) ?_
              refine lv_iadd hx hb d_CH_isNest_131 ?_
              refine lv_iload hx hb d_CH_isNest_132 (lv_at hl 5 rfl) ?_
              refine lv_iload hx hb d_CH_isNest_134 (lv_at hl 4 rfl) ?_
              refine rd_V (val := fv (tw_ST_at b x6) ((tw_CH_endOfName b (x6 + 1) x5) + 1) x5) (As := [.int (tw_ST_at b x6), .int ((tw_CH_endOfName b (x6 + 1) x5) + 1), .int x5, .int p3]) (rest := []) ⟨hx, hb, hml, hown, hT⟩ (hv hf1 (tw_ST_at b x6) ((tw_CH_endOfName b (x6 + 1) x5) + 1) x5) (cwV 4 hT (gV_of k_419 k_421 kp_CH_endOfValue k_3 kc_CH_endOfValue) rfl rfl rfl hd_CH_endOfValue ⟨rl_f (Nat.le_of_ble_eq_true rfl), rl_l (Nat.le_of_ble_eq_true rfl)⟩) hk hP (q0 := 0) rfl rfl rfl rfl hl.1 rfl (Nat.le_of_ble_eq_true rfl) d_CH_isNest_136 ⟨Nat.zero_le _, Nat.zero_le _⟩ ?_
              refine lv_istore (lv' := [(6, .int (fv (tw_ST_at b x6) ((tw_CH_endOfName b (x6 + 1) x5) + 1) x5)), (8, .int (tw_CH_endOfName b (x6 + 1) x5)), (0, .ref aC), (1, .int p0), (3, .int p2), (4, .int p3), (5, .int x5), (7, .int x7)]) hx hb d_CH_isNest_139 hl (by decide) rfl (fun ls hl => ?_)
              refine lv_iload hx hb d_CH_isNest_141 (lv_at hl 0 rfl) ?_
              refine lv_if_ge (tgt := 148) hx hb d_CH_isNest_143 (by decide) (fun c_15 => ?_) (fun c_15 => ?_)
              · refine lv_iinc (v := x7 + 1) (lv' := [(7, .int (x7 + 1)), (6, .int (fv (tw_ST_at b x6) ((tw_CH_endOfName b (x6 + 1) x5) + 1) x5)), (8, .int (tw_CH_endOfName b (x6 + 1) x5)), (0, .ref aC), (1, .int p0), (3, .int p2), (4, .int p3), (5, .int x5)]) hx hb d_CH_isNest_148 hl (k := 7) rfl rfl (by decide) rfl (fun ls hl => ?_)
                refine lv_goto (tgt := 43) hx hb d_CH_isNest_151 (by decide) ?_
                exact ih (fv (tw_ST_at b x6) ((tw_CH_endOfName b (x6 + 1) x5) + 1) x5) (x7 + 1) (lp_up hm c_4) (by rw [hV, tw_CH_isNest_h43, if_neg c_4, if_neg c_7, if_pos c_10, if_neg c_11, if_pos c_14, if_pos c_15]) ls (lv_sub hl [3, 4, 5, 6, 7, 1, 0] rfl)
              · refine lv_iconst (v := 0) hx hb d_CH_isNest_146 (by decide) ?_
                exact W.zret (v := 0) (ty := .boolean) hx hb hr (rfl) (fun t ht hW => ⟨0, rfl, (by rw [hV, tw_CH_isNest_h43, if_neg c_4, if_neg c_7, if_pos c_10, if_neg c_11, if_pos c_14, if_neg c_15]; first | done | rfl), ht⟩) (fun _ h => by cases h) d_CH_isNest_147
            · refine lv_goto (tgt := 116) hx hb d_CH_isNest_99 (by decide) ?_
              refine lv_iconst (v := 0) hx hb d_CH_isNest_116 (by decide) ?_
              exact W.zret (v := 0) (ty := .boolean) hx hb hr (rfl) (fun t ht hW => ⟨0, rfl, (by rw [hV, tw_CH_isNest_h43, if_neg c_4, if_neg c_7, if_pos c_10, if_neg c_11, if_neg c_14]; first | done | rfl), ht⟩) (fun _ h => by cases h) d_CH_isNest_117
        · refine lv_iconst (v := 0) hx hb d_CH_isNest_75 (by decide) ?_
          exact W.zret (v := 0) (ty := .boolean) hx hb hr (rfl) (fun t ht hW => ⟨0, rfl, (by rw [hV, tw_CH_isNest_h43, if_neg c_4, if_neg c_7, if_neg c_10]; first | done | rfl), ht⟩) (fun _ h => by cases h) d_CH_isNest_76
set_option maxHeartbeats 4000000 in
set_option maxRecDepth 100000 in
theorem c_CH_isNest (l : Launch) (D : va_G) (cB cI : ClassId) (aC aS aB : Nat) (rF : Nat) (rL : Nat) (fv : Int32 → Int32 → Int32 → Int32) (b : Nat → UInt8) (p0 : Int32) (p1 : Int32) (p2 : Int32) (p3 : Int32) (hv : ¬ 16 < p3 → ∀ x y z : Int32, Met l y_CH_endOfValue mw_CH_endOfValue { frames := rF, cells := 0, slots := 0, locals := rL } (va_Pc [.ref aC, .int x, .int y, .int z, .int p3] (fun U => va_P D vwCl [(aC, .inr (4, [.ref aS])), (aS, .inr (0, [.ref aB])), (aB, .inl (cB, 202000, .inl (by_ b)))] U.heap ∧ hk_ D cB cI U)) (vp_Si (fun r => r = fv x y z)) 0 0 (fun _ => False)) : Met l y_CH_isNest mw_CH_isNest { frames := rF + 5, cells := 0, slots := 0, locals := rL + 120 } (va_Pc [.ref aC, .int p0, .int p1, .int p2, .int p3] (fun U => va_P D vwCl [(aC, .inr (4, [.ref aS])), (aS, .inr (0, [.ref aB])), (aB, .inl (cB, 202000, .inl (by_ b)))] U.heap ∧ hk_ D cB cI U)) (vp_Si (fun r => r = b2i (tw_CH_isNest fv b p0 p1 p2 p3))) 0 0 (fun _ => False) := by
  refine Met.ofW (cc := b_CH_isNest) (maxL := 9) (ret := (some .boolean)) (by decide) rfl ?_
  intro p e s m args below meth c s₁ B0 hml hv
  obtain ⟨rfl, hP, hk⟩ := hv
  have hK := hk.1
  have hN := hk.2.1
  have hx := B0.exec
  have hb := B0.bytes
  have hr := B0.returns
  have hT : ∀ w ∈ lw_g, w.before _ s = true := fun w h => atoms_spec (ws := mw_CH_isNest) B0.pre w (List.mem_cons_of_mem _ h)
  have hown : s.vm.findClass R_CH = some m.cls := findClass_of_methodNamed B0.named
  have hlocks := B0.notSynchronized
  have hl := lv_entry ([.ref aC, .int p0, .int p1, .int p2, .int p3]) (n := 9) (Nat.le_of_ble_eq_true rfl)
  rw [lg_entry_eq]
  generalize (lg_sl ([.ref aC, .int p0, .int p1, .int p2, .int p3]) ++ List.replicate (9 - (lg_sl ([.ref aC, .int p0, .int p1, .int p2, .int p3])).length) Slot.unset).toArray = ls at hl ⊢
  have hl : lv_has ls 9 [(0, .ref aC), (1, .int p0), (2, .int p1), (3, .int p2), (4, .int p3)] := hl
  have C0 : lc_C p s m meth c _ b_CH_isNest 9 (some .boolean) R_CH lw_g := ⟨hx, hb, hml, hr, hown, hlocks, hT⟩
  refine lv_iload hx hb d_CH_isNest_0 (lv_at hl 4 rfl) ?_
  refine lv_bipush (v := 16) hx hb d_CH_isNest_2 (by decide) ?_
  refine lv_icmp_gt (tgt := 28) hx hb d_CH_isNest_4 (by decide) (fun c_1 => ?_) (fun c_1 => ?_)
  · refine lv_iconst (v := 0) hx hb d_CH_isNest_28 (by decide) ?_
    exact W.zret (v := 0) (ty := .boolean) hx hb hr (rfl) (fun t ht hW => ⟨0, rfl, (by rw [tw_CH_isNest, if_pos c_1]; first | done | rfl), ht⟩) (fun _ h => by cases h) d_CH_isNest_29
  · refine lv_iload_n hx hb d_CH_isNest_7 rfl (lv_at hl 2 rfl) ?_
    refine lv_iload_n hx hb d_CH_isNest_8 rfl (lv_at hl 1 rfl) ?_
    refine lv_isub hx hb d_CH_isNest_9 ?_
    refine lv_iconst (v := 5) hx hb d_CH_isNest_10 (by decide) ?_
    refine lv_icmp_lt (tgt := 28) hx hb d_CH_isNest_11 (by decide) (fun c_2 => ?_) (fun c_2 => ?_)
    · refine lv_iconst (v := 0) hx hb d_CH_isNest_28 (by decide) ?_
      exact W.zret (v := 0) (ty := .boolean) hx hb hr (rfl) (fun t ht hW => ⟨0, rfl, (by rw [tw_CH_isNest, if_neg c_1, if_pos c_2]; first | done | rfl), ht⟩) (fun _ h => by cases h) d_CH_isNest_29
    · refine lv_aload_n hx hb d_CH_isNest_14 rfl (lv_at hl 0 rfl) ?_
      refine va_get (D := D) (ci := 4) (v := .ref aS) (C := R_CH) (T := T_CH) (N := 1) hx hb hT u_CH hown hK hP 0 rfl rfl 0 (by decide) (hT _ k_49) (fun _ h9 => h9) rfl d_CH_isNest_15 ?_
      refine lv_iload_n hx hb d_CH_isNest_18 rfl (lv_at hl 1 rfl) ?_
      refine rd_V (val := tw_ST_int32 b p0) (As := [.int p0]) (rest := []) ⟨hx, hb, hml, hown, hT⟩ (c_ST_int32 l D cB cI aS aB b p0) (cwV 1 hT (gV_of k_369 k_370 k_371 k_2 kc_ST_int32) rfl rfl rfl hd_ST_int32 ⟨rl_s (Nat.le_of_ble_eq_true rfl), rl_s (Nat.le_of_ble_eq_true rfl)⟩) hk (hP.sub (ws' := [(aS, .inr (0, [.ref aB])), (aB, .inl (cB, 202000, .inl (by_ b)))]) [1, 2] rfl) (q0 := 0) rfl rfl rfl rfl hl.1 rfl (Nat.le_of_ble_eq_true rfl) d_CH_isNest_19 ⟨Nat.zero_le _, Nat.zero_le _⟩ ?_
      refine lv_iload_n hx hb d_CH_isNest_22 rfl (lv_at hl 2 rfl) ?_
      refine lv_iload_n hx hb d_CH_isNest_23 rfl (lv_at hl 1 rfl) ?_
      refine lv_isub hx hb d_CH_isNest_24 ?_
      refine lv_icmp_eq (tgt := 30) hx hb d_CH_isNest_25 (by decide) (fun c_3 => ?_) (fun c_3 => ?_)
      · refine lv_iload_n hx hb d_CH_isNest_30 rfl (lv_at hl 2 rfl) ?_
        refine lv_iconst (v := 1) hx hb d_CH_isNest_31 (by decide) ?_
        refine lv_isub hx hb d_CH_isNest_32 ?_
        refine lv_istore (lv' := [(5, .int (p1 - 1)), (0, .ref aC), (1, .int p0), (2, .int p1), (3, .int p2), (4, .int p3)]) hx hb d_CH_isNest_33 hl (by decide) rfl (fun ls hl => ?_)
        refine lv_iload_n hx hb d_CH_isNest_35 rfl (lv_at hl 2 rfl) ?_
        refine lv_iconst (v := 4) hx hb d_CH_isNest_36 (by decide) ?_
        refine lv_iadd hx hb d_CH_isNest_37 ?_
        refine lv_istore (lv' := [(6, .int (p0 + 4)), (5, .int (p1 - 1)), (0, .ref aC), (1, .int p0), (2, .int p1), (3, .int p2), (4, .int p3)]) hx hb d_CH_isNest_38 hl (by decide) rfl (fun ls hl => ?_)
        refine lv_iconst (v := 0) hx hb d_CH_isNest_40 (by decide) ?_
        refine lv_istore (lv' := [(7, .int 0), (6, .int (p0 + 4)), (5, .int (p1 - 1)), (0, .ref aC), (1, .int p0), (2, .int p1), (3, .int p2), (4, .int p3)]) hx hb d_CH_isNest_41 hl (by decide) rfl (fun ls hl => ?_)
        exact l_CH_isNest_h43 C0 l D cB cI aC aS aB rF rL fv b hP hk p0 p2 p3 (p1 - 1) hv c_1 ((((1000 : Int32).toInt - (0 : Int32).toInt).toNat) + 1) (p0 + 4) 0 (Nat.lt_succ_self _) (by rw [tw_CH_isNest, if_neg c_1, if_neg c_2, if_pos c_3]) ls (lv_sub hl [3, 4, 6, 7, 2, 1, 0] rfl)
      · refine lv_iconst (v := 0) hx hb d_CH_isNest_28 (by decide) ?_
        exact W.zret (v := 0) (ty := .boolean) hx hb hr (rfl) (fun t ht hW => ⟨0, rfl, (by rw [tw_CH_isNest, if_neg c_1, if_neg c_2, if_neg c_3]; first | done | rfl), ht⟩) (fun _ h => by cases h) d_CH_isNest_29
/-- isNest, its depth counted down by k -/
theorem c_CH_nest (l : Launch) (D : va_G) (cB cI : ClassId) (aC aS aB : Nat) (b : Nat → UInt8) : ∀ (k : Nat) (d : Int32), (16 : Int32).toInt + 1 - d.toInt ≤ (k : Nat) → ∀ x y z : Int32, Met l y_CH_isNest mw_CH_isNest { frames := 15 * k + 5, cells := 0, slots := 0, locals := 360 * k + 120 } (va_Pc [.ref aC, .int x, .int y, .int z, .int d] (fun U => va_P D vwCl [(aC, .inr (4, [.ref aS])), (aS, .inr (0, [.ref aB])), (aB, .inl (cB, 202000, .inl (by_ b)))] U.heap ∧ hk_ D cB cI U)) (vp_Si (fun r => r = b2i (tw_CH_nest k b x y z d))) 0 0 (fun _ => False) := by
  intro k
  induction k with
  | zero =>
    intro d hd x y z
    exact c_CH_isNest l D cB cI aC aS aB (15 * 0) (360 * 0) (fun _ _ _ => 0) b x y z d (fun q => (dp_0 hd (i_le_of q)).elim)
  | succ k ih =>
    intro d hd x y z
    exact c_CH_isNest l D cB cI aC aS aB (15 * (k + 1)) (360 * (k + 1)) _ b x y z d
      (fun q x y z => c_CH_endOfValue l D cB cI aC aS aB (15 * k + 10) (360 * k + 240) _ b x y z d
        (fun x y z => c_CH_endOfNest l D cB cI aC aS aB (15 * k + 5) (360 * k + 120) _ b x y z d (ih (d + 1) (dp_s (by decide) hd (i_le_of q)))))
theorem c_CH_nest1 (l : Launch) (D : va_G) (cB cI : ClassId) (aC aS aB : Nat) (b : Nat → UInt8) (x y z : Int32) : Met l y_CH_isNest mw_CH_isNest { frames := 245, cells := 0, slots := 0, locals := 5880 } (va_Pc [.ref aC, .int x, .int y, .int z, .int 1] (fun U => va_P D vwCl [(aC, .inr (4, [.ref aS])), (aS, .inr (0, [.ref aB])), (aB, .inl (cB, 202000, .inl (by_ b)))] U.heap ∧ hk_ D cB cI U)) (vp_Si (fun r => r = b2i (tw_CH_nest1 b x y z))) 0 0 (fun _ => False) := c_CH_nest l D cB cI aC aS aB b 16 1 (by decide) x y z

set_option maxHeartbeats 4000000 in
set_option maxRecDepth 100000 in
theorem c_CH_isDocument (l : Launch) (D : va_G) (cB cI : ClassId) (aC aS aB : Nat) (b : Nat → UInt8) (p0 : Int32) : Met l y_CH_isDocument mw_CH_isDocument { frames := 246, cells := 0, slots := 0, locals := 5908 } (va_Pc [.ref aC, .int p0] (fun U => va_P D vwCl [(aC, .inr (4, [.ref aS])), (aS, .inr (0, [.ref aB])), (aB, .inl (cB, 202000, .inl (by_ b)))] U.heap ∧ hk_ D cB cI U)) (vp_Si (fun r => r = b2i (tw_CH_isDocument b p0))) 0 0 (fun _ => False) := by
  refine Met.ofW (cc := b_CH_isDocument) (maxL := 2) (ret := (some .boolean)) (by decide) rfl ?_
  intro p e s m args below meth c s₁ B0 hml hv
  obtain ⟨rfl, hP, hk⟩ := hv
  have hK := hk.1
  have hN := hk.2.1
  have hx := B0.exec
  have hb := B0.bytes
  have hr := B0.returns
  have hT : ∀ w ∈ lw_g, w.before _ s = true := fun w h => atoms_spec (ws := mw_CH_isDocument) B0.pre w (List.mem_cons_of_mem _ h)
  have hown : s.vm.findClass R_CH = some m.cls := findClass_of_methodNamed B0.named
  have hlocks := B0.notSynchronized
  have hl := lv_entry ([.ref aC, .int p0]) (n := 2) (Nat.le_of_ble_eq_true rfl)
  rw [lg_entry_eq]
  generalize (lg_sl ([.ref aC, .int p0]) ++ List.replicate (2 - (lg_sl ([.ref aC, .int p0])).length) Slot.unset).toArray = ls at hl ⊢
  have hl : lv_has ls 2 [(0, .ref aC), (1, .int p0)] := hl
  refine lv_aload_n hx hb d_CH_isDocument_0 rfl (lv_at hl 0 rfl) ?_
  refine lv_iconst (v := 0) hx hb d_CH_isDocument_1 (by decide) ?_
  refine lv_iconst (v := 0) hx hb d_CH_isDocument_2 (by decide) ?_
  refine lv_iload_n hx hb d_CH_isDocument_3 rfl (lv_at hl 1 rfl) ?_
  refine lv_iadd hx hb d_CH_isDocument_4 ?_
  refine lv_iconst (v := 0) hx hb d_CH_isDocument_5 (by decide) ?_
  refine lv_iconst (v := 1) hx hb d_CH_isDocument_6 (by decide) ?_
  refine rd_V (val := b2i (tw_CH_nest1 b 0 (0 + p0) 0)) (As := [.int 0, .int (0 + p0), .int 0, .int 1]) (rest := []) ⟨hx, hb, hml, hown, hT⟩ (c_CH_nest1 l D cB cI aC aS aB b 0 (0 + p0) 0) (cwV 4 hT (gV_of k_365 k_367 kp_CH_isNest k_3 kc_CH_isNest) rfl rfl rfl hd_CH_isNest ⟨Nat.le_of_ble_eq_true rfl, Nat.le_of_ble_eq_true rfl⟩) hk hP (q0 := 0) rfl rfl rfl rfl hl.1 rfl (Nat.le_of_ble_eq_true rfl) d_CH_isDocument_7 ⟨Nat.zero_le _, Nat.zero_le _⟩ ?_
  exact W.zret (v := b2i (tw_CH_nest1 b 0 (0 + p0) 0)) (ty := .boolean) hx hb hr (b2i_nar _) (fun t ht hW => ⟨b2i (tw_CH_nest1 b 0 (0 + p0) 0), rfl, (by rw [tw_CH_isDocument]; first | done | rfl), ht⟩) (fun _ h => by cases h) d_CH_isDocument_10
