/-! printed by wip/gen -/
theorem k_4 : (Jvm.Cond.initialized "PipelineBelt$Belts") ∈ lw_g := lw_gm (List.mem_append_right _ (List.mem_of_getElem? (i := 4) (by decide +kernel))) rfl
theorem k_6 : (Jvm.Cond.initialized "PipelineBelt$Belt") ∈ lw_g := lw_gm (List.mem_append_right _ (List.mem_of_getElem? (i := 6) (by decide +kernel))) rfl
theorem k_89 : (Jvm.Cond.fieldLink "PipelineBelt$Belt" (15 : Nat) "PipelineBelt$Belt" "base" "I") ∈ lw_g := lw_gm (List.mem_append_right _ (List.mem_of_getElem? (i := 89) (by decide +kernel))) rfl
theorem k_92 : (Jvm.Cond.fieldLink "PipelineBelt$Belt" (9 : Nat) "PipelineBelt$Belt" "starts" "[I") ∈ lw_g := lw_gm (List.mem_append_right _ (List.mem_of_getElem? (i := 92) (by decide +kernel))) rfl
theorem k_94 : (Jvm.Cond.fieldLink "PipelineBelt$Belt" (19 : Nat) "PipelineBelt$Belt" "count" "I") ∈ lw_g := lw_gm (List.mem_append_right _ (List.mem_of_getElem? (i := 94) (by decide +kernel))) rfl
theorem k_110 : (Jvm.Cond.fieldLink "PipelineBelt$Belts" (9 : Nat) "PipelineBelt$Belts" "store" "LPipelineBelt$Store;") ∈ lw_g := lw_gm (List.mem_append_right _ (List.mem_of_getElem? (i := 110) (by decide +kernel))) rfl
theorem k_111 : (Jvm.Cond.fieldLink "PipelineBelt$Belts" (20 : Nat) "PipelineBelt$Belts" "writer" "LPipelineBelt$Writer;") ∈ lw_g := lw_gm (List.mem_append_right _ (List.mem_of_getElem? (i := 111) (by decide +kernel))) rfl
theorem k_112 : (Jvm.Cond.fieldLink "PipelineBelt$Belts" (29 : Nat) "PipelineBelt$Belts" "front" "LPipelineBelt$Belt;") ∈ lw_g := lw_gm (List.mem_append_right _ (List.mem_of_getElem? (i := 112) (by decide +kernel))) rfl
theorem k_118 : (Jvm.Cond.fieldLink "PipelineBelt$Belts" (34 : Nat) "PipelineBelt$Belts" "back" "LPipelineBelt$Belt;") ∈ lw_g := lw_gm (List.mem_append_right _ (List.mem_of_getElem? (i := 118) (by decide +kernel))) rfl
theorem k_120 : (Jvm.Cond.fieldLink "PipelineBelt$Belts" (38 : Nat) "PipelineBelt$Belts" "anew" "LPipelineBelt$Belt;") ∈ lw_g := lw_gm (List.mem_append_right _ (List.mem_of_getElem? (i := 120) (by decide +kernel))) rfl
theorem k_432 : (Jvm.Cond.instanceMethod ({ cls := "PipelineBelt$Belts", name := "append", desc := "(LPipelineBelt$Belt;II)Z" } : Jvm.MethodName)) ∈ lw_g := lw_gm (List.mem_append_right _ (List.mem_of_getElem? (i := 432) (by decide +kernel))) rfl
theorem k_433 : (Jvm.Cond.selects "PipelineBelt$Belts" ({ cls := "PipelineBelt$Belts", name := "append", desc := "(LPipelineBelt$Belt;II)Z" } : Jvm.MethodName) ({ cls := "PipelineBelt$Belts", name := "append", desc := "(LPipelineBelt$Belt;II)Z" } : Jvm.MethodName)) ∈ lw_g := lw_gm (List.mem_append_right _ (List.mem_of_getElem? (i := 433) (by decide +kernel))) rfl
theorem k_435 : (Jvm.Cond.methodLink "PipelineBelt$Belts" (45 : Nat) ({ cls := "PipelineBelt$Belt", name := "end", desc := "()I" } : Jvm.MethodName)) ∈ lw_g := lw_gm (List.mem_append_right _ (List.mem_of_getElem? (i := 435) (by decide +kernel))) rfl
theorem k_436 : (Jvm.Cond.instanceMethod ({ cls := "PipelineBelt$Belt", name := "end", desc := "()I" } : Jvm.MethodName)) ∈ lw_g := lw_gm (List.mem_append_right _ (List.mem_of_getElem? (i := 436) (by decide +kernel))) rfl
theorem k_437 : (Jvm.Cond.selects "PipelineBelt$Belt" ({ cls := "PipelineBelt$Belt", name := "end", desc := "()I" } : Jvm.MethodName) ({ cls := "PipelineBelt$Belt", name := "end", desc := "()I" } : Jvm.MethodName)) ∈ lw_g := lw_gm (List.mem_append_right _ (List.mem_of_getElem? (i := 437) (by decide +kernel))) rfl
theorem k_439 : (Jvm.Cond.methodLink "PipelineBelt$Belt" (22 : Nat) ({ cls := "PipelineBelt$Belt", name := "start", desc := "(I)I" } : Jvm.MethodName)) ∈ lw_g := lw_gm (List.mem_append_right _ (List.mem_of_getElem? (i := 439) (by decide +kernel))) rfl
theorem k_440 : (Jvm.Cond.instanceMethod ({ cls := "PipelineBelt$Belt", name := "start", desc := "(I)I" } : Jvm.MethodName)) ∈ lw_g := lw_gm (List.mem_append_right _ (List.mem_of_getElem? (i := 440) (by decide +kernel))) rfl
theorem k_441 : (Jvm.Cond.selects "PipelineBelt$Belt" ({ cls := "PipelineBelt$Belt", name := "start", desc := "(I)I" } : Jvm.MethodName) ({ cls := "PipelineBelt$Belt", name := "start", desc := "(I)I" } : Jvm.MethodName)) ∈ lw_g := lw_gm (List.mem_append_right _ (List.mem_of_getElem? (i := 441) (by decide +kernel))) rfl
theorem k_443 : (Jvm.Cond.constant "PipelineBelt$Belts" (52 : Nat) (40000 : Int32)) ∈ lw_g := lw_gm (List.mem_append_right _ (List.mem_of_getElem? (i := 443) (by decide +kernel))) rfl
theorem k_444 : (Jvm.Cond.methodLink "PipelineBelt$Belts" (53 : Nat) ({ cls := "PipelineBelt$Writer", name := "aim", desc := "(II)V" } : Jvm.MethodName)) ∈ lw_g := lw_gm (List.mem_append_right _ (List.mem_of_getElem? (i := 444) (by decide +kernel))) rfl
theorem k_445 : (Jvm.Cond.instanceMethod ({ cls := "PipelineBelt$Writer", name := "aim", desc := "(II)V" } : Jvm.MethodName)) ∈ lw_g := lw_gm (List.mem_append_right _ (List.mem_of_getElem? (i := 445) (by decide +kernel))) rfl
theorem k_446 : (Jvm.Cond.selects "PipelineBelt$Writer" ({ cls := "PipelineBelt$Writer", name := "aim", desc := "(II)V" } : Jvm.MethodName) ({ cls := "PipelineBelt$Writer", name := "aim", desc := "(II)V" } : Jvm.MethodName)) ∈ lw_g := lw_gm (List.mem_append_right _ (List.mem_of_getElem? (i := 446) (by decide +kernel))) rfl
theorem k_450 : (Jvm.Cond.methodLink "PipelineBelt$Belts" (57 : Nat) ({ cls := "PipelineBelt$Writer", name := "copy", desc := "(II)V" } : Jvm.MethodName)) ∈ lw_g := lw_gm (List.mem_append_right _ (List.mem_of_getElem? (i := 450) (by decide +kernel))) rfl
theorem k_457 : (Jvm.Cond.methodLink "PipelineBelt$Belts" (64 : Nat) ({ cls := "PipelineBelt$Belt", name := "add", desc := "(I)Z" } : Jvm.MethodName)) ∈ lw_g := lw_gm (List.mem_append_right _ (List.mem_of_getElem? (i := 457) (by decide +kernel))) rfl
theorem k_458 : (Jvm.Cond.instanceMethod ({ cls := "PipelineBelt$Belt", name := "add", desc := "(I)Z" } : Jvm.MethodName)) ∈ lw_g := lw_gm (List.mem_append_right _ (List.mem_of_getElem? (i := 458) (by decide +kernel))) rfl
theorem k_459 : (Jvm.Cond.selects "PipelineBelt$Belt" ({ cls := "PipelineBelt$Belt", name := "add", desc := "(I)Z" } : Jvm.MethodName) ({ cls := "PipelineBelt$Belt", name := "add", desc := "(I)Z" } : Jvm.MethodName)) ∈ lw_g := lw_gm (List.mem_append_right _ (List.mem_of_getElem? (i := 459) (by decide +kernel))) rfl
theorem k_461 : (Jvm.Cond.methodLink "PipelineBelt$Belt" (26 : Nat) ({ cls := "PipelineBelt$Belt", name := "end", desc := "()I" } : Jvm.MethodName)) ∈ lw_g := lw_gm (List.mem_append_right _ (List.mem_of_getElem? (i := 461) (by decide +kernel))) rfl
theorem k_462 : (Jvm.Cond.constant "PipelineBelt$Belt" (30 : Nat) (40000 : Int32)) ∈ lw_g := lw_gm (List.mem_append_right _ (List.mem_of_getElem? (i := 462) (by decide +kernel))) rfl
theorem k_477 : (Jvm.Cond.static ({ cls := "PipelineBelt$Store", name := "ref", desc := "(II)I" } : Jvm.MethodName)) ∈ lw_g := lw_gm (List.mem_append_right _ (List.mem_of_getElem? (i := 477) (by decide +kernel))) rfl
theorem k_586 : (Jvm.Cond.methodLink "PipelineBelt$Belts" (68 : Nat) ({ cls := "PipelineBelt$Belt", name := "start", desc := "(I)I" } : Jvm.MethodName)) ∈ lw_g := lw_gm (List.mem_append_right _ (List.mem_of_getElem? (i := 586) (by decide +kernel))) rfl
theorem k_587 : (Jvm.Cond.methodLink "PipelineBelt$Belts" (82 : Nat) ({ cls := "PipelineBelt$Store", name := "ref", desc := "(II)I" } : Jvm.MethodName)) ∈ lw_g := lw_gm (List.mem_append_right _ (List.mem_of_getElem? (i := 587) (by decide +kernel))) rfl
theorem k_596 : (Jvm.Cond.methodLink "PipelineBelt$Belts" (76 : Nat) ({ cls := "java/lang/Math", name := "min", desc := "(II)I" } : Jvm.MethodName)) ∈ lw_g := lw_gm (List.mem_append_right _ (List.mem_of_getElem? (i := 596) (by decide +kernel))) rfl
theorem k_663 : (Jvm.Cond.methodLink "PipelineBelt$Belts" (87 : Nat) ({ cls := "PipelineBelt$Store", name := "isTooDeep", desc := "(II)Z" } : Jvm.MethodName)) ∈ lw_g := lw_gm (List.mem_append_right _ (List.mem_of_getElem? (i := 663) (by decide +kernel))) rfl
theorem k_702 : (Jvm.Cond.methodLink "PipelineBelt$Belts" (72 : Nat) ({ cls := "PipelineBelt$Belts", name := "append", desc := "(LPipelineBelt$Belt;II)Z" } : Jvm.MethodName)) ∈ lw_g := lw_gm (List.mem_append_right _ (List.mem_of_getElem? (i := 702) (by decide +kernel))) rfl
abbrev b_BE_start : ByteArray := prog_2_method_2_code
def y_BE_start : MethodName := ⟨R_BE, "start", "(I)I"⟩
theorem kc_BE_start : Cond.code y_BE_start b_BE_start 2 (some .int) ∈ lw_g := lw_gm (List.mem_append_right _ (List.mem_of_getElem? (i := 442) (by decide +kernel))) rfl
abbrev mw_BE_start : List Cond := Cond.code y_BE_start b_BE_start 2 (some .int) :: lw_g
theorem hd_BE_start : y_BE_start.cls = R_BE ∧ y_BE_start.cls ≠ "java/lang/invoke/MethodHandle" ∧ y_BE_start.cls ≠ "java/lang/invoke/VarHandle" ∧ (parseMethodDescriptor y_BE_start.desc).map (fun d => d.parameters.length) = some 1 := by decide +kernel
theorem d_BE_start_0 : decode b_BE_start 0 = .ok (.iload_n 1, 1) := by decide +kernel
theorem d_BE_start_1 : decode b_BE_start 1 = .ok (.ifCond .lt 21, 3) := by decide +kernel
theorem d_BE_start_4 : decode b_BE_start 4 = .ok (.iload_n 1, 1) := by decide +kernel
theorem d_BE_start_5 : decode b_BE_start 5 = .ok (.aload_n 0, 1) := by decide +kernel
theorem d_BE_start_6 : decode b_BE_start 6 = .ok (.getfield 9, 3) := by decide +kernel
theorem d_BE_start_9 : decode b_BE_start 9 = .ok (.arraylength, 1) := by decide +kernel
theorem d_BE_start_10 : decode b_BE_start 10 = .ok (.if_icmp .ge 12, 3) := by decide +kernel
theorem d_BE_start_13 : decode b_BE_start 13 = .ok (.aload_n 0, 1) := by decide +kernel
theorem d_BE_start_14 : decode b_BE_start 14 = .ok (.getfield 9, 3) := by decide +kernel
theorem d_BE_start_17 : decode b_BE_start 17 = .ok (.iload_n 1, 1) := by decide +kernel
theorem d_BE_start_18 : decode b_BE_start 18 = .ok (.iaload, 1) := by decide +kernel
theorem d_BE_start_19 : decode b_BE_start 19 = .ok (.goto 7, 3) := by decide +kernel
theorem d_BE_start_22 : decode b_BE_start 22 = .ok (.aload_n 0, 1) := by decide +kernel
theorem d_BE_start_23 : decode b_BE_start 23 = .ok (.getfield 15, 3) := by decide +kernel
theorem d_BE_start_26 : decode b_BE_start 26 = .ok (.ireturn, 1) := by decide +kernel
abbrev b_BE_end : ByteArray := prog_2_method_3_code
def y_BE_end : MethodName := ⟨R_BE, "end", "()I"⟩
theorem kc_BE_end : Cond.code y_BE_end b_BE_end 1 (some .int) ∈ lw_g := lw_gm (List.mem_append_right _ (List.mem_of_getElem? (i := 438) (by decide +kernel))) rfl
abbrev mw_BE_end : List Cond := Cond.code y_BE_end b_BE_end 1 (some .int) :: lw_g
theorem hd_BE_end : y_BE_end.cls = R_BE ∧ y_BE_end.cls ≠ "java/lang/invoke/MethodHandle" ∧ y_BE_end.cls ≠ "java/lang/invoke/VarHandle" ∧ (parseMethodDescriptor y_BE_end.desc).map (fun d => d.parameters.length) = some 0 := by decide +kernel
theorem d_BE_end_0 : decode b_BE_end 0 = .ok (.aload_n 0, 1) := by decide +kernel
theorem d_BE_end_1 : decode b_BE_end 1 = .ok (.aload_n 0, 1) := by decide +kernel
theorem d_BE_end_2 : decode b_BE_end 2 = .ok (.getfield 19, 3) := by decide +kernel
theorem d_BE_end_5 : decode b_BE_end 5 = .ok (.invokevirtual 22, 3) := by decide +kernel
theorem d_BE_end_8 : decode b_BE_end 8 = .ok (.ireturn, 1) := by decide +kernel
abbrev b_BE_add : ByteArray := prog_2_method_4_code
def y_BE_add : MethodName := ⟨R_BE, "add", "(I)Z"⟩
theorem kc_BE_add : Cond.code y_BE_add b_BE_add 3 (some .boolean) ∈ lw_g := lw_gm (List.mem_append_right _ (List.mem_of_getElem? (i := 460) (by decide +kernel))) rfl
abbrev mw_BE_add : List Cond := Cond.code y_BE_add b_BE_add 3 (some .boolean) :: lw_g
theorem hd_BE_add : y_BE_add.cls = R_BE ∧ y_BE_add.cls ≠ "java/lang/invoke/MethodHandle" ∧ y_BE_add.cls ≠ "java/lang/invoke/VarHandle" ∧ (parseMethodDescriptor y_BE_add.desc).map (fun d => d.parameters.length) = some 1 := by decide +kernel
theorem d_BE_add_0 : decode b_BE_add 0 = .ok (.aload_n 0, 1) := by decide +kernel
theorem d_BE_add_1 : decode b_BE_add 1 = .ok (.invokevirtual 26, 3) := by decide +kernel
theorem d_BE_add_4 : decode b_BE_add 4 = .ok (.iload_n 1, 1) := by decide +kernel
theorem d_BE_add_5 : decode b_BE_add 5 = .ok (.iadd, 1) := by decide +kernel
theorem d_BE_add_6 : decode b_BE_add 6 = .ok (.istore_n 2, 1) := by decide +kernel
theorem d_BE_add_7 : decode b_BE_add 7 = .ok (.aload_n 0, 1) := by decide +kernel
theorem d_BE_add_8 : decode b_BE_add 8 = .ok (.getfield 19, 3) := by decide +kernel
theorem d_BE_add_11 : decode b_BE_add 11 = .ok (.ifCond .lt 24, 3) := by decide +kernel
theorem d_BE_add_14 : decode b_BE_add 14 = .ok (.aload_n 0, 1) := by decide +kernel
theorem d_BE_add_15 : decode b_BE_add 15 = .ok (.getfield 19, 3) := by decide +kernel
theorem d_BE_add_18 : decode b_BE_add 18 = .ok (.sipush 200, 3) := by decide +kernel
theorem d_BE_add_21 : decode b_BE_add 21 = .ok (.if_icmp .ge 14, 3) := by decide +kernel
theorem d_BE_add_24 : decode b_BE_add 24 = .ok (.iload_n 2, 1) := by decide +kernel
theorem d_BE_add_25 : decode b_BE_add 25 = .ok (.aload_n 0, 1) := by decide +kernel
theorem d_BE_add_26 : decode b_BE_add 26 = .ok (.getfield 15, 3) := by decide +kernel
theorem d_BE_add_29 : decode b_BE_add 29 = .ok (.isub, 1) := by decide +kernel
theorem d_BE_add_30 : decode b_BE_add 30 = .ok (.ldc 30, 2) := by decide +kernel
theorem d_BE_add_32 : decode b_BE_add 32 = .ok (.if_icmp .le 5, 3) := by decide +kernel
theorem d_BE_add_35 : decode b_BE_add 35 = .ok (.iconst 0, 1) := by decide +kernel
theorem d_BE_add_36 : decode b_BE_add 36 = .ok (.ireturn, 1) := by decide +kernel
theorem d_BE_add_37 : decode b_BE_add 37 = .ok (.aload_n 0, 1) := by decide +kernel
theorem d_BE_add_38 : decode b_BE_add 38 = .ok (.dup, 1) := by decide +kernel
theorem d_BE_add_39 : decode b_BE_add 39 = .ok (.getfield 19, 3) := by decide +kernel
theorem d_BE_add_42 : decode b_BE_add 42 = .ok (.iconst 1, 1) := by decide +kernel
theorem d_BE_add_43 : decode b_BE_add 43 = .ok (.iadd, 1) := by decide +kernel
theorem d_BE_add_44 : decode b_BE_add 44 = .ok (.putfield 19, 3) := by decide +kernel
theorem d_BE_add_47 : decode b_BE_add 47 = .ok (.aload_n 0, 1) := by decide +kernel
theorem d_BE_add_48 : decode b_BE_add 48 = .ok (.getfield 9, 3) := by decide +kernel
theorem d_BE_add_51 : decode b_BE_add 51 = .ok (.aload_n 0, 1) := by decide +kernel
theorem d_BE_add_52 : decode b_BE_add 52 = .ok (.getfield 19, 3) := by decide +kernel
theorem d_BE_add_55 : decode b_BE_add 55 = .ok (.iload_n 2, 1) := by decide +kernel
theorem d_BE_add_56 : decode b_BE_add 56 = .ok (.iastore, 1) := by decide +kernel
theorem d_BE_add_57 : decode b_BE_add 57 = .ok (.iconst 1, 1) := by decide +kernel
theorem d_BE_add_58 : decode b_BE_add 58 = .ok (.ireturn, 1) := by decide +kernel
abbrev b_BS_numbered : ByteArray := prog_3_method_2_code
def y_BS_numbered : MethodName := ⟨R_BS, "numbered", "(I)LPipelineBelt$Belt;"⟩
theorem kc_BS_numbered : Cond.code y_BS_numbered b_BS_numbered 2 (some (.object "PipelineBelt$Belt")) ∈ lw_g := lw_gm (List.mem_append_right _ (List.mem_of_getElem? (i := 360) (by decide +kernel))) rfl
abbrev mw_BS_numbered : List Cond := Cond.code y_BS_numbered b_BS_numbered 2 (some (.object "PipelineBelt$Belt")) :: lw_g
theorem hd_BS_numbered : y_BS_numbered.cls = R_BS ∧ y_BS_numbered.cls ≠ "java/lang/invoke/MethodHandle" ∧ y_BS_numbered.cls ≠ "java/lang/invoke/VarHandle" ∧ (parseMethodDescriptor y_BS_numbered.desc).map (fun d => d.parameters.length) = some 1 := by decide +kernel
theorem d_BS_numbered_0 : decode b_BS_numbered 0 = .ok (.iload_n 1, 1) := by decide +kernel
theorem d_BS_numbered_1 : decode b_BS_numbered 1 = .ok (.ifCond .ne 10, 3) := by decide +kernel
theorem d_BS_numbered_4 : decode b_BS_numbered 4 = .ok (.aload_n 0, 1) := by decide +kernel
theorem d_BS_numbered_5 : decode b_BS_numbered 5 = .ok (.getfield 29, 3) := by decide +kernel
theorem d_BS_numbered_8 : decode b_BS_numbered 8 = .ok (.goto 16, 3) := by decide +kernel
theorem d_BS_numbered_11 : decode b_BS_numbered 11 = .ok (.iload_n 1, 1) := by decide +kernel
theorem d_BS_numbered_12 : decode b_BS_numbered 12 = .ok (.iconst 1, 1) := by decide +kernel
theorem d_BS_numbered_13 : decode b_BS_numbered 13 = .ok (.if_icmp .ne 10, 3) := by decide +kernel
theorem d_BS_numbered_16 : decode b_BS_numbered 16 = .ok (.aload_n 0, 1) := by decide +kernel
theorem d_BS_numbered_17 : decode b_BS_numbered 17 = .ok (.getfield 34, 3) := by decide +kernel
theorem d_BS_numbered_20 : decode b_BS_numbered 20 = .ok (.goto 4, 3) := by decide +kernel
theorem d_BS_numbered_23 : decode b_BS_numbered 23 = .ok (.aconst_null, 1) := by decide +kernel
theorem d_BS_numbered_24 : decode b_BS_numbered 24 = .ok (.areturn, 1) := by decide +kernel
abbrev b_BS_exchange : ByteArray := prog_3_method_3_code
def y_BS_exchange : MethodName := ⟨R_BS, "exchange", "()V"⟩
theorem kc_BS_exchange : Cond.code y_BS_exchange b_BS_exchange 2 none ∈ lw_g := lw_gm (List.mem_append_right _ (List.mem_of_getElem? (i := 1035) (by decide +kernel))) rfl
abbrev mw_BS_exchange : List Cond := Cond.code y_BS_exchange b_BS_exchange 2 none :: lw_g
theorem hd_BS_exchange : y_BS_exchange.cls = R_BS ∧ y_BS_exchange.cls ≠ "java/lang/invoke/MethodHandle" ∧ y_BS_exchange.cls ≠ "java/lang/invoke/VarHandle" ∧ (parseMethodDescriptor y_BS_exchange.desc).map (fun d => d.parameters.length) = some 0 := by decide +kernel
theorem d_BS_exchange_0 : decode b_BS_exchange 0 = .ok (.aload_n 0, 1) := by decide +kernel
theorem d_BS_exchange_1 : decode b_BS_exchange 1 = .ok (.getfield 29, 3) := by decide +kernel
theorem d_BS_exchange_4 : decode b_BS_exchange 4 = .ok (.astore_n 1, 1) := by decide +kernel
theorem d_BS_exchange_5 : decode b_BS_exchange 5 = .ok (.aload_n 0, 1) := by decide +kernel
theorem d_BS_exchange_6 : decode b_BS_exchange 6 = .ok (.aload_n 0, 1) := by decide +kernel
theorem d_BS_exchange_7 : decode b_BS_exchange 7 = .ok (.getfield 34, 3) := by decide +kernel
theorem d_BS_exchange_10 : decode b_BS_exchange 10 = .ok (.putfield 29, 3) := by decide +kernel
theorem d_BS_exchange_13 : decode b_BS_exchange 13 = .ok (.aload_n 0, 1) := by decide +kernel
theorem d_BS_exchange_14 : decode b_BS_exchange 14 = .ok (.aload_n 1, 1) := by decide +kernel
theorem d_BS_exchange_15 : decode b_BS_exchange 15 = .ok (.putfield 34, 3) := by decide +kernel
theorem d_BS_exchange_18 : decode b_BS_exchange 18 = .ok (.return_, 1) := by decide +kernel
abbrev b_BS_takeNew : ByteArray := prog_3_method_5_code
def y_BS_takeNew : MethodName := ⟨R_BS, "takeNew", "()V"⟩
theorem kc_BS_takeNew : Cond.code y_BS_takeNew b_BS_takeNew 2 none ∈ lw_g := lw_gm (List.mem_append_right _ (List.mem_of_getElem? (i := 1008) (by decide +kernel))) rfl
abbrev mw_BS_takeNew : List Cond := Cond.code y_BS_takeNew b_BS_takeNew 2 none :: lw_g
theorem hd_BS_takeNew : y_BS_takeNew.cls = R_BS ∧ y_BS_takeNew.cls ≠ "java/lang/invoke/MethodHandle" ∧ y_BS_takeNew.cls ≠ "java/lang/invoke/VarHandle" ∧ (parseMethodDescriptor y_BS_takeNew.desc).map (fun d => d.parameters.length) = some 0 := by decide +kernel
theorem d_BS_takeNew_0 : decode b_BS_takeNew 0 = .ok (.aload_n 0, 1) := by decide +kernel
theorem d_BS_takeNew_1 : decode b_BS_takeNew 1 = .ok (.getfield 29, 3) := by decide +kernel
theorem d_BS_takeNew_4 : decode b_BS_takeNew 4 = .ok (.astore_n 1, 1) := by decide +kernel
theorem d_BS_takeNew_5 : decode b_BS_takeNew 5 = .ok (.aload_n 0, 1) := by decide +kernel
theorem d_BS_takeNew_6 : decode b_BS_takeNew 6 = .ok (.aload_n 0, 1) := by decide +kernel
theorem d_BS_takeNew_7 : decode b_BS_takeNew 7 = .ok (.getfield 38, 3) := by decide +kernel
theorem d_BS_takeNew_10 : decode b_BS_takeNew 10 = .ok (.putfield 29, 3) := by decide +kernel
theorem d_BS_takeNew_13 : decode b_BS_takeNew 13 = .ok (.aload_n 0, 1) := by decide +kernel
theorem d_BS_takeNew_14 : decode b_BS_takeNew 14 = .ok (.aload_n 1, 1) := by decide +kernel
theorem d_BS_takeNew_15 : decode b_BS_takeNew 15 = .ok (.putfield 38, 3) := by decide +kernel
theorem d_BS_takeNew_18 : decode b_BS_takeNew 18 = .ok (.return_, 1) := by decide +kernel
abbrev b_BS_beginAnew : ByteArray := prog_3_method_4_code
def y_BS_beginAnew : MethodName := ⟨R_BS, "beginAnew", "()V"⟩
theorem kc_BS_beginAnew : Cond.code y_BS_beginAnew b_BS_beginAnew 1 none ∈ lw_g := lw_gm (List.mem_append_right _ (List.mem_of_getElem? (i := 470) (by decide +kernel))) rfl
abbrev mw_BS_beginAnew : List Cond := Cond.code y_BS_beginAnew b_BS_beginAnew 1 none :: lw_g
theorem hd_BS_beginAnew : y_BS_beginAnew.cls = R_BS ∧ y_BS_beginAnew.cls ≠ "java/lang/invoke/MethodHandle" ∧ y_BS_beginAnew.cls ≠ "java/lang/invoke/VarHandle" ∧ (parseMethodDescriptor y_BS_beginAnew.desc).map (fun d => d.parameters.length) = some 0 := by decide +kernel
theorem d_BS_beginAnew_0 : decode b_BS_beginAnew 0 = .ok (.aload_n 0, 1) := by decide +kernel
theorem d_BS_beginAnew_1 : decode b_BS_beginAnew 1 = .ok (.getfield 38, 3) := by decide +kernel
theorem d_BS_beginAnew_4 : decode b_BS_beginAnew 4 = .ok (.iconst 0, 1) := by decide +kernel
theorem d_BS_beginAnew_5 : decode b_BS_beginAnew 5 = .ok (.putfield 41, 3) := by decide +kernel
theorem d_BS_beginAnew_8 : decode b_BS_beginAnew 8 = .ok (.return_, 1) := by decide +kernel
abbrev b_BS_document : ByteArray := prog_3_method_10_code
def y_BS_document : MethodName := ⟨R_BS, "document", "(I)I"⟩
theorem kc_BS_document : Cond.code y_BS_document b_BS_document 2 (some .int) ∈ lw_g := lw_gm (List.mem_append_right _ (List.mem_of_getElem? (i := 585) (by decide +kernel))) rfl
abbrev mw_BS_document : List Cond := Cond.code y_BS_document b_BS_document 2 (some .int) :: lw_g
theorem hd_BS_document : y_BS_document.cls = R_BS ∧ y_BS_document.cls ≠ "java/lang/invoke/MethodHandle" ∧ y_BS_document.cls ≠ "java/lang/invoke/VarHandle" ∧ (parseMethodDescriptor y_BS_document.desc).map (fun d => d.parameters.length) = some 1 := by decide +kernel
theorem d_BS_document_0 : decode b_BS_document 0 = .ok (.iconst 3, 1) := by decide +kernel
theorem d_BS_document_1 : decode b_BS_document 1 = .ok (.aload_n 0, 1) := by decide +kernel
theorem d_BS_document_2 : decode b_BS_document 2 = .ok (.getfield 29, 3) := by decide +kernel
theorem d_BS_document_5 : decode b_BS_document 5 = .ok (.iload_n 1, 1) := by decide +kernel
theorem d_BS_document_6 : decode b_BS_document 6 = .ok (.invokevirtual 68, 3) := by decide +kernel
theorem d_BS_document_9 : decode b_BS_document 9 = .ok (.invokestatic 82, 3) := by decide +kernel
theorem d_BS_document_12 : decode b_BS_document 12 = .ok (.ireturn, 1) := by decide +kernel
abbrev b_BS_append : ByteArray := prog_3_method_6_code
def y_BS_append : MethodName := ⟨R_BS, "append", "(LPipelineBelt$Belt;II)Z"⟩
theorem kc_BS_append : Cond.code y_BS_append b_BS_append 4 (some .boolean) ∈ lw_g := lw_gm (List.mem_append_right _ (List.mem_of_getElem? (i := 434) (by decide +kernel))) rfl
abbrev mw_BS_append : List Cond := Cond.code y_BS_append b_BS_append 4 (some .boolean) :: lw_g
theorem hd_BS_append : y_BS_append.cls = R_BS ∧ y_BS_append.cls ≠ "java/lang/invoke/MethodHandle" ∧ y_BS_append.cls ≠ "java/lang/invoke/VarHandle" ∧ (parseMethodDescriptor y_BS_append.desc).map (fun d => d.parameters.length) = some 3 := by decide +kernel
theorem d_BS_append_0 : decode b_BS_append 0 = .ok (.aload_n 0, 1) := by decide +kernel
theorem d_BS_append_1 : decode b_BS_append 1 = .ok (.getfield 20, 3) := by decide +kernel
theorem d_BS_append_4 : decode b_BS_append 4 = .ok (.aload_n 1, 1) := by decide +kernel
theorem d_BS_append_5 : decode b_BS_append 5 = .ok (.invokevirtual 45, 3) := by decide +kernel
theorem d_BS_append_8 : decode b_BS_append 8 = .ok (.aload_n 1, 1) := by decide +kernel
theorem d_BS_append_9 : decode b_BS_append 9 = .ok (.getfield 49, 3) := by decide +kernel
theorem d_BS_append_12 : decode b_BS_append 12 = .ok (.ldc 52, 2) := by decide +kernel
theorem d_BS_append_14 : decode b_BS_append 14 = .ok (.iadd, 1) := by decide +kernel
theorem d_BS_append_15 : decode b_BS_append 15 = .ok (.aload_n 1, 1) := by decide +kernel
theorem d_BS_append_16 : decode b_BS_append 16 = .ok (.invokevirtual 45, 3) := by decide +kernel
theorem d_BS_append_19 : decode b_BS_append 19 = .ok (.isub, 1) := by decide +kernel
theorem d_BS_append_20 : decode b_BS_append 20 = .ok (.invokevirtual 53, 3) := by decide +kernel
theorem d_BS_append_23 : decode b_BS_append 23 = .ok (.aload_n 0, 1) := by decide +kernel
theorem d_BS_append_24 : decode b_BS_append 24 = .ok (.getfield 20, 3) := by decide +kernel
theorem d_BS_append_27 : decode b_BS_append 27 = .ok (.iload_n 2, 1) := by decide +kernel
theorem d_BS_append_28 : decode b_BS_append 28 = .ok (.iload_n 2, 1) := by decide +kernel
theorem d_BS_append_29 : decode b_BS_append 29 = .ok (.iload_n 3, 1) := by decide +kernel
theorem d_BS_append_30 : decode b_BS_append 30 = .ok (.iadd, 1) := by decide +kernel
theorem d_BS_append_31 : decode b_BS_append 31 = .ok (.invokevirtual 57, 3) := by decide +kernel
theorem d_BS_append_34 : decode b_BS_append 34 = .ok (.aload_n 0, 1) := by decide +kernel
theorem d_BS_append_35 : decode b_BS_append 35 = .ok (.getfield 20, 3) := by decide +kernel
theorem d_BS_append_38 : decode b_BS_append 38 = .ok (.getfield 60, 3) := by decide +kernel
theorem d_BS_append_41 : decode b_BS_append 41 = .ok (.ifCond .ne 15, 3) := by decide +kernel
theorem d_BS_append_44 : decode b_BS_append 44 = .ok (.aload_n 1, 1) := by decide +kernel
theorem d_BS_append_45 : decode b_BS_append 45 = .ok (.iload_n 3, 1) := by decide +kernel
theorem d_BS_append_46 : decode b_BS_append 46 = .ok (.invokevirtual 64, 3) := by decide +kernel
theorem d_BS_append_49 : decode b_BS_append 49 = .ok (.ifCond .eq 7, 3) := by decide +kernel
theorem d_BS_append_52 : decode b_BS_append 52 = .ok (.iconst 1, 1) := by decide +kernel
theorem d_BS_append_53 : decode b_BS_append 53 = .ok (.goto 4, 3) := by decide +kernel
theorem d_BS_append_56 : decode b_BS_append 56 = .ok (.iconst 0, 1) := by decide +kernel
theorem d_BS_append_57 : decode b_BS_append 57 = .ok (.ireturn, 1) := by decide +kernel
abbrev b_BS_keep : ByteArray := prog_3_method_7_code
def y_BS_keep : MethodName := ⟨R_BS, "keep", "(I)Z"⟩
theorem kc_BS_keep : Cond.code y_BS_keep b_BS_keep 2 (some .boolean) ∈ lw_g := lw_gm (List.mem_append_right _ (List.mem_of_getElem? (i := 701) (by decide +kernel))) rfl
abbrev mw_BS_keep : List Cond := Cond.code y_BS_keep b_BS_keep 2 (some .boolean) :: lw_g
theorem hd_BS_keep : y_BS_keep.cls = R_BS ∧ y_BS_keep.cls ≠ "java/lang/invoke/MethodHandle" ∧ y_BS_keep.cls ≠ "java/lang/invoke/VarHandle" ∧ (parseMethodDescriptor y_BS_keep.desc).map (fun d => d.parameters.length) = some 1 := by decide +kernel
theorem d_BS_keep_0 : decode b_BS_keep 0 = .ok (.aload_n 0, 1) := by decide +kernel
theorem d_BS_keep_1 : decode b_BS_keep 1 = .ok (.aload_n 0, 1) := by decide +kernel
theorem d_BS_keep_2 : decode b_BS_keep 2 = .ok (.getfield 38, 3) := by decide +kernel
theorem d_BS_keep_5 : decode b_BS_keep 5 = .ok (.aload_n 0, 1) := by decide +kernel
theorem d_BS_keep_6 : decode b_BS_keep 6 = .ok (.getfield 29, 3) := by decide +kernel
theorem d_BS_keep_9 : decode b_BS_keep 9 = .ok (.iload_n 1, 1) := by decide +kernel
theorem d_BS_keep_10 : decode b_BS_keep 10 = .ok (.invokevirtual 68, 3) := by decide +kernel
theorem d_BS_keep_13 : decode b_BS_keep 13 = .ok (.aload_n 0, 1) := by decide +kernel
theorem d_BS_keep_14 : decode b_BS_keep 14 = .ok (.getfield 29, 3) := by decide +kernel
theorem d_BS_keep_17 : decode b_BS_keep 17 = .ok (.iload_n 1, 1) := by decide +kernel
theorem d_BS_keep_18 : decode b_BS_keep 18 = .ok (.iconst 1, 1) := by decide +kernel
theorem d_BS_keep_19 : decode b_BS_keep 19 = .ok (.iadd, 1) := by decide +kernel
theorem d_BS_keep_20 : decode b_BS_keep 20 = .ok (.invokevirtual 68, 3) := by decide +kernel
theorem d_BS_keep_23 : decode b_BS_keep 23 = .ok (.aload_n 0, 1) := by decide +kernel
theorem d_BS_keep_24 : decode b_BS_keep 24 = .ok (.getfield 29, 3) := by decide +kernel
theorem d_BS_keep_27 : decode b_BS_keep 27 = .ok (.iload_n 1, 1) := by decide +kernel
theorem d_BS_keep_28 : decode b_BS_keep 28 = .ok (.invokevirtual 68, 3) := by decide +kernel
theorem d_BS_keep_31 : decode b_BS_keep 31 = .ok (.isub, 1) := by decide +kernel
theorem d_BS_keep_32 : decode b_BS_keep 32 = .ok (.invokevirtual 72, 3) := by decide +kernel
theorem d_BS_keep_35 : decode b_BS_keep 35 = .ok (.ireturn, 1) := by decide +kernel
abbrev b_BS_next : ByteArray := prog_3_method_8_code
def y_BS_next : MethodName := ⟨R_BS, "next", "()LPipelineBelt$Writer;"⟩
theorem kc_BS_next : Cond.code y_BS_next b_BS_next 2 (some (.object "PipelineBelt$Writer")) ∈ lw_g := lw_gm (List.mem_append_right _ (List.mem_of_getElem? (i := 595) (by decide +kernel))) rfl
abbrev mw_BS_next : List Cond := Cond.code y_BS_next b_BS_next 2 (some (.object "PipelineBelt$Writer")) :: lw_g
theorem hd_BS_next : y_BS_next.cls = R_BS ∧ y_BS_next.cls ≠ "java/lang/invoke/MethodHandle" ∧ y_BS_next.cls ≠ "java/lang/invoke/VarHandle" ∧ (parseMethodDescriptor y_BS_next.desc).map (fun d => d.parameters.length) = some 0 := by decide +kernel
theorem d_BS_next_0 : decode b_BS_next 0 = .ok (.aload_n 0, 1) := by decide +kernel
theorem d_BS_next_1 : decode b_BS_next 1 = .ok (.getfield 38, 3) := by decide +kernel
theorem d_BS_next_4 : decode b_BS_next 4 = .ok (.invokevirtual 45, 3) := by decide +kernel
theorem d_BS_next_7 : decode b_BS_next 7 = .ok (.istore_n 1, 1) := by decide +kernel
theorem d_BS_next_8 : decode b_BS_next 8 = .ok (.aload_n 0, 1) := by decide +kernel
theorem d_BS_next_9 : decode b_BS_next 9 = .ok (.getfield 20, 3) := by decide +kernel
theorem d_BS_next_12 : decode b_BS_next 12 = .ok (.iload_n 1, 1) := by decide +kernel
theorem d_BS_next_13 : decode b_BS_next 13 = .ok (.sipush 2000, 3) := by decide +kernel
theorem d_BS_next_16 : decode b_BS_next 16 = .ok (.aload_n 0, 1) := by decide +kernel
theorem d_BS_next_17 : decode b_BS_next 17 = .ok (.getfield 38, 3) := by decide +kernel
theorem d_BS_next_20 : decode b_BS_next 20 = .ok (.getfield 49, 3) := by decide +kernel
theorem d_BS_next_23 : decode b_BS_next 23 = .ok (.ldc 52, 2) := by decide +kernel
theorem d_BS_next_25 : decode b_BS_next 25 = .ok (.iadd, 1) := by decide +kernel
theorem d_BS_next_26 : decode b_BS_next 26 = .ok (.iload_n 1, 1) := by decide +kernel
theorem d_BS_next_27 : decode b_BS_next 27 = .ok (.isub, 1) := by decide +kernel
theorem d_BS_next_28 : decode b_BS_next 28 = .ok (.invokestatic 76, 3) := by decide +kernel
theorem d_BS_next_31 : decode b_BS_next 31 = .ok (.invokevirtual 53, 3) := by decide +kernel
theorem d_BS_next_34 : decode b_BS_next 34 = .ok (.aload_n 0, 1) := by decide +kernel
theorem d_BS_next_35 : decode b_BS_next 35 = .ok (.getfield 20, 3) := by decide +kernel
theorem d_BS_next_38 : decode b_BS_next 38 = .ok (.areturn, 1) := by decide +kernel
abbrev b_BS_accept : ByteArray := prog_3_method_9_code
def y_BS_accept : MethodName := ⟨R_BS, "accept", "()Z"⟩
theorem kc_BS_accept : Cond.code y_BS_accept b_BS_accept 2 (some .boolean) ∈ lw_g := lw_gm (List.mem_append_right _ (List.mem_of_getElem? (i := 662) (by decide +kernel))) rfl
abbrev mw_BS_accept : List Cond := Cond.code y_BS_accept b_BS_accept 2 (some .boolean) :: lw_g
theorem hd_BS_accept : y_BS_accept.cls = R_BS ∧ y_BS_accept.cls ≠ "java/lang/invoke/MethodHandle" ∧ y_BS_accept.cls ≠ "java/lang/invoke/VarHandle" ∧ (parseMethodDescriptor y_BS_accept.desc).map (fun d => d.parameters.length) = some 0 := by decide +kernel
theorem d_BS_accept_0 : decode b_BS_accept 0 = .ok (.aload_n 0, 1) := by decide +kernel
theorem d_BS_accept_1 : decode b_BS_accept 1 = .ok (.getfield 38, 3) := by decide +kernel
theorem d_BS_accept_4 : decode b_BS_accept 4 = .ok (.invokevirtual 45, 3) := by decide +kernel
theorem d_BS_accept_7 : decode b_BS_accept 7 = .ok (.istore_n 1, 1) := by decide +kernel
theorem d_BS_accept_8 : decode b_BS_accept 8 = .ok (.aload_n 0, 1) := by decide +kernel
theorem d_BS_accept_9 : decode b_BS_accept 9 = .ok (.getfield 20, 3) := by decide +kernel
theorem d_BS_accept_12 : decode b_BS_accept 12 = .ok (.getfield 60, 3) := by decide +kernel
theorem d_BS_accept_15 : decode b_BS_accept 15 = .ok (.ifCond .ne 42, 3) := by decide +kernel
theorem d_BS_accept_18 : decode b_BS_accept 18 = .ok (.aload_n 0, 1) := by decide +kernel
theorem d_BS_accept_19 : decode b_BS_accept 19 = .ok (.getfield 9, 3) := by decide +kernel
theorem d_BS_accept_22 : decode b_BS_accept 22 = .ok (.iconst 3, 1) := by decide +kernel
theorem d_BS_accept_23 : decode b_BS_accept 23 = .ok (.iload_n 1, 1) := by decide +kernel
theorem d_BS_accept_24 : decode b_BS_accept 24 = .ok (.invokestatic 82, 3) := by decide +kernel
theorem d_BS_accept_27 : decode b_BS_accept 27 = .ok (.iconst 1, 1) := by decide +kernel
theorem d_BS_accept_28 : decode b_BS_accept 28 = .ok (.invokevirtual 87, 3) := by decide +kernel
theorem d_BS_accept_31 : decode b_BS_accept 31 = .ok (.ifCond .ne 26, 3) := by decide +kernel
theorem d_BS_accept_34 : decode b_BS_accept 34 = .ok (.aload_n 0, 1) := by decide +kernel
theorem d_BS_accept_35 : decode b_BS_accept 35 = .ok (.getfield 38, 3) := by decide +kernel
theorem d_BS_accept_38 : decode b_BS_accept 38 = .ok (.aload_n 0, 1) := by decide +kernel
theorem d_BS_accept_39 : decode b_BS_accept 39 = .ok (.getfield 20, 3) := by decide +kernel
theorem d_BS_accept_42 : decode b_BS_accept 42 = .ok (.getfield 91, 3) := by decide +kernel
theorem d_BS_accept_45 : decode b_BS_accept 45 = .ok (.iload_n 1, 1) := by decide +kernel
theorem d_BS_accept_46 : decode b_BS_accept 46 = .ok (.isub, 1) := by decide +kernel
theorem d_BS_accept_47 : decode b_BS_accept 47 = .ok (.invokevirtual 64, 3) := by decide +kernel
theorem d_BS_accept_50 : decode b_BS_accept 50 = .ok (.ifCond .eq 7, 3) := by decide +kernel
theorem d_BS_accept_53 : decode b_BS_accept 53 = .ok (.iconst 1, 1) := by decide +kernel
theorem d_BS_accept_54 : decode b_BS_accept 54 = .ok (.goto 4, 3) := by decide +kernel
theorem d_BS_accept_57 : decode b_BS_accept 57 = .ok (.iconst 0, 1) := by decide +kernel
theorem d_BS_accept_58 : decode b_BS_accept 58 = .ok (.ireturn, 1) := by decide +kernel
theorem in_s {x N : Int32} {n : Nat} (h0 : ¬ x < 0) (h1 : ¬ N ≤ x) (hn : N.toInt + 1 = n) : vp_in (x + 1) n := by
  have a := i_nn h0
  have b := i_nle h1
  rw [vp_in_iff, i_toInt1 (i_lt_of h1)]
  omega
/-- where a belt's documents end, beside its base -/
def ae_ok (base en : Int32) : Prop := 0 ≤ base.toInt ∧ base.toInt ≤ 160000 ∧ base.toInt ≤ en.toInt ∧ en.toInt ≤ base.toInt + 40000
theorem ae_aim {base en : Int32} (h : ae_ok base en) : en.toInt ≤ 202000 ∧ 0 ≤ ((base + 40000) - en).toInt ∧ ((base + 40000) - en).toInt ≤ 202000 := by
  obtain ⟨h1, h2, h3, h4⟩ := h
  have y : (40000 : Int32).toInt = 40000 := rfl
  have e : (base + 40000).toInt = base.toInt + 40000 := i_add (by omega) (by omega)
  have e2 : ((base + 40000) - en).toInt = base.toInt + 40000 - en.toInt := by rw [i_sub (by omega) (by omega), e]
  omega
theorem ae_nx {base en : Int32} (h : ae_ok base en) : en.toInt ≤ 202000 ∧ 0 ≤ (if ((base + 40000) - en) < 2000 then ((base + 40000) - en) else 2000 : Int32).toInt ∧ (if ((base + 40000) - en) < 2000 then ((base + 40000) - en) else 2000 : Int32).toInt ≤ 202000 := by
  have h0 := ae_aim h
  have y : (2000 : Int32).toInt = 2000 := rfl
  split
  · exact h0
  · omega
section RQ
variable {p : Program} {l : Launch} {e : Env} {R : Room} {s : State} {m : MethodId} {args : Array Value} {below : List Frame} {meth : Method} {c : Code} {H H0 : Heap} {locs : List Loc} {cells slots : Nat} {Q : State → Prop}
variable {y : MethodName} {bytes cc : ByteArray} {maxL nL n index : Nat} {ret : Option FieldType} {ws : List Cond} {rm : Room} {Ts : List Cond} {own C : String} {b : Addr} {As rest st0 : List Value} {pc : Nat} {ls : Array Slot}
variable {D : va_G} {cB cI : ClassId} {wc wr wW : va_W} {A : Nat → Prop} {S : Type} {w1 : S → va_W}
theorem rd_Vq {val : Option Nat} (S : CallFix p m c cc nL s args Ts own) (hM : Met l y ws rm (va_Pc (.ref b :: As) (fun U => va_P D vwCl wc U.heap ∧ hk_ D cB cI U)) (va_Sq (fun r => r = val)) 0 0 (fun _ => False))
    (cw : CallW R s args own C index y bytes maxL ret ws rm 0 0 n) (hk : hk_ D cB cI s) (hP : va_P D vwCl wc H) {q0 ci : Nat} {fs : List Value} {q : vw_C} (he : wc[q0]? = some (b, .inr (ci, fs))) (hc : vwCl[ci]? = some q) (hC : q.1 = C)
    (hn : As.length = n) (hsz : ls.size = nL) (hst : st0 = As.reverse ++ .ref b :: rest) (hcat : (rest.map fun v => v.category).sum ≤ 8) (hdg : decode cc pc = .ok (.invokevirtual index, 3)) (hf : cells ≤ R.cells ∧ slots ≤ R.slots)
    (kk : W p l e R s m args below meth c H locs cells slots Q (F0 m (pc + 3) ls (va_rf val :: rest))) : W p l e R s m args below meth c H locs cells slots Q (F0 m pc ls st0) := by
  subst hC
  refine va_csq (va_runV S hM cw ⟨fun a U g mk q => ⟨q.1, q.2.1, q.2.2.calling⟩, va_recv hk.1 hP hc he, fun U hU hW => ⟨rfl, by rw [hU]; exact hP, hk.warm hW⟩⟩ rfl hn hsz hst (lv_room hcat) hdg hf).run (fun r hr => ?_)
  subst hr
  exact kk
theorem mt_Vr {post : S → Prop} {aR : Nat} (Sx : CallFix p m c cc nL s args Ts own)
    (hM : Met l y ws rm (va_Pc (.ref b :: As) (mt_P D cB cI wc H.size)) (va_Qr post (fun u a t => a = aR ∧ mt_B D (va_A wc H.size) w1 u t) (va_A wc H.size)) 0 0 (va_A wc H.size))
    (cw : CallW R s args own C index y bytes maxL ret ws rm 0 0 n) (hk : hk_ D cB cI s) (hP : va_P D vwCl wW H) (hD : va_D A wW) (hS : va_S A H0 H locs) (hA : ∀ q, H0.size ≤ q → A q)
    (isC isR : List Nat) (hC : isC.map (fun i => wW[i]?) = wc.map some) (hCf : isC.filterMap (fun i => wW[i]?) = wc) (hR : isR.map (fun i => wW[i]?) = wr.map some) (hnC : va_nd isC = true) (hnR : va_nd isR = true) (hdis : ∀ i ∈ isR, i ∉ isC)
    {q0 ci : Nat} {fs : List Value} {q : vw_C} (he : wc[q0]? = some (b, .inr (ci, fs))) (hc : vwCl[ci]? = some q) (hqC : q.1 = C)
    (hn : As.length = n) (hsz : ls.size = nL) (hst : st0 = As.reverse ++ .ref b :: rest) (hcat : (rest.map fun v => v.category).sum ≤ 8) (hdg : decode cc pc = .ok (.invokevirtual index, 3)) (hf : cells ≤ R.cells ∧ slots ≤ R.slots)
    (kk : ∀ (u : S) (H1 : Heap) (locs1 : List Loc), post u → va_P D vwCl (wr ++ w1 u) H1 → va_D A (wr ++ w1 u) → va_S A H0 H1 locs1 → W p l e R s m args below meth c H1 locs1 cells slots Q (F0 m (pc + 3) ls (.ref aR :: rest))) : W p l e R s m args below meth c H locs cells slots Q (F0 m pc ls st0) := by
  subst hqC
  have hPc := hP.sub isC hCf
  have hDc := hD.sub isC hnC hC
  have hFc := va_free (wc := wc) hD hS hA isC hC
  refine va_callr (va_runV Sx hM cw ⟨mt_blind, va_recv hk.1 hPc hc he, mt_pre hk hPc hDc⟩ rfl hn hsz hst (lv_room hcat) hdg hf) hS (fun q _ h => hFc q h) hFc (fun u ra t H1 locs ht hvm hw hB hz1 hk1 hS => ?_)
  obtain ⟨hra, hP1, hD1⟩ := hB
  subst hra
  rw [ht] at hP1
  obtain ⟨hP2, hD2⟩ := va_join hP hD isC isR hC hR hnR hdis hk1 hFc hP1 hD1
  exact kk u H1 locs hw hP2 hD2 hS
end RQ

set_option maxHeartbeats 4000000 in
set_option maxRecDepth 100000 in
theorem c_BE_start (l : Launch) (D : va_G) (cB cI : ClassId) (aE aEs : Nat) (ebase : Int32) (ecnt : Int32) (ests : Nat → Int32) (p0 : Int32) : Met l y_BE_start mw_BE_start { frames := 0, cells := 0, slots := 0, locals := 0 } (va_Pc [.ref aE, .int p0] (fun U => va_P D vwCl [(aE, .inr (2, [.int ebase, .ref aEs, .int ecnt])), (aEs, .inl (cI, 201, .inl ests))] U.heap ∧ hk_ D cB cI U)) (vp_Si (fun r => r = tw_BE_start ebase ecnt ests p0)) 0 0 (fun _ => False) := by
  refine Met.ofW (cc := b_BE_start) (maxL := 2) (ret := (some .int)) (by decide) rfl ?_
  intro p e s m args below meth c s₁ B0 hml hv
  obtain ⟨rfl, hP, hk⟩ := hv
  have hK := hk.1
  have hN := hk.2.1
  have hx := B0.exec
  have hb := B0.bytes
  have hr := B0.returns
  have hT : ∀ w ∈ lw_g, w.before _ s = true := fun w h => atoms_spec (ws := mw_BE_start) B0.pre w (List.mem_cons_of_mem _ h)
  have hown : s.vm.findClass R_BE = some m.cls := findClass_of_methodNamed B0.named
  have hlocks := B0.notSynchronized
  have hl := lv_entry ([.ref aE, .int p0]) (n := 2) (Nat.le_of_ble_eq_true rfl)
  rw [lg_entry_eq]
  generalize (lg_sl ([.ref aE, .int p0]) ++ List.replicate (2 - (lg_sl ([.ref aE, .int p0])).length) Slot.unset).toArray = ls at hl ⊢
  have hl : lv_has ls 2 [(0, .ref aE), (1, .int p0)] := hl
  refine lv_iload_n hx hb d_BE_start_0 rfl (lv_at hl 1 rfl) ?_
  refine lv_if_lt (tgt := 22) hx hb d_BE_start_1 (by decide) (fun c_1 => ?_) (fun c_1 => ?_)
  · refine lv_aload_n hx hb d_BE_start_22 rfl (lv_at hl 0 rfl) ?_
    refine va_get (D := D) (ci := 2) (v := .int ebase) (C := R_BE) (T := T_BE) (N := 3) hx hb hT u_BE hown hK hP 0 rfl rfl 0 (by decide) (hT _ k_89) (fun _ h9 => h9) rfl d_BE_start_23 ?_
    exact W.iret (v := ebase) hx hb hr (fun t ht hW => ⟨ebase, rfl, (by rw [tw_BE_start, if_pos c_1]; first | done | rfl), ht⟩) (fun _ h => by cases h) d_BE_start_26
  · refine lv_iload_n hx hb d_BE_start_4 rfl (lv_at hl 1 rfl) ?_
    refine lv_aload_n hx hb d_BE_start_5 rfl (lv_at hl 0 rfl) ?_
    refine va_get (D := D) (ci := 2) (v := .ref aEs) (C := R_BE) (T := T_BE) (N := 3) hx hb hT u_BE hown hK hP 0 rfl rfl 1 (by decide) (hT _ k_92) (fun _ h9 => h9) rfl d_BE_start_6 ?_
    refine va_alen (v := 201) hx hb hK hP 1 1 rfl rfl rfl d_BE_start_9 ?_
    refine lv_icmp_ge (tgt := 22) hx hb d_BE_start_10 (by decide) (fun c_2 => ?_) (fun c_2 => ?_)
    · refine lv_aload_n hx hb d_BE_start_22 rfl (lv_at hl 0 rfl) ?_
      refine va_get (D := D) (ci := 2) (v := .int ebase) (C := R_BE) (T := T_BE) (N := 3) hx hb hT u_BE hown hK hP 0 rfl rfl 0 (by decide) (hT _ k_89) (fun _ h9 => h9) rfl d_BE_start_23 ?_
      exact W.iret (v := ebase) hx hb hr (fun t ht hW => ⟨ebase, rfl, (by rw [tw_BE_start, if_neg c_1, if_pos c_2]; first | done | rfl), ht⟩) (fun _ h => by cases h) d_BE_start_26
    · refine lv_aload_n hx hb d_BE_start_13 rfl (lv_at hl 0 rfl) ?_
      refine va_get (D := D) (ci := 2) (v := .ref aEs) (C := R_BE) (T := T_BE) (N := 3) hx hb hT u_BE hown hK hP 0 rfl rfl 1 (by decide) (hT _ k_92) (fun _ h9 => h9) rfl d_BE_start_14 ?_
      refine lv_iload_n hx hb d_BE_start_17 rfl (lv_at hl 1 rfl) ?_
      refine va_iald hx hb hK hP 1 1 rfl rfl (in_nn c_1 c_2 rfl) d_BE_start_18 ?_
      refine lv_goto (tgt := 26) hx hb d_BE_start_19 (by decide) ?_
      exact W.iret (v := ests p0.toNatClampNeg) hx hb hr (fun t ht hW => ⟨ests p0.toNatClampNeg, rfl, (by rw [tw_BE_start, if_neg c_1, if_neg c_2]; first | done | rfl), ht⟩) (fun _ h => by cases h) d_BE_start_26
set_option maxHeartbeats 4000000 in
set_option maxRecDepth 100000 in
theorem c_BE_end (l : Launch) (D : va_G) (cB cI : ClassId) (aE aEs : Nat) (ebase : Int32) (ecnt : Int32) (ests : Nat → Int32) : Met l y_BE_end mw_BE_end { frames := 1, cells := 0, slots := 0, locals := 21 } (va_Pc [.ref aE] (fun U => va_P D vwCl [(aE, .inr (2, [.int ebase, .ref aEs, .int ecnt])), (aEs, .inl (cI, 201, .inl ests))] U.heap ∧ hk_ D cB cI U)) (vp_Si (fun r => r = tw_BE_end ebase ecnt ests)) 0 0 (fun _ => False) := by
  refine Met.ofW (cc := b_BE_end) (maxL := 1) (ret := (some .int)) (by decide) rfl ?_
  intro p e s m args below meth c s₁ B0 hml hv
  obtain ⟨rfl, hP, hk⟩ := hv
  have hK := hk.1
  have hN := hk.2.1
  have hx := B0.exec
  have hb := B0.bytes
  have hr := B0.returns
  have hT : ∀ w ∈ lw_g, w.before _ s = true := fun w h => atoms_spec (ws := mw_BE_end) B0.pre w (List.mem_cons_of_mem _ h)
  have hown : s.vm.findClass R_BE = some m.cls := findClass_of_methodNamed B0.named
  have hlocks := B0.notSynchronized
  have hl := lv_entry ([.ref aE]) (n := 1) (Nat.le_of_ble_eq_true rfl)
  rw [lg_entry_eq]
  generalize (lg_sl ([.ref aE]) ++ List.replicate (1 - (lg_sl ([.ref aE])).length) Slot.unset).toArray = ls at hl ⊢
  have hl : lv_has ls 1 [(0, .ref aE)] := hl
  refine lv_aload_n hx hb d_BE_end_0 rfl (lv_at hl 0 rfl) ?_
  refine lv_aload_n hx hb d_BE_end_1 rfl (lv_at hl 0 rfl) ?_
  refine va_get (D := D) (ci := 2) (v := .int ecnt) (C := R_BE) (T := T_BE) (N := 3) hx hb hT u_BE hown hK hP 0 rfl rfl 2 (by decide) (hT _ k_94) (fun _ h9 => h9) rfl d_BE_end_2 ?_
  refine rd_V (val := tw_BE_start ebase ecnt ests ecnt) (As := [.int ecnt]) (rest := []) ⟨hx, hb, hml, hown, hT⟩ (c_BE_start l D cB cI aE aEs ebase ecnt ests ecnt) (cwV 1 hT (gV_of k_439 k_440 k_441 k_6 kc_BE_start) rfl rfl rfl hd_BE_start ⟨Nat.le_of_ble_eq_true rfl, Nat.le_of_ble_eq_true rfl⟩) hk hP (q0 := 0) rfl rfl rfl rfl hl.1 rfl (Nat.le_of_ble_eq_true rfl) d_BE_end_5 ⟨Nat.zero_le _, Nat.zero_le _⟩ ?_
  exact W.iret (v := tw_BE_start ebase ecnt ests ecnt) hx hb hr (fun t ht hW => ⟨tw_BE_start ebase ecnt ests ecnt, rfl, (by rw [tw_BE_end]; first | done | rfl), ht⟩) (fun _ h => by cases h) d_BE_end_8
/-- a belt: its end as it has to be, its count from 0 to 200 -/
def be_ok (base cnt : Int32) (sts : Nat → Int32) : Prop := ae_ok base (tw_BE_end base cnt sts) ∧ 0 ≤ cnt.toInt ∧ cnt.toInt ≤ 200
theorem be_end {base cnt : Int32} {sts : Nat → Int32} (h0 : 0 ≤ cnt.toInt) (h1 : cnt.toInt ≤ 200) : tw_BE_end base cnt sts = sts cnt.toNatClampNeg := by
  unfold tw_BE_end tw_BE_start
  have z : (0 : Int32).toInt = 0 := rfl
  have y : (201 : Int32).toInt = 201 := rfl
  rw [if_neg (by rw [i_lt]; omega), if_neg (by rw [i_le]; omega)]
theorem be_add {base cnt p0 : Int32} {sts : Nat → Int32} (hi : be_ok base cnt sts) (hl : 0 ≤ p0.toInt ∧ p0.toInt ≤ 202000) (c2 : ¬ 200 ≤ cnt) (c3 : ((tw_BE_end base cnt sts) + p0) - base ≤ 40000) : be_ok base (cnt + 1) (upd sts (cnt + 1).toNatClampNeg ((tw_BE_end base cnt sts) + p0)) := by
  obtain ⟨⟨a1, a2, a3, a4⟩, a5, a6⟩ := hi
  have y : (200 : Int32).toInt = 200 := rfl
  have y2 : (40000 : Int32).toInt = 40000 := rfl
  have c2' := i_nle c2
  have e : (cnt + 1).toInt = cnt.toInt + 1 := i_toInt1 (i_lt_of c2)
  have e2 : ((tw_BE_end base cnt sts) + p0).toInt = (tw_BE_end base cnt sts).toInt + p0.toInt := i_add (by omega) (by omega)
  have c3' := i_le.mp c3
  have e3 : (((tw_BE_end base cnt sts) + p0) - base).toInt = ((tw_BE_end base cnt sts) + p0).toInt - base.toInt := i_sub (by omega) (by omega)
  have e4 : tw_BE_end base (cnt + 1) (upd sts (cnt + 1).toNatClampNeg ((tw_BE_end base cnt sts) + p0)) = (tw_BE_end base cnt sts) + p0 := by
    rw [be_end (by omega) (by omega), pk_us]
  refine ⟨?_, by omega, by omega⟩
  rw [e4]
  exact ⟨a1, a2, by omega, by omega⟩
theorem ap_len {place limit p1 p2 pl li : Int32} {full fu : Bool} {b bb : Nat → UInt8} (hi : w_ok place limit full) (hw : (pl, li, fu, bb) = tw_WR_copy place limit full b p1 (p1 + p2)) (c : b2i fu = 0) : 0 ≤ p2.toInt ∧ p2.toInt ≤ 202000 := by
  have e : p1 + p2 - p1 = p2 := by rw [Int32.add_comm, Int32.add_sub_cancel]
  unfold tw_WR_copy at hw
  rw [e] at hw
  by_cases c0 : b2i full = 0
  · rw [if_pos c0] at hw
    by_cases c1 : p1 < 0
    · rw [if_pos c1] at hw
      cases hw
      exact absurd c (by decide)
    · rw [if_neg c1] at hw
      by_cases c2 : p2 < 0
      · rw [if_pos c2] at hw
        cases hw
        exact absurd c (by decide)
      · rw [if_neg c2] at hw
        by_cases c3 : 202000 < p1 + p2
        · rw [if_pos c3] at hw
          cases hw
          exact absurd c (by decide)
        · rw [if_neg c3] at hw
          by_cases c4 : p2 ≤ limit - place
          · obtain ⟨h1, h2, h3⟩ := hi (b2i_0.mp c0)
            have a4 := i_le.mp c4
            have e0 : (limit - place).toInt = limit.toInt - place.toInt := i_sub (by omega) (by omega)
            have := i_nn c2
            omega
          · rw [if_neg c4] at hw
            cases hw
            exact absurd c (by decide)
  · rw [if_neg c0] at hw
    cases hw
    exact absurd c (by decide)
theorem aim_pl {place limit p0 p1 pl li : Int32} {full fu : Bool} (hw : (pl, li, fu) = tw_WR_aim place limit full p0 p1) : pl = p0 := by
  unfold tw_WR_aim at hw
  split at hw <;> (cases hw; rfl)
/-- the writer begins where the new documents end -/
def w_nx (base cnt : Int32) (sts : Nat → Int32) (place limit : Int32) (full : Bool) : Prop := w_ok place limit full ∧ tw_BE_end base cnt sts = place
theorem ac_len {place en base : Int32} {full : Bool} (h : full = false → en.toInt ≤ place.toInt ∧ place.toInt ≤ 202000) (he : ae_ok base en) (c : b2i full = 0) : 0 ≤ (place - en).toInt ∧ (place - en).toInt ≤ 202000 := by
  obtain ⟨h1, h2⟩ := h (b2i_0.mp c)
  obtain ⟨a1, a2, a3, a4⟩ := he
  have e : (place - en).toInt = place.toInt - en.toInt := i_sub (by omega) (by omega)
  omega

abbrev wd_BE_add (aE aEs : Nat) (cB cI : ClassId) (ebase : Int32) (ecnt : Int32) (ests : Nat → Int32) : va_W := [(aE, .inr (2, [.int ebase, .ref aEs, .int ecnt])), (aEs, .inl (cI, 201, .inl ests))]
set_option maxHeartbeats 4000000 in
set_option maxRecDepth 100000 in
theorem c_BE_add (l : Launch) (D : va_G) (cB cI : ClassId) (aE aEs : Nat) (ebase : Int32) (sz : Nat) (ecnt : Int32) (ests : Nat → Int32) (p0 : Int32) (hle : 0 ≤ p0.toInt ∧ p0.toInt ≤ 202000) (hi : be_ok ebase ecnt ests) : Met l y_BE_add mw_BE_add { frames := 2, cells := 0, slots := 0, locals := 41 } (va_Pc [.ref aE, .int p0] (mt_P D cB cI (wd_BE_add aE aEs cB cI ebase ecnt ests) sz)) (va_Qi (fun (r : Int32) (u : Int32 × (Nat → Int32)) => ∃ z9 : Bool, r = b2i z9 ∧ (z9, u) = tw_BE_add ebase ecnt ests p0 ∧ be_ok ebase u.1 u.2) (mt_B D (va_A (wd_BE_add aE aEs cB cI ebase ecnt ests) sz) (fun u => wd_BE_add aE aEs cB cI ebase u.1 u.2)) (va_A (wd_BE_add aE aEs cB cI ebase ecnt ests) sz)) 0 0 (va_A (wd_BE_add aE aEs cB cI ebase ecnt ests) sz) := by
  refine Met.ofW (cc := b_BE_add) (maxL := 3) (ret := (some .boolean)) (by decide) rfl ?_
  intro p e s m args below meth c s₁ B0 hml hv
  obtain ⟨rfl, hsz, hP, hk, hD0⟩ := hv
  have hK := hk.1
  have hN := hk.2.1
  have hx := B0.exec
  have hb := B0.bytes
  have hr := B0.returns
  have hT : ∀ w ∈ lw_g, w.before _ s = true := fun w h => atoms_spec (ws := mw_BE_add) B0.pre w (List.mem_cons_of_mem _ h)
  have hown : s.vm.findClass R_BE = some m.cls := findClass_of_methodNamed B0.named
  have hlocks := B0.notSynchronized
  subst hsz
  have hD := hD0.self (sz := s.heap.size)
  generalize hAe : va_A [(aE, .inr (2, [.int ebase, .ref aEs, .int ecnt])), (aEs, .inl (cI, 201, .inl ests))] s.heap.size = A at hD ⊢
  have hA : ∀ q : Nat, s.heap.size ≤ q → A q := fun q h => by rw [← hAe]; exact Or.inr h
  have hS : va_S A s.heap s.heap [] := va_S.rf
  have hl := lv_entry ([.ref aE, .int p0]) (n := 3) (Nat.le_of_ble_eq_true rfl)
  rw [lg_entry_eq]
  generalize (lg_sl ([.ref aE, .int p0]) ++ List.replicate (3 - (lg_sl ([.ref aE, .int p0])).length) Slot.unset).toArray = ls at hl ⊢
  have hl : lv_has ls 3 [(0, .ref aE), (1, .int p0)] := hl
  refine lv_aload_n hx hb d_BE_add_0 rfl (lv_at hl 0 rfl) ?_
  refine rd_V (val := tw_BE_end ebase ecnt ests) (As := []) (rest := []) ⟨hx, hb, hml, hown, hT⟩ (c_BE_end l D cB cI aE aEs ebase ecnt ests) (cwV 0 hT (gV_of k_461 k_436 k_437 k_6 kc_BE_end) rfl rfl rfl hd_BE_end ⟨Nat.le_of_ble_eq_true rfl, Nat.le_of_ble_eq_true rfl⟩) hk hP (q0 := 0) rfl rfl rfl rfl hl.1 rfl (Nat.le_of_ble_eq_true rfl) d_BE_add_1 ⟨Nat.zero_le _, Nat.zero_le _⟩ ?_
  refine lv_iload_n hx hb d_BE_add_4 rfl (lv_at hl 1 rfl) ?_
  refine lv_iadd hx hb d_BE_add_5 ?_
  refine lv_istore_n (lv' := [(2, .int ((tw_BE_end ebase ecnt ests) + p0)), (0, .ref aE), (1, .int p0)]) hx hb d_BE_add_6 rfl hl (by decide) rfl (fun ls hl => ?_)
  refine lv_aload_n hx hb d_BE_add_7 rfl (lv_at hl 1 rfl) ?_
  refine va_get (D := D) (ci := 2) (v := .int ecnt) (C := R_BE) (T := T_BE) (N := 3) hx hb hT u_BE hown hK hP 0 rfl rfl 2 (by decide) (hT _ k_94) (fun _ h9 => h9) rfl d_BE_add_8 ?_
  refine lv_if_lt (tgt := 35) hx hb d_BE_add_11 (by decide) (fun c_1 => ?_) (fun c_1 => ?_)
  · refine lv_iconst (v := 0) hx hb d_BE_add_35 (by decide) ?_
    exact W.zret (v := 0) (ty := .boolean) hx hb hr (rfl) (fun t ht hW => ⟨⟨0, (ecnt, ests), rfl, ⟨false, rfl, (by rw [tw_BE_add, if_pos c_1]; first | done | rfl), hi⟩, by rw [ht]; exact hP, hD⟩, hS.F ht⟩) hS.2.2 d_BE_add_36
  · refine lv_aload_n hx hb d_BE_add_14 rfl (lv_at hl 1 rfl) ?_
    refine va_get (D := D) (ci := 2) (v := .int ecnt) (C := R_BE) (T := T_BE) (N := 3) hx hb hT u_BE hown hK hP 0 rfl rfl 2 (by decide) (hT _ k_94) (fun _ h9 => h9) rfl d_BE_add_15 ?_
    refine lv_sipush (v := 200) hx hb d_BE_add_18 (by decide) ?_
    refine lv_icmp_ge (tgt := 35) hx hb d_BE_add_21 (by decide) (fun c_2 => ?_) (fun c_2 => ?_)
    · refine lv_iconst (v := 0) hx hb d_BE_add_35 (by decide) ?_
      exact W.zret (v := 0) (ty := .boolean) hx hb hr (rfl) (fun t ht hW => ⟨⟨0, (ecnt, ests), rfl, ⟨false, rfl, (by rw [tw_BE_add, if_neg c_1, if_pos c_2]; first | done | rfl), hi⟩, by rw [ht]; exact hP, hD⟩, hS.F ht⟩) hS.2.2 d_BE_add_36
    · refine lv_iload_n hx hb d_BE_add_24 rfl (lv_at hl 0 rfl) ?_
      refine lv_aload_n hx hb d_BE_add_25 rfl (lv_at hl 1 rfl) ?_
      refine va_get (D := D) (ci := 2) (v := .int ebase) (C := R_BE) (T := T_BE) (N := 3) hx hb hT u_BE hown hK hP 0 rfl rfl 0 (by decide) (hT _ k_89) (fun _ h9 => h9) rfl d_BE_add_26 ?_
      refine lv_isub hx hb d_BE_add_29 ?_
      refine lv_ldc (v := 40000) hx hb hown (hT _ k_462) d_BE_add_30 ?_
      refine lv_icmp_le (tgt := 37) hx hb d_BE_add_32 (by decide) (fun c_3 => ?_) (fun c_3 => ?_)
      · refine lv_aload_n hx hb d_BE_add_37 rfl (lv_at hl 1 rfl) ?_
        refine lv_dup hx hb d_BE_add_38 rfl ?_
        refine va_get (D := D) (ci := 2) (v := .int ecnt) (C := R_BE) (T := T_BE) (N := 3) hx hb hT u_BE hown hK hP 0 rfl rfl 2 (by decide) (hT _ k_94) (fun _ h9 => h9) rfl d_BE_add_39 ?_
        refine lv_iconst (v := 1) hx hb d_BE_add_42 (by decide) ?_
        refine lv_iadd hx hb d_BE_add_43 ?_
        refine va_put (D := D) (ci := 2) (v := .int (ecnt + 1)) (ty := .int) (C := R_BE) (T := T_BE) (N := 3) hx hb hT u_BE ty_BE tyok_BE nm_BE hown hK hP hD hS 0 rfl rfl 2 (by decide) (hT _ k_94) (fun _ h9 => h9) rfl (by decide +kernel) (rfl) (rfl) (Nat.le_of_ble_eq_true rfl) d_BE_add_44 (fun H locs hP hD hS => ?_)
        have hP : va_P D vwCl [(aE, .inr (2, [.int ebase, .ref aEs, .int (ecnt + 1)])), (aEs, .inl (cI, 201, .inl ests))] H := hP
        have hD : va_D A [(aE, .inr (2, [.int ebase, .ref aEs, .int (ecnt + 1)])), (aEs, .inl (cI, 201, .inl ests))] := hD
        refine lv_aload_n hx hb d_BE_add_47 rfl (lv_at hl 1 rfl) ?_
        refine va_get (D := D) (ci := 2) (v := .ref aEs) (C := R_BE) (T := T_BE) (N := 3) hx hb hT u_BE hown hK hP 0 rfl rfl 1 (by decide) (hT _ k_92) (fun _ h9 => h9) rfl d_BE_add_48 ?_
        refine lv_aload_n hx hb d_BE_add_51 rfl (lv_at hl 1 rfl) ?_
        refine va_get (D := D) (ci := 2) (v := .int (ecnt + 1)) (C := R_BE) (T := T_BE) (N := 3) hx hb hT u_BE hown hK hP 0 rfl rfl 2 (by decide) (hT _ k_94) (fun _ h9 => h9) rfl d_BE_add_52 ?_
        refine lv_iload_n hx hb d_BE_add_55 rfl (lv_at hl 0 rfl) ?_
        refine va_iast hx hb hK hP hD hS 1 1 rfl rfl (in_s c_1 c_2 rfl) d_BE_add_56 (fun H locs hP hD hS => ?_)
        have hP : va_P D vwCl [(aE, .inr (2, [.int ebase, .ref aEs, .int (ecnt + 1)])), (aEs, .inl (cI, 201, .inl (upd ests (ecnt + 1).toNatClampNeg ((tw_BE_end ebase ecnt ests) + p0))))] H := hP
        have hD : va_D A [(aE, .inr (2, [.int ebase, .ref aEs, .int (ecnt + 1)])), (aEs, .inl (cI, 201, .inl (upd ests (ecnt + 1).toNatClampNeg ((tw_BE_end ebase ecnt ests) + p0))))] := hD
        refine lv_iconst (v := 1) hx hb d_BE_add_57 (by decide) ?_
        exact W.zret (v := 1) (ty := .boolean) hx hb hr (rfl) (fun t ht hW => ⟨⟨1, (ecnt + 1, upd ests (ecnt + 1).toNatClampNeg ((tw_BE_end ebase ecnt ests) + p0)), rfl, ⟨true, rfl, (by rw [tw_BE_add, if_neg c_1, if_neg c_2, if_pos c_3]; first | done | rfl), be_add hi hle c_2 c_3⟩, by rw [ht]; exact hP, hD⟩, hS.F ht⟩) hS.2.2 d_BE_add_58
      · refine lv_iconst (v := 0) hx hb d_BE_add_35 (by decide) ?_
        exact W.zret (v := 0) (ty := .boolean) hx hb hr (rfl) (fun t ht hW => ⟨⟨0, (ecnt, ests), rfl, ⟨false, rfl, (by rw [tw_BE_add, if_neg c_1, if_neg c_2, if_neg c_3]; first | done | rfl), hi⟩, by rw [ht]; exact hP, hD⟩, hS.F ht⟩) hS.2.2 d_BE_add_36
set_option maxHeartbeats 4000000 in
set_option maxRecDepth 100000 in
theorem c_BS_numbered (l : Launch) (D : va_G) (cB cI : ClassId) (aY aS aW aF aK aN : Nat) (p0 : Int32) : Met l y_BS_numbered mw_BS_numbered { frames := 0, cells := 0, slots := 0, locals := 0 } (va_Pc [.ref aY, .int p0] (fun U => va_P D vwCl [(aY, .inr (3, [.ref aS, .ref aW, .ref aF, .ref aK, .ref aN]))] U.heap ∧ hk_ D cB cI U)) (va_Sq (fun r => r = tw_BS_numbered aF aK p0)) 0 0 (fun _ => False) := by
  refine Met.ofW (cc := b_BS_numbered) (maxL := 2) (ret := (some (.object "PipelineBelt$Belt"))) (by decide) rfl ?_
  intro p e s m args below meth c s₁ B0 hml hv
  obtain ⟨rfl, hP, hk⟩ := hv
  have hK := hk.1
  have hN := hk.2.1
  have hx := B0.exec
  have hb := B0.bytes
  have hr := B0.returns
  have hT : ∀ w ∈ lw_g, w.before _ s = true := fun w h => atoms_spec (ws := mw_BS_numbered) B0.pre w (List.mem_cons_of_mem _ h)
  have hown : s.vm.findClass R_BS = some m.cls := findClass_of_methodNamed B0.named
  have hlocks := B0.notSynchronized
  have hl := lv_entry ([.ref aY, .int p0]) (n := 2) (Nat.le_of_ble_eq_true rfl)
  rw [lg_entry_eq]
  generalize (lg_sl ([.ref aY, .int p0]) ++ List.replicate (2 - (lg_sl ([.ref aY, .int p0])).length) Slot.unset).toArray = ls at hl ⊢
  have hl : lv_has ls 2 [(0, .ref aY), (1, .int p0)] := hl
  refine lv_iload_n hx hb d_BS_numbered_0 rfl (lv_at hl 1 rfl) ?_
  refine lv_if_ne (tgt := 11) hx hb d_BS_numbered_1 (by decide) (fun c_1 => ?_) (fun c_1 => ?_)
  · refine lv_iload_n hx hb d_BS_numbered_11 rfl (lv_at hl 1 rfl) ?_
    refine lv_iconst (v := 1) hx hb d_BS_numbered_12 (by decide) ?_
    refine lv_icmp_ne (tgt := 23) hx hb d_BS_numbered_13 (by decide) (fun c_2 => ?_) (fun c_2 => ?_)
    · refine lv_null hx hb d_BS_numbered_23 ?_
      exact W.aret (v := .null) hx hb hr (Or.inl ⟨_, rfl⟩) (Or.inl rfl) (fun t ht hW => ⟨none, rfl, (by rw [tw_BS_numbered, if_neg c_1, if_neg c_2]; first | done | rfl), ht⟩) (fun _ h => by cases h) d_BS_numbered_24
    · refine lv_aload_n hx hb d_BS_numbered_16 rfl (lv_at hl 0 rfl) ?_
      refine va_get (D := D) (ci := 3) (v := .ref aK) (C := R_BS) (T := T_BS) (N := 5) hx hb hT u_BS hown hK hP 0 rfl rfl 3 (by decide) (hT _ k_118) (fun _ h9 => h9) rfl d_BS_numbered_17 ?_
      refine lv_goto (tgt := 24) hx hb d_BS_numbered_20 (by decide) ?_
      exact W.aret (v := .ref aK) hx hb hr (Or.inl ⟨_, rfl⟩) (Or.inr ⟨_, rfl⟩) (fun t ht hW => ⟨(some aK), rfl, (by rw [tw_BS_numbered, if_neg c_1, if_pos c_2]; first | done | rfl), ht⟩) (fun _ h => by cases h) d_BS_numbered_24
  · refine lv_aload_n hx hb d_BS_numbered_4 rfl (lv_at hl 0 rfl) ?_
    refine va_get (D := D) (ci := 3) (v := .ref aF) (C := R_BS) (T := T_BS) (N := 5) hx hb hT u_BS hown hK hP 0 rfl rfl 2 (by decide) (hT _ k_112) (fun _ h9 => h9) rfl d_BS_numbered_5 ?_
    refine lv_goto (tgt := 24) hx hb d_BS_numbered_8 (by decide) ?_
    exact W.aret (v := .ref aF) hx hb hr (Or.inl ⟨_, rfl⟩) (Or.inr ⟨_, rfl⟩) (fun t ht hW => ⟨(some aF), rfl, (by rw [tw_BS_numbered, if_pos c_1]; first | done | rfl), ht⟩) (fun _ h => by cases h) d_BS_numbered_24
abbrev wd_BS_exchange (aY aS aW aF aK aN : Nat) (cB cI : ClassId)  : va_W := [(aY, .inr (3, [.ref aS, .ref aW, .ref aF, .ref aK, .ref aN]))]
set_option maxHeartbeats 4000000 in
set_option maxRecDepth 100000 in
theorem c_BS_exchange (l : Launch) (D : va_G) (cB cI : ClassId) (aY aS aW aF aK aN : Nat) (sz : Nat)  : Met l y_BS_exchange mw_BS_exchange { frames := 0, cells := 0, slots := 0, locals := 0 } (va_Pc [.ref aY] (mt_P D cB cI (wd_BS_exchange aY aS aW aF aK aN cB cI ) sz)) (va_Qv (fun (u : Unit) => u = tw_BS_exchange) (mt_B D (va_A (wd_BS_exchange aY aS aW aF aK aN cB cI ) sz) (fun (_ : Unit) => [(aY, .inr (3, [.ref aS, .ref aW, .ref aK, .ref aF, .ref aN]))])) (va_A (wd_BS_exchange aY aS aW aF aK aN cB cI ) sz)) 0 0 (va_A (wd_BS_exchange aY aS aW aF aK aN cB cI ) sz) := by
  refine Met.ofW (cc := b_BS_exchange) (maxL := 2) (ret := none) (by decide) rfl ?_
  intro p e s m args below meth c s₁ B0 hml hv
  obtain ⟨rfl, hsz, hP, hk, hD0⟩ := hv
  have hK := hk.1
  have hN := hk.2.1
  have hx := B0.exec
  have hb := B0.bytes
  have hr := B0.returns
  have hT : ∀ w ∈ lw_g, w.before _ s = true := fun w h => atoms_spec (ws := mw_BS_exchange) B0.pre w (List.mem_cons_of_mem _ h)
  have hown : s.vm.findClass R_BS = some m.cls := findClass_of_methodNamed B0.named
  have hlocks := B0.notSynchronized
  subst hsz
  have hD := hD0.self (sz := s.heap.size)
  generalize hAe : va_A [(aY, .inr (3, [.ref aS, .ref aW, .ref aF, .ref aK, .ref aN]))] s.heap.size = A at hD ⊢
  have hA : ∀ q : Nat, s.heap.size ≤ q → A q := fun q h => by rw [← hAe]; exact Or.inr h
  have hS : va_S A s.heap s.heap [] := va_S.rf
  have hl := lv_entry ([.ref aY]) (n := 2) (Nat.le_of_ble_eq_true rfl)
  rw [lg_entry_eq]
  generalize (lg_sl ([.ref aY]) ++ List.replicate (2 - (lg_sl ([.ref aY])).length) Slot.unset).toArray = ls at hl ⊢
  have hl : lv_has ls 2 [(0, .ref aY)] := hl
  refine lv_aload_n hx hb d_BS_exchange_0 rfl (lv_at hl 0 rfl) ?_
  refine va_get (D := D) (ci := 3) (v := .ref aF) (C := R_BS) (T := T_BS) (N := 5) hx hb hT u_BS hown hK hP 0 rfl rfl 2 (by decide) (hT _ k_112) (fun _ h9 => h9) rfl d_BS_exchange_1 ?_
  refine lv_astore_n (lv' := [(1, .ref aF), (0, .ref aY)]) hx hb d_BS_exchange_4 rfl hl (by decide) rfl (fun ls hl => ?_)
  refine lv_aload_n hx hb d_BS_exchange_5 rfl (lv_at hl 1 rfl) ?_
  refine lv_aload_n hx hb d_BS_exchange_6 rfl (lv_at hl 1 rfl) ?_
  refine va_get (D := D) (ci := 3) (v := .ref aK) (C := R_BS) (T := T_BS) (N := 5) hx hb hT u_BS hown hK hP 0 rfl rfl 3 (by decide) (hT _ k_118) (fun _ h9 => h9) rfl d_BS_exchange_7 ?_
  refine va_put (D := D) (ci := 3) (v := .ref aK) (ty := .object "PipelineBelt$Belt") (C := R_BS) (T := T_BS) (N := 5) hx hb hT u_BS ty_BS tyok_BS nm_BS hown hK hP hD hS 0 rfl rfl 2 (by decide) (hT _ k_112) (fun _ h9 => h9) rfl (by decide +kernel) (rfl) (rfl) (Nat.le_of_ble_eq_true rfl) d_BS_exchange_10 (fun H locs hP hD hS => ?_)
  have hP : va_P D vwCl [(aY, .inr (3, [.ref aS, .ref aW, .ref aK, .ref aK, .ref aN]))] H := hP
  have hD : va_D A [(aY, .inr (3, [.ref aS, .ref aW, .ref aK, .ref aK, .ref aN]))] := hD
  refine lv_aload_n hx hb d_BS_exchange_13 rfl (lv_at hl 1 rfl) ?_
  refine lv_aload_n hx hb d_BS_exchange_14 rfl (lv_at hl 0 rfl) ?_
  refine va_put (D := D) (ci := 3) (v := .ref aF) (ty := .object "PipelineBelt$Belt") (C := R_BS) (T := T_BS) (N := 5) hx hb hT u_BS ty_BS tyok_BS nm_BS hown hK hP hD hS 0 rfl rfl 3 (by decide) (hT _ k_118) (fun _ h9 => h9) rfl (by decide +kernel) (rfl) (rfl) (Nat.le_of_ble_eq_true rfl) d_BS_exchange_15 (fun H locs hP hD hS => ?_)
  have hP : va_P D vwCl [(aY, .inr (3, [.ref aS, .ref aW, .ref aK, .ref aF, .ref aN]))] H := hP
  have hD : va_D A [(aY, .inr (3, [.ref aS, .ref aW, .ref aK, .ref aF, .ref aN]))] := hD
  exact W.vret hx hb hr (fun t ht hW => ⟨⟨(), rfl, (by rw [tw_BS_exchange]; first | done | rfl), by rw [ht]; exact hP, hD⟩, hS.F ht⟩) hS.2.2 d_BS_exchange_18
abbrev wd_BS_takeNew (aY aS aW aF aK aN : Nat) (cB cI : ClassId)  : va_W := [(aY, .inr (3, [.ref aS, .ref aW, .ref aF, .ref aK, .ref aN]))]
set_option maxHeartbeats 4000000 in
set_option maxRecDepth 100000 in
theorem c_BS_takeNew (l : Launch) (D : va_G) (cB cI : ClassId) (aY aS aW aF aK aN : Nat) (sz : Nat)  : Met l y_BS_takeNew mw_BS_takeNew { frames := 0, cells := 0, slots := 0, locals := 0 } (va_Pc [.ref aY] (mt_P D cB cI (wd_BS_takeNew aY aS aW aF aK aN cB cI ) sz)) (va_Qv (fun (u : Unit) => u = tw_BS_takeNew) (mt_B D (va_A (wd_BS_takeNew aY aS aW aF aK aN cB cI ) sz) (fun (_ : Unit) => [(aY, .inr (3, [.ref aS, .ref aW, .ref aN, .ref aK, .ref aF]))])) (va_A (wd_BS_takeNew aY aS aW aF aK aN cB cI ) sz)) 0 0 (va_A (wd_BS_takeNew aY aS aW aF aK aN cB cI ) sz) := by
  refine Met.ofW (cc := b_BS_takeNew) (maxL := 2) (ret := none) (by decide) rfl ?_
  intro p e s m args below meth c s₁ B0 hml hv
  obtain ⟨rfl, hsz, hP, hk, hD0⟩ := hv
  have hK := hk.1
  have hN := hk.2.1
  have hx := B0.exec
  have hb := B0.bytes
  have hr := B0.returns
  have hT : ∀ w ∈ lw_g, w.before _ s = true := fun w h => atoms_spec (ws := mw_BS_takeNew) B0.pre w (List.mem_cons_of_mem _ h)
  have hown : s.vm.findClass R_BS = some m.cls := findClass_of_methodNamed B0.named
  have hlocks := B0.notSynchronized
  subst hsz
  have hD := hD0.self (sz := s.heap.size)
  generalize hAe : va_A [(aY, .inr (3, [.ref aS, .ref aW, .ref aF, .ref aK, .ref aN]))] s.heap.size = A at hD ⊢
  have hA : ∀ q : Nat, s.heap.size ≤ q → A q := fun q h => by rw [← hAe]; exact Or.inr h
  have hS : va_S A s.heap s.heap [] := va_S.rf
  have hl := lv_entry ([.ref aY]) (n := 2) (Nat.le_of_ble_eq_true rfl)
  rw [lg_entry_eq]
  generalize (lg_sl ([.ref aY]) ++ List.replicate (2 - (lg_sl ([.ref aY])).length) Slot.unset).toArray = ls at hl ⊢
  have hl : lv_has ls 2 [(0, .ref aY)] := hl
  refine lv_aload_n hx hb d_BS_takeNew_0 rfl (lv_at hl 0 rfl) ?_
  refine va_get (D := D) (ci := 3) (v := .ref aF) (C := R_BS) (T := T_BS) (N := 5) hx hb hT u_BS hown hK hP 0 rfl rfl 2 (by decide) (hT _ k_112) (fun _ h9 => h9) rfl d_BS_takeNew_1 ?_
  refine lv_astore_n (lv' := [(1, .ref aF), (0, .ref aY)]) hx hb d_BS_takeNew_4 rfl hl (by decide) rfl (fun ls hl => ?_)
  refine lv_aload_n hx hb d_BS_takeNew_5 rfl (lv_at hl 1 rfl) ?_
  refine lv_aload_n hx hb d_BS_takeNew_6 rfl (lv_at hl 1 rfl) ?_
  refine va_get (D := D) (ci := 3) (v := .ref aN) (C := R_BS) (T := T_BS) (N := 5) hx hb hT u_BS hown hK hP 0 rfl rfl 4 (by decide) (hT _ k_120) (fun _ h9 => h9) rfl d_BS_takeNew_7 ?_
  refine va_put (D := D) (ci := 3) (v := .ref aN) (ty := .object "PipelineBelt$Belt") (C := R_BS) (T := T_BS) (N := 5) hx hb hT u_BS ty_BS tyok_BS nm_BS hown hK hP hD hS 0 rfl rfl 2 (by decide) (hT _ k_112) (fun _ h9 => h9) rfl (by decide +kernel) (rfl) (rfl) (Nat.le_of_ble_eq_true rfl) d_BS_takeNew_10 (fun H locs hP hD hS => ?_)
  have hP : va_P D vwCl [(aY, .inr (3, [.ref aS, .ref aW, .ref aN, .ref aK, .ref aN]))] H := hP
  have hD : va_D A [(aY, .inr (3, [.ref aS, .ref aW, .ref aN, .ref aK, .ref aN]))] := hD
  refine lv_aload_n hx hb d_BS_takeNew_13 rfl (lv_at hl 1 rfl) ?_
  refine lv_aload_n hx hb d_BS_takeNew_14 rfl (lv_at hl 0 rfl) ?_
  refine va_put (D := D) (ci := 3) (v := .ref aF) (ty := .object "PipelineBelt$Belt") (C := R_BS) (T := T_BS) (N := 5) hx hb hT u_BS ty_BS tyok_BS nm_BS hown hK hP hD hS 0 rfl rfl 4 (by decide) (hT _ k_120) (fun _ h9 => h9) rfl (by decide +kernel) (rfl) (rfl) (Nat.le_of_ble_eq_true rfl) d_BS_takeNew_15 (fun H locs hP hD hS => ?_)
  have hP : va_P D vwCl [(aY, .inr (3, [.ref aS, .ref aW, .ref aN, .ref aK, .ref aF]))] H := hP
  have hD : va_D A [(aY, .inr (3, [.ref aS, .ref aW, .ref aN, .ref aK, .ref aF]))] := hD
  exact W.vret hx hb hr (fun t ht hW => ⟨⟨(), rfl, (by rw [tw_BS_takeNew]; first | done | rfl), by rw [ht]; exact hP, hD⟩, hS.F ht⟩) hS.2.2 d_BS_takeNew_18
abbrev wd_BS_beginAnew (aY aS aW aF aK aN aNs : Nat) (cB cI : ClassId) (nbase : Int32) (ncnt : Int32) : va_W := [(aY, .inr (3, [.ref aS, .ref aW, .ref aF, .ref aK, .ref aN])), (aN, .inr (2, [.int nbase, .ref aNs, .int ncnt]))]
set_option maxHeartbeats 4000000 in
set_option maxRecDepth 100000 in
theorem c_BS_beginAnew (l : Launch) (D : va_G) (cB cI : ClassId) (aY aS aW aF aK aN aNs : Nat) (nbase : Int32) (sz : Nat) (ncnt : Int32) : Met l y_BS_beginAnew mw_BS_beginAnew { frames := 0, cells := 0, slots := 0, locals := 0 } (va_Pc [.ref aY] (mt_P D cB cI (wd_BS_beginAnew aY aS aW aF aK aN aNs cB cI nbase ncnt) sz)) (va_Qv (fun (u : Int32) => u = tw_BS_beginAnew nbase ncnt) (mt_B D (va_A (wd_BS_beginAnew aY aS aW aF aK aN aNs cB cI nbase ncnt) sz) (fun u => wd_BS_beginAnew aY aS aW aF aK aN aNs cB cI nbase u)) (va_A (wd_BS_beginAnew aY aS aW aF aK aN aNs cB cI nbase ncnt) sz)) 0 0 (va_A (wd_BS_beginAnew aY aS aW aF aK aN aNs cB cI nbase ncnt) sz) := by
  refine Met.ofW (cc := b_BS_beginAnew) (maxL := 1) (ret := none) (by decide) rfl ?_
  intro p e s m args below meth c s₁ B0 hml hv
  obtain ⟨rfl, hsz, hP, hk, hD0⟩ := hv
  have hK := hk.1
  have hN := hk.2.1
  have hx := B0.exec
  have hb := B0.bytes
  have hr := B0.returns
  have hT : ∀ w ∈ lw_g, w.before _ s = true := fun w h => atoms_spec (ws := mw_BS_beginAnew) B0.pre w (List.mem_cons_of_mem _ h)
  have hown : s.vm.findClass R_BS = some m.cls := findClass_of_methodNamed B0.named
  have hlocks := B0.notSynchronized
  subst hsz
  have hD := hD0.self (sz := s.heap.size)
  generalize hAe : va_A [(aY, .inr (3, [.ref aS, .ref aW, .ref aF, .ref aK, .ref aN])), (aN, .inr (2, [.int nbase, .ref aNs, .int ncnt]))] s.heap.size = A at hD ⊢
  have hA : ∀ q : Nat, s.heap.size ≤ q → A q := fun q h => by rw [← hAe]; exact Or.inr h
  have hS : va_S A s.heap s.heap [] := va_S.rf
  have hl := lv_entry ([.ref aY]) (n := 1) (Nat.le_of_ble_eq_true rfl)
  rw [lg_entry_eq]
  generalize (lg_sl ([.ref aY]) ++ List.replicate (1 - (lg_sl ([.ref aY])).length) Slot.unset).toArray = ls at hl ⊢
  have hl : lv_has ls 1 [(0, .ref aY)] := hl
  refine lv_aload_n hx hb d_BS_beginAnew_0 rfl (lv_at hl 0 rfl) ?_
  refine va_get (D := D) (ci := 3) (v := .ref aN) (C := R_BS) (T := T_BS) (N := 5) hx hb hT u_BS hown hK hP 0 rfl rfl 4 (by decide) (hT _ k_120) (fun _ h9 => h9) rfl d_BS_beginAnew_1 ?_
  refine lv_iconst (v := 0) hx hb d_BS_beginAnew_4 (by decide) ?_
  refine va_putN (D := D) (ci := 2) (v := .int 0) (ty := .int) (C := R_BE) (T := T_BE) (N := 3) hx hb hT u_BE ty_BE tyok_BE nm_BE hown hK hP hD hS 1 rfl rfl 2 (by decide) (va_Nw.use rfl (hN ("PipelineBelt$Belts", 41, "PipelineBelt$Belt", "count", "I", "PipelineBelt") (by decide))) (fun _ h9 => h9) rfl (by decide +kernel) (rfl) (rfl) (Nat.le_of_ble_eq_true rfl) d_BS_beginAnew_5 (fun H locs hP hD hS => ?_)
  have hP : va_P D vwCl [(aY, .inr (3, [.ref aS, .ref aW, .ref aF, .ref aK, .ref aN])), (aN, .inr (2, [.int nbase, .ref aNs, .int 0]))] H := hP
  have hD : va_D A [(aY, .inr (3, [.ref aS, .ref aW, .ref aF, .ref aK, .ref aN])), (aN, .inr (2, [.int nbase, .ref aNs, .int 0]))] := hD
  exact W.vret hx hb hr (fun t ht hW => ⟨⟨0, rfl, (by rw [tw_BS_beginAnew]; first | done | rfl), by rw [ht]; exact hP, hD⟩, hS.F ht⟩) hS.2.2 d_BS_beginAnew_8
set_option maxHeartbeats 4000000 in
set_option maxRecDepth 100000 in
theorem c_BS_document (l : Launch) (D : va_G) (cB cI : ClassId) (aY aS aW aF aK aN aFs : Nat) (fbase : Int32) (fcnt : Int32) (fsts : Nat → Int32) (p0 : Int32) : Met l y_BS_document mw_BS_document { frames := 1, cells := 0, slots := 0, locals := 21 } (va_Pc [.ref aY, .int p0] (fun U => va_P D vwCl [(aY, .inr (3, [.ref aS, .ref aW, .ref aF, .ref aK, .ref aN])), (aF, .inr (2, [.int fbase, .ref aFs, .int fcnt])), (aFs, .inl (cI, 201, .inl fsts))] U.heap ∧ hk_ D cB cI U)) (vp_Si (fun r => r = tw_BS_document fbase fcnt fsts p0)) 0 0 (fun _ => False) := by
  refine Met.ofW (cc := b_BS_document) (maxL := 2) (ret := (some .int)) (by decide) rfl ?_
  intro p e s m args below meth c s₁ B0 hml hv
  obtain ⟨rfl, hP, hk⟩ := hv
  have hK := hk.1
  have hN := hk.2.1
  have hx := B0.exec
  have hb := B0.bytes
  have hr := B0.returns
  have hT : ∀ w ∈ lw_g, w.before _ s = true := fun w h => atoms_spec (ws := mw_BS_document) B0.pre w (List.mem_cons_of_mem _ h)
  have hown : s.vm.findClass R_BS = some m.cls := findClass_of_methodNamed B0.named
  have hlocks := B0.notSynchronized
  have hl := lv_entry ([.ref aY, .int p0]) (n := 2) (Nat.le_of_ble_eq_true rfl)
  rw [lg_entry_eq]
  generalize (lg_sl ([.ref aY, .int p0]) ++ List.replicate (2 - (lg_sl ([.ref aY, .int p0])).length) Slot.unset).toArray = ls at hl ⊢
  have hl : lv_has ls 2 [(0, .ref aY), (1, .int p0)] := hl
  refine lv_iconst (v := 3) hx hb d_BS_document_0 (by decide) ?_
  refine lv_aload_n hx hb d_BS_document_1 rfl (lv_at hl 0 rfl) ?_
  refine va_get (D := D) (ci := 3) (v := .ref aF) (C := R_BS) (T := T_BS) (N := 5) hx hb hT u_BS hown hK hP 0 rfl rfl 2 (by decide) (hT _ k_112) (fun _ h9 => h9) rfl d_BS_document_2 ?_
  refine lv_iload_n hx hb d_BS_document_5 rfl (lv_at hl 1 rfl) ?_
  refine rd_V (val := tw_BE_start fbase fcnt fsts p0) (As := [.int p0]) (rest := [.int 3]) ⟨hx, hb, hml, hown, hT⟩ (c_BE_start l D cB cI aF aFs fbase fcnt fsts p0) (cwV 1 hT (gV_of k_586 k_440 k_441 k_6 kc_BE_start) rfl rfl rfl hd_BE_start ⟨Nat.le_of_ble_eq_true rfl, Nat.le_of_ble_eq_true rfl⟩) hk (hP.sub (ws' := [(aF, .inr (2, [.int fbase, .ref aFs, .int fcnt])), (aFs, .inl (cI, 201, .inl fsts))]) [1, 2] rfl) (q0 := 0) rfl rfl rfl rfl hl.1 rfl (Nat.le_of_ble_eq_true rfl) d_BS_document_6 ⟨Nat.zero_le _, Nat.zero_le _⟩ ?_
  refine rd_S (val := tw_ST_ref 3 (tw_BE_start fbase fcnt fsts p0)) (As := [.int 3, .int (tw_BE_start fbase fcnt fsts p0)]) (rest := []) ⟨hx, hb, hml, hown, hT⟩ (c_ST_ref l D cB cI 3 (tw_BE_start fbase fcnt fsts p0)) (va_cwS 2 hT (gS_of k_587 k_477 k_2 kc_ST_ref) rfl rfl rfl hd_ST_ref ⟨Nat.le_of_ble_eq_true rfl, Nat.le_of_ble_eq_true rfl⟩) hk (va_P_nil) rfl hl.1 rfl (Nat.le_of_ble_eq_true rfl) d_BS_document_9 ⟨Nat.zero_le _, Nat.zero_le _⟩ ?_
  exact W.iret (v := tw_ST_ref 3 (tw_BE_start fbase fcnt fsts p0)) hx hb hr (fun t ht hW => ⟨tw_ST_ref 3 (tw_BE_start fbase fcnt fsts p0), rfl, (by rw [tw_BS_document]; first | done | rfl), ht⟩) (fun _ h => by cases h) d_BS_document_12
abbrev wd_BS_append (aY aS aW aF aK aN aB aE aEs : Nat) (cB cI : ClassId) (ebase : Int32) (place : Int32) (limit : Int32) (full : Bool) (b : Nat → UInt8) (ecnt : Int32) (ests : Nat → Int32) : va_W := [(aY, .inr (3, [.ref aS, .ref aW, .ref aF, .ref aK, .ref aN])), (aW, .inr (1, [.ref aS, .int place, .int limit, .int (b2i full)])), (aS, .inr (0, [.ref aB])), (aB, .inl (cB, 202000, .inl (by_ b))), (aE, .inr (2, [.int ebase, .ref aEs, .int ecnt])), (aEs, .inl (cI, 201, .inl ests))]
set_option maxHeartbeats 4000000 in
set_option maxRecDepth 100000 in
theorem c_BS_append (l : Launch) (D : va_G) (cB cI : ClassId) (aY aS aW aF aK aN aB aE aEs : Nat) (ebase : Int32) (sz : Nat) (place : Int32) (limit : Int32) (full : Bool) (b : Nat → UInt8) (ecnt : Int32) (ests : Nat → Int32) (p1 : Int32) (p2 : Int32) (hc : p1.toInt ≤ 1073741824 ∨ -1 ≤ (p1 + p2).toInt) (hi : be_ok ebase ecnt ests) : Met l y_BS_append mw_BS_append { frames := 3, cells := 0, slots := 0, locals := 83 } (va_Pc [.ref aY, .ref aE, .int p1, .int p2] (mt_P D cB cI (wd_BS_append aY aS aW aF aK aN aB aE aEs cB cI ebase place limit full b ecnt ests) sz)) (va_Qi (fun (r : Int32) (u : Int32 × Int32 × Bool × (Nat → UInt8) × Int32 × (Nat → Int32)) => ∃ z9 : Bool, r = b2i z9 ∧ (z9, u) = tw_BS_append ebase place limit full b ecnt ests p1 p2 ∧ be_ok ebase u.2.2.2.2.1 u.2.2.2.2.2) (mt_B D (va_A (wd_BS_append aY aS aW aF aK aN aB aE aEs cB cI ebase place limit full b ecnt ests) sz) (fun u => wd_BS_append aY aS aW aF aK aN aB aE aEs cB cI ebase u.1 u.2.1 u.2.2.1 u.2.2.2.1 u.2.2.2.2.1 u.2.2.2.2.2)) (va_A (wd_BS_append aY aS aW aF aK aN aB aE aEs cB cI ebase place limit full b ecnt ests) sz)) 0 0 (va_A (wd_BS_append aY aS aW aF aK aN aB aE aEs cB cI ebase place limit full b ecnt ests) sz) := by
  refine Met.ofW (cc := b_BS_append) (maxL := 4) (ret := (some .boolean)) (by decide) rfl ?_
  intro p e s m args below meth c s₁ B0 hml hv
  obtain ⟨rfl, hsz, hP, hk, hD0⟩ := hv
  have hK := hk.1
  have hN := hk.2.1
  have hx := B0.exec
  have hb := B0.bytes
  have hr := B0.returns
  have hT : ∀ w ∈ lw_g, w.before _ s = true := fun w h => atoms_spec (ws := mw_BS_append) B0.pre w (List.mem_cons_of_mem _ h)
  have hown : s.vm.findClass R_BS = some m.cls := findClass_of_methodNamed B0.named
  have hlocks := B0.notSynchronized
  subst hsz
  have hD := hD0.self (sz := s.heap.size)
  generalize hAe : va_A [(aY, .inr (3, [.ref aS, .ref aW, .ref aF, .ref aK, .ref aN])), (aW, .inr (1, [.ref aS, .int place, .int limit, .int (b2i full)])), (aS, .inr (0, [.ref aB])), (aB, .inl (cB, 202000, .inl (by_ b))), (aE, .inr (2, [.int ebase, .ref aEs, .int ecnt])), (aEs, .inl (cI, 201, .inl ests))] s.heap.size = A at hD ⊢
  have hA : ∀ q : Nat, s.heap.size ≤ q → A q := fun q h => by rw [← hAe]; exact Or.inr h
  have hS : va_S A s.heap s.heap [] := va_S.rf
  have hl := lv_entry ([.ref aY, .ref aE, .int p1, .int p2]) (n := 4) (Nat.le_of_ble_eq_true rfl)
  rw [lg_entry_eq]
  generalize (lg_sl ([.ref aY, .ref aE, .int p1, .int p2]) ++ List.replicate (4 - (lg_sl ([.ref aY, .ref aE, .int p1, .int p2])).length) Slot.unset).toArray = ls at hl ⊢
  have hl : lv_has ls 4 [(0, .ref aY), (1, .ref aE), (2, .int p1), (3, .int p2)] := hl
  refine lv_aload_n hx hb d_BS_append_0 rfl (lv_at hl 0 rfl) ?_
  refine va_get (D := D) (ci := 3) (v := .ref aW) (C := R_BS) (T := T_BS) (N := 5) hx hb hT u_BS hown hK hP 0 rfl rfl 1 (by decide) (hT _ k_111) (fun _ h9 => h9) rfl d_BS_append_1 ?_
  refine lv_aload_n hx hb d_BS_append_4 rfl (lv_at hl 1 rfl) ?_
  refine rd_V (val := tw_BE_end ebase ecnt ests) (As := []) (rest := [.ref aW]) ⟨hx, hb, hml, hown, hT⟩ (c_BE_end l D cB cI aE aEs ebase ecnt ests) (cwV 0 hT (gV_of k_435 k_436 k_437 k_6 kc_BE_end) rfl rfl rfl hd_BE_end ⟨Nat.le_of_ble_eq_true rfl, Nat.le_of_ble_eq_true rfl⟩) hk (hP.sub (ws' := [(aE, .inr (2, [.int ebase, .ref aEs, .int ecnt])), (aEs, .inl (cI, 201, .inl ests))]) [4, 5] rfl) (q0 := 0) rfl rfl rfl rfl hl.1 rfl (Nat.le_of_ble_eq_true rfl) d_BS_append_5 ⟨Nat.zero_le _, Nat.zero_le _⟩ ?_
  refine lv_aload_n hx hb d_BS_append_8 rfl (lv_at hl 1 rfl) ?_
  refine va_getN (D := D) (ci := 2) (v := .int ebase) (C := R_BE) (T := T_BE) (N := 3) hx hb hT u_BE hown hK hP 4 rfl rfl 0 (by decide) (va_Nw.use rfl (hN ("PipelineBelt$Belts", 49, "PipelineBelt$Belt", "base", "I", "PipelineBelt") (by decide))) (fun _ h9 => h9) rfl d_BS_append_9 ?_
  refine lv_ldc (v := 40000) hx hb hown (hT _ k_443) d_BS_append_12 ?_
  refine lv_iadd hx hb d_BS_append_14 ?_
  refine lv_aload_n hx hb d_BS_append_15 rfl (lv_at hl 1 rfl) ?_
  refine rd_V (val := tw_BE_end ebase ecnt ests) (As := []) (rest := [.int (ebase + 40000), .int (tw_BE_end ebase ecnt ests), .ref aW]) ⟨hx, hb, hml, hown, hT⟩ (c_BE_end l D cB cI aE aEs ebase ecnt ests) (cwV 0 hT (gV_of k_435 k_436 k_437 k_6 kc_BE_end) rfl rfl rfl hd_BE_end ⟨Nat.le_of_ble_eq_true rfl, Nat.le_of_ble_eq_true rfl⟩) hk (hP.sub (ws' := [(aE, .inr (2, [.int ebase, .ref aEs, .int ecnt])), (aEs, .inl (cI, 201, .inl ests))]) [4, 5] rfl) (q0 := 0) rfl rfl rfl rfl hl.1 rfl (Nat.le_of_ble_eq_true rfl) d_BS_append_16 ⟨Nat.zero_le _, Nat.zero_le _⟩ ?_
  refine lv_isub hx hb d_BS_append_19 ?_
  refine mt_Vv (As := [.int (tw_BE_end ebase ecnt ests), .int ((ebase + 40000) - (tw_BE_end ebase ecnt ests))]) (rest := []) (wr := [(aY, .inr (3, [.ref aS, .ref aW, .ref aF, .ref aK, .ref aN])), (aS, .inr (0, [.ref aB])), (aB, .inl (cB, 202000, .inl (by_ b))), (aE, .inr (2, [.int ebase, .ref aEs, .int ecnt])), (aEs, .inl (cI, 201, .inl ests))]) ⟨hx, hb, hml, hown, hT⟩ (c_WR_aim l D cB cI aW aS _ place limit full (tw_BE_end ebase ecnt ests) ((ebase + 40000) - (tw_BE_end ebase ecnt ests)) (ae_aim hi.1)) (cwV 2 hT (gV_of k_444 k_445 k_446 k_5 kc_WR_aim) rfl rfl rfl hd_WR_aim ⟨Nat.le_of_ble_eq_true rfl, Nat.le_of_ble_eq_true rfl⟩) hk hP hD hS hA [1] [0, 2, 3, 4, 5] rfl rfl rfl (by decide) (by decide) (by decide) (q0 := 0) rfl rfl rfl rfl hl.1 rfl (Nat.le_of_ble_eq_true rfl) d_BS_append_20 ⟨Nat.zero_le _, Nat.zero_le _⟩ (fun u_1 H locs hw_1 hP hD hS => ?_)
  obtain ⟨place_1, limit_1, full_1⟩ := u_1
  obtain ⟨hw_1, hi_1⟩ := hw_1
  have hP : va_P D vwCl [(aY, .inr (3, [.ref aS, .ref aW, .ref aF, .ref aK, .ref aN])), (aW, .inr (1, [.ref aS, .int place_1, .int limit_1, .int (b2i full_1)])), (aS, .inr (0, [.ref aB])), (aB, .inl (cB, 202000, .inl (by_ b))), (aE, .inr (2, [.int ebase, .ref aEs, .int ecnt])), (aEs, .inl (cI, 201, .inl ests))] H := hP.sub [0, 5, 1, 2, 3, 4] rfl
  have hD : va_D A [(aY, .inr (3, [.ref aS, .ref aW, .ref aF, .ref aK, .ref aN])), (aW, .inr (1, [.ref aS, .int place_1, .int limit_1, .int (b2i full_1)])), (aS, .inr (0, [.ref aB])), (aB, .inl (cB, 202000, .inl (by_ b))), (aE, .inr (2, [.int ebase, .ref aEs, .int ecnt])), (aEs, .inl (cI, 201, .inl ests))] := hD.sub [0, 5, 1, 2, 3, 4] (by decide) rfl
  refine lv_aload_n hx hb d_BS_append_23 rfl (lv_at hl 0 rfl) ?_
  refine va_get (D := D) (ci := 3) (v := .ref aW) (C := R_BS) (T := T_BS) (N := 5) hx hb hT u_BS hown hK hP 0 rfl rfl 1 (by decide) (hT _ k_111) (fun _ h9 => h9) rfl d_BS_append_24 ?_
  refine lv_iload_n hx hb d_BS_append_27 rfl (lv_at hl 2 rfl) ?_
  refine lv_iload_n hx hb d_BS_append_28 rfl (lv_at hl 2 rfl) ?_
  refine lv_iload_n hx hb d_BS_append_29 rfl (lv_at hl 3 rfl) ?_
  refine lv_iadd hx hb d_BS_append_30 ?_
  refine mt_Vv (As := [.int p1, .int (p1 + p2)]) (rest := []) (wr := [(aY, .inr (3, [.ref aS, .ref aW, .ref aF, .ref aK, .ref aN])), (aE, .inr (2, [.int ebase, .ref aEs, .int ecnt])), (aEs, .inl (cI, 201, .inl ests))]) ⟨hx, hb, hml, hown, hT⟩ (c_WR_copy l D cB cI aW aS aB limit_1 full_1 place_1 _ place_1 limit_1 full_1 b p1 (p1 + p2) (hc) (w_r hi_1)) (cwV 2 hT (gV_of k_450 k_451 k_452 k_5 kc_WR_copy) rfl rfl rfl hd_WR_copy ⟨Nat.le_of_ble_eq_true rfl, Nat.le_of_ble_eq_true rfl⟩) hk hP hD hS hA [1, 2, 3] [0, 4, 5] rfl rfl rfl (by decide) (by decide) (by decide) (q0 := 0) rfl rfl rfl rfl hl.1 rfl (Nat.le_of_ble_eq_true rfl) d_BS_append_31 ⟨Nat.zero_le _, Nat.zero_le _⟩ (fun u_2 H locs hw_2 hP hD hS => ?_)
  obtain ⟨place_2, limit_2, full_2, b_2⟩ := u_2
  obtain ⟨hw_2, hi_2⟩ := hw_2
  have hP : va_P D vwCl [(aY, .inr (3, [.ref aS, .ref aW, .ref aF, .ref aK, .ref aN])), (aW, .inr (1, [.ref aS, .int place_2, .int limit_2, .int (b2i full_2)])), (aS, .inr (0, [.ref aB])), (aB, .inl (cB, 202000, .inl (by_ b_2))), (aE, .inr (2, [.int ebase, .ref aEs, .int ecnt])), (aEs, .inl (cI, 201, .inl ests))] H := hP.sub [0, 3, 4, 5, 1, 2] rfl
  have hD : va_D A [(aY, .inr (3, [.ref aS, .ref aW, .ref aF, .ref aK, .ref aN])), (aW, .inr (1, [.ref aS, .int place_2, .int limit_2, .int (b2i full_2)])), (aS, .inr (0, [.ref aB])), (aB, .inl (cB, 202000, .inl (by_ b_2))), (aE, .inr (2, [.int ebase, .ref aEs, .int ecnt])), (aEs, .inl (cI, 201, .inl ests))] := hD.sub [0, 3, 4, 5, 1, 2] (by decide) rfl
  refine lv_aload_n hx hb d_BS_append_34 rfl (lv_at hl 0 rfl) ?_
  refine va_get (D := D) (ci := 3) (v := .ref aW) (C := R_BS) (T := T_BS) (N := 5) hx hb hT u_BS hown hK hP 0 rfl rfl 1 (by decide) (hT _ k_111) (fun _ h9 => h9) rfl d_BS_append_35 ?_
  refine va_getN (D := D) (ci := 1) (v := .int (b2i full_2)) (C := R_WR) (T := T_WR) (N := 4) hx hb hT u_WR hown hK hP 1 rfl rfl 3 (by decide) (va_Nw.use rfl (hN ("PipelineBelt$Belts", 60, "PipelineBelt$Writer", "full", "Z", "PipelineBelt") (by decide))) (fun _ h9 => h9) rfl d_BS_append_38 ?_
  refine lv_if_ne (tgt := 56) hx hb d_BS_append_41 (by decide) (fun c_3 => ?_) (fun c_3 => ?_)
  · refine lv_iconst (v := 0) hx hb d_BS_append_56 (by decide) ?_
    exact W.zret (v := 0) (ty := .boolean) hx hb hr (rfl) (fun t ht hW => ⟨⟨0, (place_2, limit_2, full_2, b_2, ecnt, ests), rfl, ⟨false, rfl, (by rw [tw_BS_append, ← hw_1, tp3_mk, ← hw_2, tp4_mk, if_neg c_3]; first | done | rfl), hi⟩, by rw [ht]; exact hP, hD⟩, hS.F ht⟩) hS.2.2 d_BS_append_57
  · refine lv_aload_n hx hb d_BS_append_44 rfl (lv_at hl 1 rfl) ?_
    refine lv_iload_n hx hb d_BS_append_45 rfl (lv_at hl 3 rfl) ?_
    refine mt_Vi (As := [.int p2]) (rest := []) (wr := [(aY, .inr (3, [.ref aS, .ref aW, .ref aF, .ref aK, .ref aN])), (aW, .inr (1, [.ref aS, .int place_2, .int limit_2, .int (b2i full_2)])), (aS, .inr (0, [.ref aB])), (aB, .inl (cB, 202000, .inl (by_ b_2)))]) ⟨hx, hb, hml, hown, hT⟩ (c_BE_add l D cB cI aE aEs ebase _ ecnt ests p2 (ap_len hi_1 hw_2 c_3) hi) (cwV 1 hT (gV_of k_457 k_458 k_459 k_6 kc_BE_add) rfl rfl rfl hd_BE_add ⟨Nat.le_of_ble_eq_true rfl, Nat.le_of_ble_eq_true rfl⟩) hk hP hD hS hA [4, 5] [0, 1, 2, 3] rfl rfl rfl (by decide) (by decide) (by decide) (q0 := 0) rfl rfl rfl rfl hl.1 rfl (Nat.le_of_ble_eq_true rfl) d_BS_append_46 ⟨Nat.zero_le _, Nat.zero_le _⟩ (fun r_4 u_4 H locs hw_4 hP hD hS => ?_)
    obtain ⟨ecnt_4, ests_4⟩ := u_4
    obtain ⟨r_4, rfl, hw_4⟩ := hw_4
    obtain ⟨hw_4, hi_4⟩ := hw_4
    have hP : va_P D vwCl [(aY, .inr (3, [.ref aS, .ref aW, .ref aF, .ref aK, .ref aN])), (aW, .inr (1, [.ref aS, .int place_2, .int limit_2, .int (b2i full_2)])), (aS, .inr (0, [.ref aB])), (aB, .inl (cB, 202000, .inl (by_ b_2))), (aE, .inr (2, [.int ebase, .ref aEs, .int ecnt_4])), (aEs, .inl (cI, 201, .inl ests_4))] H := hP.sub [0, 1, 2, 3, 4, 5] rfl
    have hD : va_D A [(aY, .inr (3, [.ref aS, .ref aW, .ref aF, .ref aK, .ref aN])), (aW, .inr (1, [.ref aS, .int place_2, .int limit_2, .int (b2i full_2)])), (aS, .inr (0, [.ref aB])), (aB, .inl (cB, 202000, .inl (by_ b_2))), (aE, .inr (2, [.int ebase, .ref aEs, .int ecnt_4])), (aEs, .inl (cI, 201, .inl ests_4))] := hD.sub [0, 1, 2, 3, 4, 5] (by decide) rfl
    refine lv_if_eq (tgt := 56) hx hb d_BS_append_49 (by decide) (fun c_5 => ?_) (fun c_5 => ?_)
    · refine lv_iconst (v := 0) hx hb d_BS_append_56 (by decide) ?_
      exact W.zret (v := 0) (ty := .boolean) hx hb hr (rfl) (fun t ht hW => ⟨⟨0, (place_2, limit_2, full_2, b_2, ecnt_4, ests_4), rfl, ⟨false, rfl, (by rw [tw_BS_append, ← hw_1, tp3_mk, ← hw_2, tp4_mk, if_pos c_3, ← hw_4, tp3_mk, if_pos c_5]; first | done | rfl), hi_4⟩, by rw [ht]; exact hP, hD⟩, hS.F ht⟩) hS.2.2 d_BS_append_57
    · refine lv_iconst (v := 1) hx hb d_BS_append_52 (by decide) ?_
      refine lv_goto (tgt := 57) hx hb d_BS_append_53 (by decide) ?_
      exact W.zret (v := 1) (ty := .boolean) hx hb hr (rfl) (fun t ht hW => ⟨⟨1, (place_2, limit_2, full_2, b_2, ecnt_4, ests_4), rfl, ⟨true, rfl, (by rw [tw_BS_append, ← hw_1, tp3_mk, ← hw_2, tp4_mk, if_pos c_3, ← hw_4, tp3_mk, if_neg c_5]; first | done | rfl), hi_4⟩, by rw [ht]; exact hP, hD⟩, hS.F ht⟩) hS.2.2 d_BS_append_57
abbrev wd_BS_keep (aY aS aW aF aK aN aB aFs aNs : Nat) (cB cI : ClassId) (fbase : Int32) (nbase : Int32) (fcnt : Int32) (fsts : Nat → Int32) (place : Int32) (limit : Int32) (full : Bool) (b : Nat → UInt8) (ncnt : Int32) (nsts : Nat → Int32) : va_W := [(aY, .inr (3, [.ref aS, .ref aW, .ref aF, .ref aK, .ref aN])), (aW, .inr (1, [.ref aS, .int place, .int limit, .int (b2i full)])), (aS, .inr (0, [.ref aB])), (aB, .inl (cB, 202000, .inl (by_ b))), (aF, .inr (2, [.int fbase, .ref aFs, .int fcnt])), (aFs, .inl (cI, 201, .inl fsts)), (aN, .inr (2, [.int nbase, .ref aNs, .int ncnt])), (aNs, .inl (cI, 201, .inl nsts))]
set_option maxHeartbeats 4000000 in
set_option maxRecDepth 100000 in
theorem c_BS_keep (l : Launch) (D : va_G) (cB cI : ClassId) (aY aS aW aF aK aN aB aFs aNs : Nat) (fbase : Int32) (nbase : Int32) (fcnt : Int32) (fsts : Nat → Int32) (sz : Nat) (place : Int32) (limit : Int32) (full : Bool) (b : Nat → UInt8) (ncnt : Int32) (nsts : Nat → Int32) (p0 : Int32) (hc : (tw_BE_start fbase fcnt fsts p0).toInt ≤ 1073741824) (hi : be_ok nbase ncnt nsts) : Met l y_BS_keep mw_BS_keep { frames := 4, cells := 0, slots := 0, locals := 106 } (va_Pc [.ref aY, .int p0] (mt_P D cB cI (wd_BS_keep aY aS aW aF aK aN aB aFs aNs cB cI fbase nbase fcnt fsts place limit full b ncnt nsts) sz)) (va_Qi (fun (r : Int32) (u : Int32 × Int32 × Bool × (Nat → UInt8) × Int32 × (Nat → Int32)) => ∃ z9 : Bool, r = b2i z9 ∧ (z9, u) = tw_BS_keep fbase nbase fcnt fsts place limit full b ncnt nsts p0 ∧ be_ok nbase u.2.2.2.2.1 u.2.2.2.2.2) (mt_B D (va_A (wd_BS_keep aY aS aW aF aK aN aB aFs aNs cB cI fbase nbase fcnt fsts place limit full b ncnt nsts) sz) (fun u => wd_BS_keep aY aS aW aF aK aN aB aFs aNs cB cI fbase nbase fcnt fsts u.1 u.2.1 u.2.2.1 u.2.2.2.1 u.2.2.2.2.1 u.2.2.2.2.2)) (va_A (wd_BS_keep aY aS aW aF aK aN aB aFs aNs cB cI fbase nbase fcnt fsts place limit full b ncnt nsts) sz)) 0 0 (va_A (wd_BS_keep aY aS aW aF aK aN aB aFs aNs cB cI fbase nbase fcnt fsts place limit full b ncnt nsts) sz) := by
  refine Met.ofW (cc := b_BS_keep) (maxL := 2) (ret := (some .boolean)) (by decide) rfl ?_
  intro p e s m args below meth c s₁ B0 hml hv
  obtain ⟨rfl, hsz, hP, hk, hD0⟩ := hv
  have hK := hk.1
  have hN := hk.2.1
  have hx := B0.exec
  have hb := B0.bytes
  have hr := B0.returns
  have hT : ∀ w ∈ lw_g, w.before _ s = true := fun w h => atoms_spec (ws := mw_BS_keep) B0.pre w (List.mem_cons_of_mem _ h)
  have hown : s.vm.findClass R_BS = some m.cls := findClass_of_methodNamed B0.named
  have hlocks := B0.notSynchronized
  subst hsz
  have hD := hD0.self (sz := s.heap.size)
  generalize hAe : va_A [(aY, .inr (3, [.ref aS, .ref aW, .ref aF, .ref aK, .ref aN])), (aW, .inr (1, [.ref aS, .int place, .int limit, .int (b2i full)])), (aS, .inr (0, [.ref aB])), (aB, .inl (cB, 202000, .inl (by_ b))), (aF, .inr (2, [.int fbase, .ref aFs, .int fcnt])), (aFs, .inl (cI, 201, .inl fsts)), (aN, .inr (2, [.int nbase, .ref aNs, .int ncnt])), (aNs, .inl (cI, 201, .inl nsts))] s.heap.size = A at hD ⊢
  have hA : ∀ q : Nat, s.heap.size ≤ q → A q := fun q h => by rw [← hAe]; exact Or.inr h
  have hS : va_S A s.heap s.heap [] := va_S.rf
  have hl := lv_entry ([.ref aY, .int p0]) (n := 2) (Nat.le_of_ble_eq_true rfl)
  rw [lg_entry_eq]
  generalize (lg_sl ([.ref aY, .int p0]) ++ List.replicate (2 - (lg_sl ([.ref aY, .int p0])).length) Slot.unset).toArray = ls at hl ⊢
  have hl : lv_has ls 2 [(0, .ref aY), (1, .int p0)] := hl
  refine lv_aload_n hx hb d_BS_keep_0 rfl (lv_at hl 0 rfl) ?_
  refine lv_aload_n hx hb d_BS_keep_1 rfl (lv_at hl 0 rfl) ?_
  refine va_get (D := D) (ci := 3) (v := .ref aN) (C := R_BS) (T := T_BS) (N := 5) hx hb hT u_BS hown hK hP 0 rfl rfl 4 (by decide) (hT _ k_120) (fun _ h9 => h9) rfl d_BS_keep_2 ?_
  refine lv_aload_n hx hb d_BS_keep_5 rfl (lv_at hl 0 rfl) ?_
  refine va_get (D := D) (ci := 3) (v := .ref aF) (C := R_BS) (T := T_BS) (N := 5) hx hb hT u_BS hown hK hP 0 rfl rfl 2 (by decide) (hT _ k_112) (fun _ h9 => h9) rfl d_BS_keep_6 ?_
  refine lv_iload_n hx hb d_BS_keep_9 rfl (lv_at hl 1 rfl) ?_
  refine rd_V (val := tw_BE_start fbase fcnt fsts p0) (As := [.int p0]) (rest := [.ref aN, .ref aY]) ⟨hx, hb, hml, hown, hT⟩ (c_BE_start l D cB cI aF aFs fbase fcnt fsts p0) (cwV 1 hT (gV_of k_586 k_440 k_441 k_6 kc_BE_start) rfl rfl rfl hd_BE_start ⟨Nat.le_of_ble_eq_true rfl, Nat.le_of_ble_eq_true rfl⟩) hk (hP.sub (ws' := [(aF, .inr (2, [.int fbase, .ref aFs, .int fcnt])), (aFs, .inl (cI, 201, .inl fsts))]) [4, 5] rfl) (q0 := 0) rfl rfl rfl rfl hl.1 rfl (Nat.le_of_ble_eq_true rfl) d_BS_keep_10 ⟨Nat.zero_le _, Nat.zero_le _⟩ ?_
  refine lv_aload_n hx hb d_BS_keep_13 rfl (lv_at hl 0 rfl) ?_
  refine va_get (D := D) (ci := 3) (v := .ref aF) (C := R_BS) (T := T_BS) (N := 5) hx hb hT u_BS hown hK hP 0 rfl rfl 2 (by decide) (hT _ k_112) (fun _ h9 => h9) rfl d_BS_keep_14 ?_
  refine lv_iload_n hx hb d_BS_keep_17 rfl (lv_at hl 1 rfl) ?_
  refine lv_iconst (v := 1) hx hb d_BS_keep_18 (by decide) ?_
  refine lv_iadd hx hb d_BS_keep_19 ?_
  refine rd_V (val := tw_BE_start fbase fcnt fsts (p0 + 1)) (As := [.int (p0 + 1)]) (rest := [.int (tw_BE_start fbase fcnt fsts p0), .ref aN, .ref aY]) ⟨hx, hb, hml, hown, hT⟩ (c_BE_start l D cB cI aF aFs fbase fcnt fsts (p0 + 1)) (cwV 1 hT (gV_of k_586 k_440 k_441 k_6 kc_BE_start) rfl rfl rfl hd_BE_start ⟨Nat.le_of_ble_eq_true rfl, Nat.le_of_ble_eq_true rfl⟩) hk (hP.sub (ws' := [(aF, .inr (2, [.int fbase, .ref aFs, .int fcnt])), (aFs, .inl (cI, 201, .inl fsts))]) [4, 5] rfl) (q0 := 0) rfl rfl rfl rfl hl.1 rfl (Nat.le_of_ble_eq_true rfl) d_BS_keep_20 ⟨Nat.zero_le _, Nat.zero_le _⟩ ?_
  refine lv_aload_n hx hb d_BS_keep_23 rfl (lv_at hl 0 rfl) ?_
  refine va_get (D := D) (ci := 3) (v := .ref aF) (C := R_BS) (T := T_BS) (N := 5) hx hb hT u_BS hown hK hP 0 rfl rfl 2 (by decide) (hT _ k_112) (fun _ h9 => h9) rfl d_BS_keep_24 ?_
  refine lv_iload_n hx hb d_BS_keep_27 rfl (lv_at hl 1 rfl) ?_
  refine rd_V (val := tw_BE_start fbase fcnt fsts p0) (As := [.int p0]) (rest := [.int (tw_BE_start fbase fcnt fsts (p0 + 1)), .int (tw_BE_start fbase fcnt fsts p0), .ref aN, .ref aY]) ⟨hx, hb, hml, hown, hT⟩ (c_BE_start l D cB cI aF aFs fbase fcnt fsts p0) (cwV 1 hT (gV_of k_586 k_440 k_441 k_6 kc_BE_start) rfl rfl rfl hd_BE_start ⟨Nat.le_of_ble_eq_true rfl, Nat.le_of_ble_eq_true rfl⟩) hk (hP.sub (ws' := [(aF, .inr (2, [.int fbase, .ref aFs, .int fcnt])), (aFs, .inl (cI, 201, .inl fsts))]) [4, 5] rfl) (q0 := 0) rfl rfl rfl rfl hl.1 rfl (Nat.le_of_ble_eq_true rfl) d_BS_keep_28 ⟨Nat.zero_le _, Nat.zero_le _⟩ ?_
  refine lv_isub hx hb d_BS_keep_31 ?_
  refine mt_Vi (As := [.ref aN, .int (tw_BE_start fbase fcnt fsts p0), .int ((tw_BE_start fbase fcnt fsts (p0 + 1)) - (tw_BE_start fbase fcnt fsts p0))]) (rest := []) (wr := [(aF, .inr (2, [.int fbase, .ref aFs, .int fcnt])), (aFs, .inl (cI, 201, .inl fsts))]) ⟨hx, hb, hml, hown, hT⟩ (c_BS_append l D cB cI aY aS aW aF aK aN aB aN aNs nbase _ place limit full b ncnt nsts (tw_BE_start fbase fcnt fsts p0) ((tw_BE_start fbase fcnt fsts (p0 + 1)) - (tw_BE_start fbase fcnt fsts p0)) (Or.inl hc) (hi)) (cwV 3 hT (gV_of k_702 k_432 k_433 k_4 kc_BS_append) rfl rfl rfl hd_BS_append ⟨Nat.le_of_ble_eq_true rfl, Nat.le_of_ble_eq_true rfl⟩) hk hP hD hS hA [0, 1, 2, 3, 6, 7] [4, 5] rfl rfl rfl (by decide) (by decide) (by decide) (q0 := 0) rfl rfl rfl rfl hl.1 rfl (Nat.le_of_ble_eq_true rfl) d_BS_keep_32 ⟨Nat.zero_le _, Nat.zero_le _⟩ (fun r_1 u_1 H locs hw_1 hP hD hS => ?_)
  obtain ⟨place_1, limit_1, full_1, b_1, ecnt_1, ests_1⟩ := u_1
  obtain ⟨r_1, rfl, hw_1⟩ := hw_1
  obtain ⟨hw_1, hi_1⟩ := hw_1
  have hP : va_P D vwCl [(aY, .inr (3, [.ref aS, .ref aW, .ref aF, .ref aK, .ref aN])), (aW, .inr (1, [.ref aS, .int place_1, .int limit_1, .int (b2i full_1)])), (aS, .inr (0, [.ref aB])), (aB, .inl (cB, 202000, .inl (by_ b_1))), (aF, .inr (2, [.int fbase, .ref aFs, .int fcnt])), (aFs, .inl (cI, 201, .inl fsts)), (aN, .inr (2, [.int nbase, .ref aNs, .int ecnt_1])), (aNs, .inl (cI, 201, .inl ests_1))] H := hP.sub [2, 3, 4, 5, 0, 1, 6, 7] rfl
  have hD : va_D A [(aY, .inr (3, [.ref aS, .ref aW, .ref aF, .ref aK, .ref aN])), (aW, .inr (1, [.ref aS, .int place_1, .int limit_1, .int (b2i full_1)])), (aS, .inr (0, [.ref aB])), (aB, .inl (cB, 202000, .inl (by_ b_1))), (aF, .inr (2, [.int fbase, .ref aFs, .int fcnt])), (aFs, .inl (cI, 201, .inl fsts)), (aN, .inr (2, [.int nbase, .ref aNs, .int ecnt_1])), (aNs, .inl (cI, 201, .inl ests_1))] := hD.sub [2, 3, 4, 5, 0, 1, 6, 7] (by decide) rfl
  exact W.zret (v := b2i r_1) (ty := .boolean) hx hb hr (b2i_nar _) (fun t ht hW => ⟨⟨b2i r_1, (place_1, limit_1, full_1, b_1, ecnt_1, ests_1), rfl, ⟨r_1, rfl, (by rw [tw_BS_keep, ← hw_1, tp7_mk]; first | done | rfl), hi_1⟩, by rw [ht]; exact hP, hD⟩, hS.F ht⟩) hS.2.2 d_BS_keep_35
abbrev wd_BS_next (aY aS aW aF aK aN aNs : Nat) (cB cI : ClassId) (nbase : Int32) (ncnt : Int32) (nsts : Nat → Int32) (place : Int32) (limit : Int32) (full : Bool) : va_W := [(aY, .inr (3, [.ref aS, .ref aW, .ref aF, .ref aK, .ref aN])), (aW, .inr (1, [.ref aS, .int place, .int limit, .int (b2i full)])), (aN, .inr (2, [.int nbase, .ref aNs, .int ncnt])), (aNs, .inl (cI, 201, .inl nsts))]
set_option maxHeartbeats 4000000 in
set_option maxRecDepth 100000 in
theorem c_BS_next (l : Launch) (D : va_G) (cB cI : ClassId) (aY aS aW aF aK aN aNs : Nat) (nbase : Int32) (ncnt : Int32) (nsts : Nat → Int32) (sz : Nat) (place : Int32) (limit : Int32) (full : Bool) (he : be_ok nbase ncnt nsts) : Met l y_BS_next mw_BS_next { frames := 2, cells := 0, slots := 0, locals := 41 } (va_Pc [.ref aY] (mt_P D cB cI (wd_BS_next aY aS aW aF aK aN aNs cB cI nbase ncnt nsts place limit full) sz)) (va_Qr (fun (u : Int32 × Int32 × Bool) => u = tw_BS_next nbase ncnt nsts place limit full ∧ w_nx nbase ncnt nsts u.1 u.2.1 u.2.2) (fun u a t => a = aW ∧ (mt_B D (va_A (wd_BS_next aY aS aW aF aK aN aNs cB cI nbase ncnt nsts place limit full) sz) (fun u => wd_BS_next aY aS aW aF aK aN aNs cB cI nbase ncnt nsts u.1 u.2.1 u.2.2)) u t) (va_A (wd_BS_next aY aS aW aF aK aN aNs cB cI nbase ncnt nsts place limit full) sz)) 0 0 (va_A (wd_BS_next aY aS aW aF aK aN aNs cB cI nbase ncnt nsts place limit full) sz) := by
  refine Met.ofW (cc := b_BS_next) (maxL := 2) (ret := (some (.object "PipelineBelt$Writer"))) (by decide) rfl ?_
  intro p e s m args below meth c s₁ B0 hml hv
  obtain ⟨rfl, hsz, hP, hk, hD0⟩ := hv
  have hK := hk.1
  have hN := hk.2.1
  have hx := B0.exec
  have hb := B0.bytes
  have hr := B0.returns
  have hT : ∀ w ∈ lw_g, w.before _ s = true := fun w h => atoms_spec (ws := mw_BS_next) B0.pre w (List.mem_cons_of_mem _ h)
  have hown : s.vm.findClass R_BS = some m.cls := findClass_of_methodNamed B0.named
  have hlocks := B0.notSynchronized
  subst hsz
  have hD := hD0.self (sz := s.heap.size)
  generalize hAe : va_A [(aY, .inr (3, [.ref aS, .ref aW, .ref aF, .ref aK, .ref aN])), (aW, .inr (1, [.ref aS, .int place, .int limit, .int (b2i full)])), (aN, .inr (2, [.int nbase, .ref aNs, .int ncnt])), (aNs, .inl (cI, 201, .inl nsts))] s.heap.size = A at hD ⊢
  have hA : ∀ q : Nat, s.heap.size ≤ q → A q := fun q h => by rw [← hAe]; exact Or.inr h
  have hS : va_S A s.heap s.heap [] := va_S.rf
  have hl := lv_entry ([.ref aY]) (n := 2) (Nat.le_of_ble_eq_true rfl)
  rw [lg_entry_eq]
  generalize (lg_sl ([.ref aY]) ++ List.replicate (2 - (lg_sl ([.ref aY])).length) Slot.unset).toArray = ls at hl ⊢
  have hl : lv_has ls 2 [(0, .ref aY)] := hl
  refine lv_aload_n hx hb d_BS_next_0 rfl (lv_at hl 0 rfl) ?_
  refine va_get (D := D) (ci := 3) (v := .ref aN) (C := R_BS) (T := T_BS) (N := 5) hx hb hT u_BS hown hK hP 0 rfl rfl 4 (by decide) (hT _ k_120) (fun _ h9 => h9) rfl d_BS_next_1 ?_
  refine rd_V (val := tw_BE_end nbase ncnt nsts) (As := []) (rest := []) ⟨hx, hb, hml, hown, hT⟩ (c_BE_end l D cB cI aN aNs nbase ncnt nsts) (cwV 0 hT (gV_of k_435 k_436 k_437 k_6 kc_BE_end) rfl rfl rfl hd_BE_end ⟨Nat.le_of_ble_eq_true rfl, Nat.le_of_ble_eq_true rfl⟩) hk (hP.sub (ws' := [(aN, .inr (2, [.int nbase, .ref aNs, .int ncnt])), (aNs, .inl (cI, 201, .inl nsts))]) [2, 3] rfl) (q0 := 0) rfl rfl rfl rfl hl.1 rfl (Nat.le_of_ble_eq_true rfl) d_BS_next_4 ⟨Nat.zero_le _, Nat.zero_le _⟩ ?_
  refine lv_istore_n (lv' := [(1, .int (tw_BE_end nbase ncnt nsts)), (0, .ref aY)]) hx hb d_BS_next_7 rfl hl (by decide) rfl (fun ls hl => ?_)
  refine lv_aload_n hx hb d_BS_next_8 rfl (lv_at hl 1 rfl) ?_
  refine va_get (D := D) (ci := 3) (v := .ref aW) (C := R_BS) (T := T_BS) (N := 5) hx hb hT u_BS hown hK hP 0 rfl rfl 1 (by decide) (hT _ k_111) (fun _ h9 => h9) rfl d_BS_next_9 ?_
  refine lv_iload_n hx hb d_BS_next_12 rfl (lv_at hl 0 rfl) ?_
  refine lv_sipush (v := 2000) hx hb d_BS_next_13 (by decide) ?_
  refine lv_aload_n hx hb d_BS_next_16 rfl (lv_at hl 1 rfl) ?_
  refine va_get (D := D) (ci := 3) (v := .ref aN) (C := R_BS) (T := T_BS) (N := 5) hx hb hT u_BS hown hK hP 0 rfl rfl 4 (by decide) (hT _ k_120) (fun _ h9 => h9) rfl d_BS_next_17 ?_
  refine va_getN (D := D) (ci := 2) (v := .int nbase) (C := R_BE) (T := T_BE) (N := 3) hx hb hT u_BE hown hK hP 2 rfl rfl 0 (by decide) (va_Nw.use rfl (hN ("PipelineBelt$Belts", 49, "PipelineBelt$Belt", "base", "I", "PipelineBelt") (by decide))) (fun _ h9 => h9) rfl d_BS_next_20 ?_
  refine lv_ldc (v := 40000) hx hb hown (hT _ k_443) d_BS_next_23 ?_
  refine lv_iadd hx hb d_BS_next_25 ?_
  refine lv_iload_n hx hb d_BS_next_26 rfl (lv_at hl 0 rfl) ?_
  refine lv_isub hx hb d_BS_next_27 ?_
  refine va_mmin hx hb (hml.trans hl.1.symm) hown (hT _ k_596) (hT _ k_410) (hT _ k_13) (hT _ kc_JM_min) (Nat.le_of_ble_eq_true rfl) (Nat.le_of_ble_eq_true rfl) (Nat.zero_le _) (Nat.zero_le _) d_BS_next_28 ?_
  refine mt_Vv (As := [.int (tw_BE_end nbase ncnt nsts), .int (if ((nbase + 40000) - (tw_BE_end nbase ncnt nsts)) < 2000 then ((nbase + 40000) - (tw_BE_end nbase ncnt nsts)) else 2000)]) (rest := []) (wr := [(aY, .inr (3, [.ref aS, .ref aW, .ref aF, .ref aK, .ref aN])), (aN, .inr (2, [.int nbase, .ref aNs, .int ncnt])), (aNs, .inl (cI, 201, .inl nsts))]) ⟨hx, hb, hml, hown, hT⟩ (c_WR_aim l D cB cI aW aS _ place limit full (tw_BE_end nbase ncnt nsts) (if ((nbase + 40000) - (tw_BE_end nbase ncnt nsts)) < 2000 then ((nbase + 40000) - (tw_BE_end nbase ncnt nsts)) else 2000) (ae_nx he.1)) (cwV 2 hT (gV_of k_444 k_445 k_446 k_5 kc_WR_aim) rfl rfl rfl hd_WR_aim ⟨Nat.le_of_ble_eq_true rfl, Nat.le_of_ble_eq_true rfl⟩) hk hP hD hS hA [1] [0, 2, 3] rfl rfl rfl (by decide) (by decide) (by decide) (q0 := 0) rfl rfl rfl rfl hl.1 rfl (Nat.le_of_ble_eq_true rfl) d_BS_next_31 ⟨Nat.zero_le _, Nat.zero_le _⟩ (fun u_1 H locs hw_1 hP hD hS => ?_)
  obtain ⟨place_1, limit_1, full_1⟩ := u_1
  obtain ⟨hw_1, hi_1⟩ := hw_1
  have hP : va_P D vwCl [(aY, .inr (3, [.ref aS, .ref aW, .ref aF, .ref aK, .ref aN])), (aW, .inr (1, [.ref aS, .int place_1, .int limit_1, .int (b2i full_1)])), (aN, .inr (2, [.int nbase, .ref aNs, .int ncnt])), (aNs, .inl (cI, 201, .inl nsts))] H := hP.sub [0, 3, 1, 2] rfl
  have hD : va_D A [(aY, .inr (3, [.ref aS, .ref aW, .ref aF, .ref aK, .ref aN])), (aW, .inr (1, [.ref aS, .int place_1, .int limit_1, .int (b2i full_1)])), (aN, .inr (2, [.int nbase, .ref aNs, .int ncnt])), (aNs, .inl (cI, 201, .inl nsts))] := hD.sub [0, 3, 1, 2] (by decide) rfl
  refine lv_aload_n hx hb d_BS_next_34 rfl (lv_at hl 1 rfl) ?_
  refine va_get (D := D) (ci := 3) (v := .ref aW) (C := R_BS) (T := T_BS) (N := 5) hx hb hT u_BS hown hK hP 0 rfl rfl 1 (by decide) (hT _ k_111) (fun _ h9 => h9) rfl d_BS_next_35 ?_
  exact W.aret (v := .ref aW) hx hb hr (Or.inl ⟨_, rfl⟩) (Or.inr ⟨_, rfl⟩) (fun t ht hW => ⟨⟨(place_1, limit_1, full_1), aW, rfl, ⟨(by rw [tw_BS_next, ← hw_1, tp3_mk]; first | done | rfl), ⟨hi_1, (aim_pl hw_1).symm⟩⟩, rfl, by rw [ht]; exact hP, hD⟩, hS.F ht⟩) hS.2.2 d_BS_next_38
abbrev wd_BS_accept (aY aS aW aF aK aN aB aNs : Nat) (cB cI : ClassId) (nbase : Int32) (place : Int32) (limit : Int32) (full : Bool) (b : Nat → UInt8) (ncnt : Int32) (nsts : Nat → Int32) : va_W := [(aY, .inr (3, [.ref aS, .ref aW, .ref aF, .ref aK, .ref aN])), (aW, .inr (1, [.ref aS, .int place, .int limit, .int (b2i full)])), (aS, .inr (0, [.ref aB])), (aB, .inl (cB, 202000, .inl (by_ b))), (aN, .inr (2, [.int nbase, .ref aNs, .int ncnt])), (aNs, .inl (cI, 201, .inl nsts))]
set_option maxHeartbeats 4000000 in
set_option maxRecDepth 100000 in
theorem c_BS_accept (l : Launch) (D : va_G) (cB cI : ClassId) (aY aS aW aF aK aN aB aNs : Nat) (nbase : Int32) (place : Int32) (limit : Int32) (full : Bool) (b : Nat → UInt8) (sz : Nat) (ncnt : Int32) (nsts : Nat → Int32) (hpl : full = false → (tw_BE_end nbase ncnt nsts).toInt ≤ place.toInt ∧ place.toInt ≤ 202000) (hi : be_ok nbase ncnt nsts) : Met l y_BS_accept mw_BS_accept { frames := 86, cells := 0, slots := 0, locals := 2067 } (va_Pc [.ref aY] (mt_P D cB cI (wd_BS_accept aY aS aW aF aK aN aB aNs cB cI nbase place limit full b ncnt nsts) sz)) (va_Qi (fun (r : Int32) (u : Int32 × (Nat → Int32)) => ∃ z9 : Bool, r = b2i z9 ∧ (z9, u) = tw_BS_accept nbase place limit full b ncnt nsts ∧ be_ok nbase u.1 u.2) (mt_B D (va_A (wd_BS_accept aY aS aW aF aK aN aB aNs cB cI nbase place limit full b ncnt nsts) sz) (fun u => wd_BS_accept aY aS aW aF aK aN aB aNs cB cI nbase place limit full b u.1 u.2)) (va_A (wd_BS_accept aY aS aW aF aK aN aB aNs cB cI nbase place limit full b ncnt nsts) sz)) 0 0 (va_A (wd_BS_accept aY aS aW aF aK aN aB aNs cB cI nbase place limit full b ncnt nsts) sz) := by
  refine Met.ofW (cc := b_BS_accept) (maxL := 2) (ret := (some .boolean)) (by decide) rfl ?_
  intro p e s m args below meth c s₁ B0 hml hv
  obtain ⟨rfl, hsz, hP, hk, hD0⟩ := hv
  have hK := hk.1
  have hN := hk.2.1
  have hx := B0.exec
  have hb := B0.bytes
  have hr := B0.returns
  have hT : ∀ w ∈ lw_g, w.before _ s = true := fun w h => atoms_spec (ws := mw_BS_accept) B0.pre w (List.mem_cons_of_mem _ h)
  have hown : s.vm.findClass R_BS = some m.cls := findClass_of_methodNamed B0.named
  have hlocks := B0.notSynchronized
  subst hsz
  have hD := hD0.self (sz := s.heap.size)
  generalize hAe : va_A [(aY, .inr (3, [.ref aS, .ref aW, .ref aF, .ref aK, .ref aN])), (aW, .inr (1, [.ref aS, .int place, .int limit, .int (b2i full)])), (aS, .inr (0, [.ref aB])), (aB, .inl (cB, 202000, .inl (by_ b))), (aN, .inr (2, [.int nbase, .ref aNs, .int ncnt])), (aNs, .inl (cI, 201, .inl nsts))] s.heap.size = A at hD ⊢
  have hA : ∀ q : Nat, s.heap.size ≤ q → A q := fun q h => by rw [← hAe]; exact Or.inr h
  have hS : va_S A s.heap s.heap [] := va_S.rf
  have hl := lv_entry ([.ref aY]) (n := 2) (Nat.le_of_ble_eq_true rfl)
  rw [lg_entry_eq]
  generalize (lg_sl ([.ref aY]) ++ List.replicate (2 - (lg_sl ([.ref aY])).length) Slot.unset).toArray = ls at hl ⊢
  have hl : lv_has ls 2 [(0, .ref aY)] := hl
  refine lv_aload_n hx hb d_BS_accept_0 rfl (lv_at hl 0 rfl) ?_
  refine va_get (D := D) (ci := 3) (v := .ref aN) (C := R_BS) (T := T_BS) (N := 5) hx hb hT u_BS hown hK hP 0 rfl rfl 4 (by decide) (hT _ k_120) (fun _ h9 => h9) rfl d_BS_accept_1 ?_
  refine rd_V (val := tw_BE_end nbase ncnt nsts) (As := []) (rest := []) ⟨hx, hb, hml, hown, hT⟩ (c_BE_end l D cB cI aN aNs nbase ncnt nsts) (cwV 0 hT (gV_of k_435 k_436 k_437 k_6 kc_BE_end) rfl rfl rfl hd_BE_end ⟨Nat.le_of_ble_eq_true rfl, Nat.le_of_ble_eq_true rfl⟩) hk (hP.sub (ws' := [(aN, .inr (2, [.int nbase, .ref aNs, .int ncnt])), (aNs, .inl (cI, 201, .inl nsts))]) [4, 5] rfl) (q0 := 0) rfl rfl rfl rfl hl.1 rfl (Nat.le_of_ble_eq_true rfl) d_BS_accept_4 ⟨Nat.zero_le _, Nat.zero_le _⟩ ?_
  refine lv_istore_n (lv' := [(1, .int (tw_BE_end nbase ncnt nsts)), (0, .ref aY)]) hx hb d_BS_accept_7 rfl hl (by decide) rfl (fun ls hl => ?_)
  refine lv_aload_n hx hb d_BS_accept_8 rfl (lv_at hl 1 rfl) ?_
  refine va_get (D := D) (ci := 3) (v := .ref aW) (C := R_BS) (T := T_BS) (N := 5) hx hb hT u_BS hown hK hP 0 rfl rfl 1 (by decide) (hT _ k_111) (fun _ h9 => h9) rfl d_BS_accept_9 ?_
  refine va_getN (D := D) (ci := 1) (v := .int (b2i full)) (C := R_WR) (T := T_WR) (N := 4) hx hb hT u_WR hown hK hP 1 rfl rfl 3 (by decide) (va_Nw.use rfl (hN ("PipelineBelt$Belts", 60, "PipelineBelt$Writer", "full", "Z", "PipelineBelt") (by decide))) (fun _ h9 => h9) rfl d_BS_accept_12 ?_
  refine lv_if_ne (tgt := 57) hx hb d_BS_accept_15 (by decide) (fun c_1 => ?_) (fun c_1 => ?_)
  · refine lv_iconst (v := 0) hx hb d_BS_accept_57 (by decide) ?_
    exact W.zret (v := 0) (ty := .boolean) hx hb hr (rfl) (fun t ht hW => ⟨⟨0, (ncnt, nsts), rfl, ⟨false, rfl, (by rw [tw_BS_accept, if_neg c_1]; first | done | rfl), hi⟩, by rw [ht]; exact hP, hD⟩, hS.F ht⟩) hS.2.2 d_BS_accept_58
  · refine lv_aload_n hx hb d_BS_accept_18 rfl (lv_at hl 1 rfl) ?_
    refine va_get (D := D) (ci := 3) (v := .ref aS) (C := R_BS) (T := T_BS) (N := 5) hx hb hT u_BS hown hK hP 0 rfl rfl 0 (by decide) (hT _ k_110) (fun _ h9 => h9) rfl d_BS_accept_19 ?_
    refine lv_iconst (v := 3) hx hb d_BS_accept_22 (by decide) ?_
    refine lv_iload_n hx hb d_BS_accept_23 rfl (lv_at hl 0 rfl) ?_
    refine rd_S (val := tw_ST_ref 3 (tw_BE_end nbase ncnt nsts)) (As := [.int 3, .int (tw_BE_end nbase ncnt nsts)]) (rest := [.ref aS]) ⟨hx, hb, hml, hown, hT⟩ (c_ST_ref l D cB cI 3 (tw_BE_end nbase ncnt nsts)) (va_cwS 2 hT (gS_of k_587 k_477 k_2 kc_ST_ref) rfl rfl rfl hd_ST_ref ⟨Nat.le_of_ble_eq_true rfl, Nat.le_of_ble_eq_true rfl⟩) hk (va_P_nil) rfl hl.1 rfl (Nat.le_of_ble_eq_true rfl) d_BS_accept_24 ⟨Nat.zero_le _, Nat.zero_le _⟩ ?_
    refine lv_iconst (v := 1) hx hb d_BS_accept_27 (by decide) ?_
    refine rd_V (val := b2i (tw_ST_deep1 b (tw_ST_ref 3 (tw_BE_end nbase ncnt nsts)))) (As := [.int (tw_ST_ref 3 (tw_BE_end nbase ncnt nsts)), .int 1]) (rest := []) ⟨hx, hb, hml, hown, hT⟩ (c_ST_deep1 l D cB cI aS aB b (tw_ST_ref 3 (tw_BE_end nbase ncnt nsts))) (cwV 2 hT (gV_of k_663 k_664 k_665 k_2 kc_ST_isTooDeep) rfl rfl rfl hd_ST_isTooDeep ⟨Nat.le_of_ble_eq_true rfl, Nat.le_of_ble_eq_true rfl⟩) hk (hP.sub (ws' := [(aS, .inr (0, [.ref aB])), (aB, .inl (cB, 202000, .inl (by_ b)))]) [2, 3] rfl) (q0 := 0) rfl rfl rfl rfl hl.1 rfl (Nat.le_of_ble_eq_true rfl) d_BS_accept_28 ⟨Nat.zero_le _, Nat.zero_le _⟩ ?_
    refine lv_if_ne (tgt := 57) hx hb d_BS_accept_31 (by decide) (fun c_2 => ?_) (fun c_2 => ?_)
    · refine lv_iconst (v := 0) hx hb d_BS_accept_57 (by decide) ?_
      exact W.zret (v := 0) (ty := .boolean) hx hb hr (rfl) (fun t ht hW => ⟨⟨0, (ncnt, nsts), rfl, ⟨false, rfl, (by rw [tw_BS_accept, if_pos c_1, if_neg c_2]; first | done | rfl), hi⟩, by rw [ht]; exact hP, hD⟩, hS.F ht⟩) hS.2.2 d_BS_accept_58
    · refine lv_aload_n hx hb d_BS_accept_34 rfl (lv_at hl 1 rfl) ?_
      refine va_get (D := D) (ci := 3) (v := .ref aN) (C := R_BS) (T := T_BS) (N := 5) hx hb hT u_BS hown hK hP 0 rfl rfl 4 (by decide) (hT _ k_120) (fun _ h9 => h9) rfl d_BS_accept_35 ?_
      refine lv_aload_n hx hb d_BS_accept_38 rfl (lv_at hl 1 rfl) ?_
      refine va_get (D := D) (ci := 3) (v := .ref aW) (C := R_BS) (T := T_BS) (N := 5) hx hb hT u_BS hown hK hP 0 rfl rfl 1 (by decide) (hT _ k_111) (fun _ h9 => h9) rfl d_BS_accept_39 ?_
      refine va_getN (D := D) (ci := 1) (v := .int place) (C := R_WR) (T := T_WR) (N := 4) hx hb hT u_WR hown hK hP 1 rfl rfl 1 (by decide) (va_Nw.use rfl (hN ("PipelineBelt$Belts", 91, "PipelineBelt$Writer", "place", "I", "PipelineBelt") (by decide))) (fun _ h9 => h9) rfl d_BS_accept_42 ?_
      refine lv_iload_n hx hb d_BS_accept_45 rfl (lv_at hl 0 rfl) ?_
      refine lv_isub hx hb d_BS_accept_46 ?_
      refine mt_Vi (As := [.int (place - (tw_BE_end nbase ncnt nsts))]) (rest := []) (wr := [(aY, .inr (3, [.ref aS, .ref aW, .ref aF, .ref aK, .ref aN])), (aW, .inr (1, [.ref aS, .int place, .int limit, .int (b2i full)])), (aS, .inr (0, [.ref aB])), (aB, .inl (cB, 202000, .inl (by_ b)))]) ⟨hx, hb, hml, hown, hT⟩ (c_BE_add l D cB cI aN aNs nbase _ ncnt nsts (place - (tw_BE_end nbase ncnt nsts)) (ac_len hpl hi.1 c_1) (hi)) (cwV 1 hT (gV_of k_457 k_458 k_459 k_6 kc_BE_add) rfl rfl rfl hd_BE_add ⟨Nat.le_of_ble_eq_true rfl, Nat.le_of_ble_eq_true rfl⟩) hk hP hD hS hA [4, 5] [0, 1, 2, 3] rfl rfl rfl (by decide) (by decide) (by decide) (q0 := 0) rfl rfl rfl rfl hl.1 rfl (Nat.le_of_ble_eq_true rfl) d_BS_accept_47 ⟨Nat.zero_le _, Nat.zero_le _⟩ (fun r_3 u_3 H locs hw_3 hP hD hS => ?_)
      obtain ⟨ecnt_3, ests_3⟩ := u_3
      obtain ⟨r_3, rfl, hw_3⟩ := hw_3
      obtain ⟨hw_3, hi_3⟩ := hw_3
      have hP : va_P D vwCl [(aY, .inr (3, [.ref aS, .ref aW, .ref aF, .ref aK, .ref aN])), (aW, .inr (1, [.ref aS, .int place, .int limit, .int (b2i full)])), (aS, .inr (0, [.ref aB])), (aB, .inl (cB, 202000, .inl (by_ b))), (aN, .inr (2, [.int nbase, .ref aNs, .int ecnt_3])), (aNs, .inl (cI, 201, .inl ests_3))] H := hP.sub [0, 1, 2, 3, 4, 5] rfl
      have hD : va_D A [(aY, .inr (3, [.ref aS, .ref aW, .ref aF, .ref aK, .ref aN])), (aW, .inr (1, [.ref aS, .int place, .int limit, .int (b2i full)])), (aS, .inr (0, [.ref aB])), (aB, .inl (cB, 202000, .inl (by_ b))), (aN, .inr (2, [.int nbase, .ref aNs, .int ecnt_3])), (aNs, .inl (cI, 201, .inl ests_3))] := hD.sub [0, 1, 2, 3, 4, 5] (by decide) rfl
      refine lv_if_eq (tgt := 57) hx hb d_BS_accept_50 (by decide) (fun c_4 => ?_) (fun c_4 => ?_)
      · refine lv_iconst (v := 0) hx hb d_BS_accept_57 (by decide) ?_
        exact W.zret (v := 0) (ty := .boolean) hx hb hr (rfl) (fun t ht hW => ⟨⟨0, (ecnt_3, ests_3), rfl, ⟨false, rfl, (by rw [tw_BS_accept, if_pos c_1, if_pos c_2, ← hw_3, tp3_mk, if_pos c_4]; first | done | rfl), hi_3⟩, by rw [ht]; exact hP, hD⟩, hS.F ht⟩) hS.2.2 d_BS_accept_58
      · refine lv_iconst (v := 1) hx hb d_BS_accept_53 (by decide) ?_
        refine lv_goto (tgt := 58) hx hb d_BS_accept_54 (by decide) ?_
        exact W.zret (v := 1) (ty := .boolean) hx hb hr (rfl) (fun t ht hW => ⟨⟨1, (ecnt_3, ests_3), rfl, ⟨true, rfl, (by rw [tw_BS_accept, if_pos c_1, if_pos c_2, ← hw_3, tp3_mk, if_neg c_4]; first | done | rfl), hi_3⟩, by rw [ht]; exact hP, hD⟩, hS.F ht⟩) hS.2.2 d_BS_accept_58
