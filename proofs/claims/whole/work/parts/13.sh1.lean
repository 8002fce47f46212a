/-! printed by wip/gen -/
theorem k_8 : (Jvm.Cond.initialized "PipelineBelt$Shaper") ∈ lw_g := lw_gm (List.mem_append_right _ (List.mem_of_getElem? (i := 8) (by decide +kernel))) rfl
theorem k_196 : (Jvm.Cond.fieldLink "PipelineBelt$Shaper" (9 : Nat) "PipelineBelt$Shaper" "store" "LPipelineBelt$Store;") ∈ lw_g := lw_gm (List.mem_append_right _ (List.mem_of_getElem? (i := 196) (by decide +kernel))) rfl
theorem k_197 : (Jvm.Cond.fieldLink "PipelineBelt$Shaper" (15 : Nat) "PipelineBelt$Shaper" "belts" "LPipelineBelt$Belts;") ∈ lw_g := lw_gm (List.mem_append_right _ (List.mem_of_getElem? (i := 197) (by decide +kernel))) rfl
theorem k_198 : (Jvm.Cond.fieldLink "PipelineBelt$Shaper" (19 : Nat) "PipelineBelt$Shaper" "path" "LPipelineBelt$Path;") ∈ lw_g := lw_gm (List.mem_append_right _ (List.mem_of_getElem? (i := 198) (by decide +kernel))) rfl
theorem k_480 : (Jvm.Cond.instanceMethod ({ cls := "PipelineBelt$Store", name := "countParts", desc := "(I)I" } : Jvm.MethodName)) ∈ lw_g := lw_gm (List.mem_append_right _ (List.mem_of_getElem? (i := 480) (by decide +kernel))) rfl
theorem k_481 : (Jvm.Cond.selects "PipelineBelt$Store" ({ cls := "PipelineBelt$Store", name := "countParts", desc := "(I)I" } : Jvm.MethodName) ({ cls := "PipelineBelt$Store", name := "countParts", desc := "(I)I" } : Jvm.MethodName)) ∈ lw_g := lw_gm (List.mem_append_right _ (List.mem_of_getElem? (i := 481) (by decide +kernel))) rfl
theorem k_554 : (Jvm.Cond.methodLink "PipelineBelt$Shaper" (50 : Nat) ({ cls := "PipelineBelt$Store", name := "kindOf", desc := "(I)I" } : Jvm.MethodName)) ∈ lw_g := lw_gm (List.mem_append_right _ (List.mem_of_getElem? (i := 554) (by decide +kernel))) rfl
theorem k_557 : (Jvm.Cond.methodLink "PipelineBelt$Shaper" (55 : Nat) ({ cls := "PipelineBelt$Store", name := "countParts", desc := "(I)I" } : Jvm.MethodName)) ∈ lw_g := lw_gm (List.mem_append_right _ (List.mem_of_getElem? (i := 557) (by decide +kernel))) rfl
theorem k_558 : (Jvm.Cond.methodLink "PipelineBelt$Shaper" (58 : Nat) ({ cls := "PipelineBelt$Store", name := "endOf", desc := "(I)I" } : Jvm.MethodName)) ∈ lw_g := lw_gm (List.mem_append_right _ (List.mem_of_getElem? (i := 558) (by decide +kernel))) rfl
theorem k_559 : (Jvm.Cond.methodLink "PipelineBelt$Shaper" (61 : Nat) ({ cls := "PipelineBelt$Store", name := "placeOf", desc := "(I)I" } : Jvm.MethodName)) ∈ lw_g := lw_gm (List.mem_append_right _ (List.mem_of_getElem? (i := 559) (by decide +kernel))) rfl
theorem k_560 : (Jvm.Cond.methodLink "PipelineBelt$Shaper" (64 : Nat) ({ cls := "PipelineBelt$Store", name := "valueOf", desc := "(I)I" } : Jvm.MethodName)) ∈ lw_g := lw_gm (List.mem_append_right _ (List.mem_of_getElem? (i := 560) (by decide +kernel))) rfl
theorem k_561 : (Jvm.Cond.methodLink "PipelineBelt$Shaper" (67 : Nat) ({ cls := "PipelineBelt$Store", name := "isPlain", desc := "(II)Z" } : Jvm.MethodName)) ∈ lw_g := lw_gm (List.mem_append_right _ (List.mem_of_getElem? (i := 561) (by decide +kernel))) rfl
theorem k_562 : (Jvm.Cond.instanceMethod ({ cls := "PipelineBelt$Store", name := "isPlain", desc := "(II)Z" } : Jvm.MethodName)) ∈ lw_g := lw_gm (List.mem_append_right _ (List.mem_of_getElem? (i := 562) (by decide +kernel))) rfl
theorem k_563 : (Jvm.Cond.selects "PipelineBelt$Store" ({ cls := "PipelineBelt$Store", name := "isPlain", desc := "(II)Z" } : Jvm.MethodName) ({ cls := "PipelineBelt$Store", name := "isPlain", desc := "(II)Z" } : Jvm.MethodName)) ∈ lw_g := lw_gm (List.mem_append_right _ (List.mem_of_getElem? (i := 563) (by decide +kernel))) rfl
theorem k_565 : (Jvm.Cond.methodLink "PipelineBelt$Shaper" (71 : Nat) ({ cls := "PipelineBelt$Path", name := "readExpression", desc := "(I)Z" } : Jvm.MethodName)) ∈ lw_g := lw_gm (List.mem_append_right _ (List.mem_of_getElem? (i := 565) (by decide +kernel))) rfl
theorem k_566 : (Jvm.Cond.instanceMethod ({ cls := "PipelineBelt$Path", name := "readExpression", desc := "(I)Z" } : Jvm.MethodName)) ∈ lw_g := lw_gm (List.mem_append_right _ (List.mem_of_getElem? (i := 566) (by decide +kernel))) rfl
theorem k_567 : (Jvm.Cond.selects "PipelineBelt$Path" ({ cls := "PipelineBelt$Path", name := "readExpression", desc := "(I)Z" } : Jvm.MethodName) ({ cls := "PipelineBelt$Path", name := "readExpression", desc := "(I)Z" } : Jvm.MethodName)) ∈ lw_g := lw_gm (List.mem_append_right _ (List.mem_of_getElem? (i := 567) (by decide +kernel))) rfl
theorem k_592 : (Jvm.Cond.methodLink "PipelineBelt$Shaper" (77 : Nat) ({ cls := "PipelineBelt$Belts", name := "next", desc := "()LPipelineBelt$Writer;" } : Jvm.MethodName)) ∈ lw_g := lw_gm (List.mem_append_right _ (List.mem_of_getElem? (i := 592) (by decide +kernel))) rfl
theorem k_593 : (Jvm.Cond.instanceMethod ({ cls := "PipelineBelt$Belts", name := "next", desc := "()LPipelineBelt$Writer;" } : Jvm.MethodName)) ∈ lw_g := lw_gm (List.mem_append_right _ (List.mem_of_getElem? (i := 593) (by decide +kernel))) rfl
theorem k_594 : (Jvm.Cond.selects "PipelineBelt$Belts" ({ cls := "PipelineBelt$Belts", name := "next", desc := "()LPipelineBelt$Writer;" } : Jvm.MethodName) ({ cls := "PipelineBelt$Belts", name := "next", desc := "()LPipelineBelt$Writer;" } : Jvm.MethodName)) ∈ lw_g := lw_gm (List.mem_append_right _ (List.mem_of_getElem? (i := 594) (by decide +kernel))) rfl
theorem k_597 : (Jvm.Cond.methodLink "PipelineBelt$Shaper" (81 : Nat) ({ cls := "PipelineBelt$Writer", name := "open", desc := "()I" } : Jvm.MethodName)) ∈ lw_g := lw_gm (List.mem_append_right _ (List.mem_of_getElem? (i := 597) (by decide +kernel))) rfl
theorem k_605 : (Jvm.Cond.methodLink "PipelineBelt$Shaper" (87 : Nat) ({ cls := "PipelineBelt$Shaper", name := "projected", desc := "(IIII)I" } : Jvm.MethodName)) ∈ lw_g := lw_gm (List.mem_append_right _ (List.mem_of_getElem? (i := 605) (by decide +kernel))) rfl
theorem k_607 : (Jvm.Cond.instanceMethod ({ cls := "PipelineBelt$Shaper", name := "projected", desc := "(IIII)I" } : Jvm.MethodName)) ∈ lw_g := lw_gm (List.mem_append_right _ (List.mem_of_getElem? (i := 607) (by decide +kernel))) rfl
theorem k_609 : (Jvm.Cond.methodLink "PipelineBelt$Shaper" (102 : Nat) ({ cls := "PipelineBelt$Store", name := "at", desc := "(I)I" } : Jvm.MethodName)) ∈ lw_g := lw_gm (List.mem_append_right _ (List.mem_of_getElem? (i := 609) (by decide +kernel))) rfl
theorem k_610 : (Jvm.Cond.methodLink "PipelineBelt$Shaper" (105 : Nat) ({ cls := "PipelineBelt$Store", name := "find", desc := "(III)I" } : Jvm.MethodName)) ∈ lw_g := lw_gm (List.mem_append_right _ (List.mem_of_getElem? (i := 610) (by decide +kernel))) rfl
theorem k_615 : (Jvm.Cond.constant "PipelineBelt$Shaper" (109 : Nat) (162000 : Int32)) ∈ lw_g := lw_gm (List.mem_append_right _ (List.mem_of_getElem? (i := 615) (by decide +kernel))) rfl
theorem k_616 : (Jvm.Cond.methodLink "PipelineBelt$Shaper" (110 : Nat) ({ cls := "PipelineBelt$Path", name := "makeRowsAt", desc := "(I)V" } : Jvm.MethodName)) ∈ lw_g := lw_gm (List.mem_append_right _ (List.mem_of_getElem? (i := 616) (by decide +kernel))) rfl
theorem k_617 : (Jvm.Cond.instanceMethod ({ cls := "PipelineBelt$Path", name := "makeRowsAt", desc := "(I)V" } : Jvm.MethodName)) ∈ lw_g := lw_gm (List.mem_append_right _ (List.mem_of_getElem? (i := 617) (by decide +kernel))) rfl
theorem k_618 : (Jvm.Cond.selects "PipelineBelt$Path" ({ cls := "PipelineBelt$Path", name := "makeRowsAt", desc := "(I)V" } : Jvm.MethodName) ({ cls := "PipelineBelt$Path", name := "makeRowsAt", desc := "(I)V" } : Jvm.MethodName)) ∈ lw_g := lw_gm (List.mem_append_right _ (List.mem_of_getElem? (i := 618) (by decide +kernel))) rfl
theorem k_622 : (Jvm.Cond.methodLink "PipelineBelt$Shaper" (113 : Nat) ({ cls := "PipelineBelt$Path", name := "value", desc := "(II)I" } : Jvm.MethodName)) ∈ lw_g := lw_gm (List.mem_append_right _ (List.mem_of_getElem? (i := 622) (by decide +kernel))) rfl
theorem k_652 : (Jvm.Cond.methodLink "PipelineBelt$Shaper" (91 : Nat) ({ cls := "PipelineBelt$Writer", name := "name", desc := "(III)V" } : Jvm.MethodName)) ∈ lw_g := lw_gm (List.mem_append_right _ (List.mem_of_getElem? (i := 652) (by decide +kernel))) rfl
theorem k_653 : (Jvm.Cond.instanceMethod ({ cls := "PipelineBelt$Writer", name := "name", desc := "(III)V" } : Jvm.MethodName)) ∈ lw_g := lw_gm (List.mem_append_right _ (List.mem_of_getElem? (i := 653) (by decide +kernel))) rfl
theorem k_654 : (Jvm.Cond.selects "PipelineBelt$Writer" ({ cls := "PipelineBelt$Writer", name := "name", desc := "(III)V" } : Jvm.MethodName) ({ cls := "PipelineBelt$Writer", name := "name", desc := "(III)V" } : Jvm.MethodName)) ∈ lw_g := lw_gm (List.mem_append_right _ (List.mem_of_getElem? (i := 654) (by decide +kernel))) rfl
theorem k_657 : (Jvm.Cond.methodLink "PipelineBelt$Shaper" (95 : Nat) ({ cls := "PipelineBelt$Writer", name := "copy", desc := "(II)V" } : Jvm.MethodName)) ∈ lw_g := lw_gm (List.mem_append_right _ (List.mem_of_getElem? (i := 657) (by decide +kernel))) rfl
theorem k_658 : (Jvm.Cond.methodLink "PipelineBelt$Shaper" (98 : Nat) ({ cls := "PipelineBelt$Writer", name := "close", desc := "(I)V" } : Jvm.MethodName)) ∈ lw_g := lw_gm (List.mem_append_right _ (List.mem_of_getElem? (i := 658) (by decide +kernel))) rfl
abbrev b_SH_projected : ByteArray := prog_8_method_5_code
def y_SH_projected : MethodName := ⟨R_SH, "projected", "(IIII)I"⟩
theorem kc_SH_projected : Cond.code y_SH_projected b_SH_projected 5 (some .int) ∈ lw_g := lw_gm (List.mem_append_right _ (List.mem_of_getElem? (i := 608) (by decide +kernel))) rfl
abbrev mw_SH_projected : List Cond := Cond.code y_SH_projected b_SH_projected 5 (some .int) :: lw_g
theorem hd_SH_projected : y_SH_projected.cls = R_SH ∧ y_SH_projected.cls ≠ "java/lang/invoke/MethodHandle" ∧ y_SH_projected.cls ≠ "java/lang/invoke/VarHandle" ∧ (parseMethodDescriptor y_SH_projected.desc).map (fun d => d.parameters.length) = some 4 := by decide +kernel
theorem kp_SH_projected : Cond.selects R_SH y_SH_projected y_SH_projected ∈ lw_g := lw_gm (List.mem_append_left _ (by decide +kernel)) rfl
theorem d_SH_projected_0 : decode b_SH_projected 0 = .ok (.iload_n 1, 1) := by decide +kernel
theorem d_SH_projected_1 : decode b_SH_projected 1 = .ok (.invokestatic 50, 3) := by decide +kernel
theorem d_SH_projected_4 : decode b_SH_projected 4 = .ok (.bipush 8, 2) := by decide +kernel
theorem d_SH_projected_6 : decode b_SH_projected 6 = .ok (.if_icmp .ne 30, 3) := by decide +kernel
theorem d_SH_projected_9 : decode b_SH_projected 9 = .ok (.aload_n 0, 1) := by decide +kernel
theorem d_SH_projected_10 : decode b_SH_projected 10 = .ok (.getfield 9, 3) := by decide +kernel
theorem d_SH_projected_13 : decode b_SH_projected 13 = .ok (.iload_n 1, 1) := by decide +kernel
theorem d_SH_projected_14 : decode b_SH_projected 14 = .ok (.invokestatic 61, 3) := by decide +kernel
theorem d_SH_projected_17 : decode b_SH_projected 17 = .ok (.invokevirtual 102, 3) := by decide +kernel
theorem d_SH_projected_20 : decode b_SH_projected 20 = .ok (.iconst 1, 1) := by decide +kernel
theorem d_SH_projected_21 : decode b_SH_projected 21 = .ok (.if_icmp .ne 15, 3) := by decide +kernel
theorem d_SH_projected_24 : decode b_SH_projected 24 = .ok (.aload_n 0, 1) := by decide +kernel
theorem d_SH_projected_25 : decode b_SH_projected 25 = .ok (.getfield 9, 3) := by decide +kernel
theorem d_SH_projected_28 : decode b_SH_projected 28 = .ok (.iload 4, 2) := by decide +kernel
theorem d_SH_projected_30 : decode b_SH_projected 30 = .ok (.iload_n 2, 1) := by decide +kernel
theorem d_SH_projected_31 : decode b_SH_projected 31 = .ok (.iload_n 3, 1) := by decide +kernel
theorem d_SH_projected_32 : decode b_SH_projected 32 = .ok (.invokevirtual 105, 3) := by decide +kernel
theorem d_SH_projected_35 : decode b_SH_projected 35 = .ok (.ireturn, 1) := by decide +kernel
theorem d_SH_projected_36 : decode b_SH_projected 36 = .ok (.aload_n 0, 1) := by decide +kernel
theorem d_SH_projected_37 : decode b_SH_projected 37 = .ok (.getfield 19, 3) := by decide +kernel
theorem d_SH_projected_40 : decode b_SH_projected 40 = .ok (.ldc 109, 2) := by decide +kernel
theorem d_SH_projected_42 : decode b_SH_projected 42 = .ok (.invokevirtual 110, 3) := by decide +kernel
theorem d_SH_projected_45 : decode b_SH_projected 45 = .ok (.aload_n 0, 1) := by decide +kernel
theorem d_SH_projected_46 : decode b_SH_projected 46 = .ok (.getfield 19, 3) := by decide +kernel
theorem d_SH_projected_49 : decode b_SH_projected 49 = .ok (.iload_n 1, 1) := by decide +kernel
theorem d_SH_projected_50 : decode b_SH_projected 50 = .ok (.invokevirtual 71, 3) := by decide +kernel
theorem d_SH_projected_53 : decode b_SH_projected 53 = .ok (.ifCond .eq 16, 3) := by decide +kernel
theorem d_SH_projected_56 : decode b_SH_projected 56 = .ok (.aload_n 0, 1) := by decide +kernel
theorem d_SH_projected_57 : decode b_SH_projected 57 = .ok (.getfield 19, 3) := by decide +kernel
theorem d_SH_projected_60 : decode b_SH_projected 60 = .ok (.iload 4, 2) := by decide +kernel
theorem d_SH_projected_62 : decode b_SH_projected 62 = .ok (.iconst 0, 1) := by decide +kernel
theorem d_SH_projected_63 : decode b_SH_projected 63 = .ok (.invokevirtual 113, 3) := by decide +kernel
theorem d_SH_projected_66 : decode b_SH_projected 66 = .ok (.goto 4, 3) := by decide +kernel
theorem d_SH_projected_69 : decode b_SH_projected 69 = .ok (.iconst 0, 1) := by decide +kernel
theorem d_SH_projected_70 : decode b_SH_projected 70 = .ok (.ireturn, 1) := by decide +kernel
abbrev b_SH_faultOfProject : ByteArray := prog_8_method_3_code
def y_SH_faultOfProject : MethodName := ⟨R_SH, "faultOfProject", "(I)I"⟩
theorem kc_SH_faultOfProject : Cond.code y_SH_faultOfProject b_SH_faultOfProject 6 (some .int) ∈ lw_g := lw_gm (List.mem_append_right _ (List.mem_of_getElem? (i := 553) (by decide +kernel))) rfl
abbrev mw_SH_faultOfProject : List Cond := Cond.code y_SH_faultOfProject b_SH_faultOfProject 6 (some .int) :: lw_g
theorem hd_SH_faultOfProject : y_SH_faultOfProject.cls = R_SH ∧ y_SH_faultOfProject.cls ≠ "java/lang/invoke/MethodHandle" ∧ y_SH_faultOfProject.cls ≠ "java/lang/invoke/VarHandle" ∧ (parseMethodDescriptor y_SH_faultOfProject.desc).map (fun d => d.parameters.length) = some 1 := by decide +kernel
theorem kp_SH_faultOfProject : Cond.selects R_SH y_SH_faultOfProject y_SH_faultOfProject ∈ lw_g := lw_gm (List.mem_append_left _ (by decide +kernel)) rfl
theorem d_SH_faultOfProject_0 : decode b_SH_faultOfProject 0 = .ok (.iload_n 1, 1) := by decide +kernel
theorem d_SH_faultOfProject_1 : decode b_SH_faultOfProject 1 = .ok (.invokestatic 50, 3) := by decide +kernel
theorem d_SH_faultOfProject_4 : decode b_SH_faultOfProject 4 = .ok (.iconst 3, 1) := by decide +kernel
theorem d_SH_faultOfProject_5 : decode b_SH_faultOfProject 5 = .ok (.if_icmp .ne 15, 3) := by decide +kernel
theorem d_SH_faultOfProject_8 : decode b_SH_faultOfProject 8 = .ok (.aload_n 0, 1) := by decide +kernel
theorem d_SH_faultOfProject_9 : decode b_SH_faultOfProject 9 = .ok (.getfield 9, 3) := by decide +kernel
theorem d_SH_faultOfProject_12 : decode b_SH_faultOfProject 12 = .ok (.iload_n 1, 1) := by decide +kernel
theorem d_SH_faultOfProject_13 : decode b_SH_faultOfProject 13 = .ok (.invokevirtual 55, 3) := by decide +kernel
theorem d_SH_faultOfProject_16 : decode b_SH_faultOfProject 16 = .ok (.iconst 1, 1) := by decide +kernel
theorem d_SH_faultOfProject_17 : decode b_SH_faultOfProject 17 = .ok (.if_icmp .ge 5, 3) := by decide +kernel
theorem d_SH_faultOfProject_20 : decode b_SH_faultOfProject 20 = .ok (.iconst 2, 1) := by decide +kernel
theorem d_SH_faultOfProject_21 : decode b_SH_faultOfProject 21 = .ok (.ireturn, 1) := by decide +kernel
theorem d_SH_faultOfProject_22 : decode b_SH_faultOfProject 22 = .ok (.aload_n 0, 1) := by decide +kernel
theorem d_SH_faultOfProject_23 : decode b_SH_faultOfProject 23 = .ok (.getfield 9, 3) := by decide +kernel
theorem d_SH_faultOfProject_26 : decode b_SH_faultOfProject 26 = .ok (.iload_n 1, 1) := by decide +kernel
theorem d_SH_faultOfProject_27 : decode b_SH_faultOfProject 27 = .ok (.invokevirtual 58, 3) := by decide +kernel
theorem d_SH_faultOfProject_30 : decode b_SH_faultOfProject 30 = .ok (.iconst 1, 1) := by decide +kernel
theorem d_SH_faultOfProject_31 : decode b_SH_faultOfProject 31 = .ok (.isub, 1) := by decide +kernel
theorem d_SH_faultOfProject_32 : decode b_SH_faultOfProject 32 = .ok (.istore_n 2, 1) := by decide +kernel
theorem d_SH_faultOfProject_33 : decode b_SH_faultOfProject 33 = .ok (.iload_n 1, 1) := by decide +kernel
theorem d_SH_faultOfProject_34 : decode b_SH_faultOfProject 34 = .ok (.invokestatic 61, 3) := by decide +kernel
theorem d_SH_faultOfProject_37 : decode b_SH_faultOfProject 37 = .ok (.iconst 4, 1) := by decide +kernel
theorem d_SH_faultOfProject_38 : decode b_SH_faultOfProject 38 = .ok (.iadd, 1) := by decide +kernel
theorem d_SH_faultOfProject_39 : decode b_SH_faultOfProject 39 = .ok (.istore_n 3, 1) := by decide +kernel
theorem d_SH_faultOfProject_40 : decode b_SH_faultOfProject 40 = .ok (.iconst 0, 1) := by decide +kernel
theorem d_SH_faultOfProject_41 : decode b_SH_faultOfProject 41 = .ok (.istore 4, 2) := by decide +kernel
theorem d_SH_faultOfProject_43 : decode b_SH_faultOfProject 43 = .ok (.iload 4, 2) := by decide +kernel
theorem d_SH_faultOfProject_45 : decode b_SH_faultOfProject 45 = .ok (.sipush 1000, 3) := by decide +kernel
theorem d_SH_faultOfProject_48 : decode b_SH_faultOfProject 48 = .ok (.if_icmp .ge 70, 3) := by decide +kernel
theorem d_SH_faultOfProject_51 : decode b_SH_faultOfProject 51 = .ok (.iload_n 3, 1) := by decide +kernel
theorem d_SH_faultOfProject_52 : decode b_SH_faultOfProject 52 = .ok (.iload_n 2, 1) := by decide +kernel
theorem d_SH_faultOfProject_53 : decode b_SH_faultOfProject 53 = .ok (.if_icmp .ge 65, 3) := by decide +kernel
theorem d_SH_faultOfProject_56 : decode b_SH_faultOfProject 56 = .ok (.aload_n 0, 1) := by decide +kernel
theorem d_SH_faultOfProject_57 : decode b_SH_faultOfProject 57 = .ok (.getfield 9, 3) := by decide +kernel
theorem d_SH_faultOfProject_60 : decode b_SH_faultOfProject 60 = .ok (.iload_n 3, 1) := by decide +kernel
theorem d_SH_faultOfProject_61 : decode b_SH_faultOfProject 61 = .ok (.invokevirtual 64, 3) := by decide +kernel
theorem d_SH_faultOfProject_64 : decode b_SH_faultOfProject 64 = .ok (.istore 5, 2) := by decide +kernel
theorem d_SH_faultOfProject_66 : decode b_SH_faultOfProject 66 = .ok (.aload_n 0, 1) := by decide +kernel
theorem d_SH_faultOfProject_67 : decode b_SH_faultOfProject 67 = .ok (.getfield 9, 3) := by decide +kernel
theorem d_SH_faultOfProject_70 : decode b_SH_faultOfProject 70 = .ok (.iload_n 3, 1) := by decide +kernel
theorem d_SH_faultOfProject_71 : decode b_SH_faultOfProject 71 = .ok (.iconst 1, 1) := by decide +kernel
theorem d_SH_faultOfProject_72 : decode b_SH_faultOfProject 72 = .ok (.iadd, 1) := by decide +kernel
theorem d_SH_faultOfProject_73 : decode b_SH_faultOfProject 73 = .ok (.iload 5, 2) := by decide +kernel
theorem d_SH_faultOfProject_75 : decode b_SH_faultOfProject 75 = .ok (.invokestatic 61, 3) := by decide +kernel
theorem d_SH_faultOfProject_78 : decode b_SH_faultOfProject 78 = .ok (.iconst 1, 1) := by decide +kernel
theorem d_SH_faultOfProject_79 : decode b_SH_faultOfProject 79 = .ok (.isub, 1) := by decide +kernel
theorem d_SH_faultOfProject_80 : decode b_SH_faultOfProject 80 = .ok (.invokevirtual 67, 3) := by decide +kernel
theorem d_SH_faultOfProject_83 : decode b_SH_faultOfProject 83 = .ok (.ifCond .ne 5, 3) := by decide +kernel
theorem d_SH_faultOfProject_86 : decode b_SH_faultOfProject 86 = .ok (.iconst 2, 1) := by decide +kernel
theorem d_SH_faultOfProject_87 : decode b_SH_faultOfProject 87 = .ok (.ireturn, 1) := by decide +kernel
theorem d_SH_faultOfProject_88 : decode b_SH_faultOfProject 88 = .ok (.aload_n 0, 1) := by decide +kernel
theorem d_SH_faultOfProject_89 : decode b_SH_faultOfProject 89 = .ok (.getfield 19, 3) := by decide +kernel
theorem d_SH_faultOfProject_92 : decode b_SH_faultOfProject 92 = .ok (.iload 5, 2) := by decide +kernel
theorem d_SH_faultOfProject_94 : decode b_SH_faultOfProject 94 = .ok (.invokevirtual 71, 3) := by decide +kernel
theorem d_SH_faultOfProject_97 : decode b_SH_faultOfProject 97 = .ok (.ifCond .ne 5, 3) := by decide +kernel
theorem d_SH_faultOfProject_100 : decode b_SH_faultOfProject 100 = .ok (.iconst 3, 1) := by decide +kernel
theorem d_SH_faultOfProject_101 : decode b_SH_faultOfProject 101 = .ok (.ireturn, 1) := by decide +kernel
theorem d_SH_faultOfProject_102 : decode b_SH_faultOfProject 102 = .ok (.aload_n 0, 1) := by decide +kernel
theorem d_SH_faultOfProject_103 : decode b_SH_faultOfProject 103 = .ok (.getfield 9, 3) := by decide +kernel
theorem d_SH_faultOfProject_106 : decode b_SH_faultOfProject 106 = .ok (.iload 5, 2) := by decide +kernel
theorem d_SH_faultOfProject_108 : decode b_SH_faultOfProject 108 = .ok (.invokevirtual 58, 3) := by decide +kernel
theorem d_SH_faultOfProject_111 : decode b_SH_faultOfProject 111 = .ok (.istore_n 3, 1) := by decide +kernel
theorem d_SH_faultOfProject_112 : decode b_SH_faultOfProject 112 = .ok (.iinc 4 1, 3) := by decide +kernel
theorem d_SH_faultOfProject_115 : decode b_SH_faultOfProject 115 = .ok (.goto (-72), 3) := by decide +kernel
theorem d_SH_faultOfProject_118 : decode b_SH_faultOfProject 118 = .ok (.iconst 0, 1) := by decide +kernel
theorem d_SH_faultOfProject_119 : decode b_SH_faultOfProject 119 = .ok (.ireturn, 1) := by decide +kernel
abbrev b_SH_writeProjected : ByteArray := prog_8_method_4_code
def y_SH_writeProjected : MethodName := ⟨R_SH, "writeProjected", "(II)V"⟩
theorem kc_SH_writeProjected : Cond.code y_SH_writeProjected b_SH_writeProjected 11 none ∈ lw_g := lw_gm (List.mem_append_right _ (List.mem_of_getElem? (i := 591) (by decide +kernel))) rfl
abbrev mw_SH_writeProjected : List Cond := Cond.code y_SH_writeProjected b_SH_writeProjected 11 none :: lw_g
theorem hd_SH_writeProjected : y_SH_writeProjected.cls = R_SH ∧ y_SH_writeProjected.cls ≠ "java/lang/invoke/MethodHandle" ∧ y_SH_writeProjected.cls ≠ "java/lang/invoke/VarHandle" ∧ (parseMethodDescriptor y_SH_writeProjected.desc).map (fun d => d.parameters.length) = some 2 := by decide +kernel
theorem kp_SH_writeProjected : Cond.selects R_SH y_SH_writeProjected y_SH_writeProjected ∈ lw_g := lw_gm (List.mem_append_left _ (by decide +kernel)) rfl
theorem d_SH_writeProjected_0 : decode b_SH_writeProjected 0 = .ok (.aload_n 0, 1) := by decide +kernel
theorem d_SH_writeProjected_1 : decode b_SH_writeProjected 1 = .ok (.getfield 15, 3) := by decide +kernel
theorem d_SH_writeProjected_4 : decode b_SH_writeProjected 4 = .ok (.invokevirtual 77, 3) := by decide +kernel
theorem d_SH_writeProjected_7 : decode b_SH_writeProjected 7 = .ok (.astore_n 3, 1) := by decide +kernel
theorem d_SH_writeProjected_8 : decode b_SH_writeProjected 8 = .ok (.aload_n 3, 1) := by decide +kernel
theorem d_SH_writeProjected_9 : decode b_SH_writeProjected 9 = .ok (.invokevirtual 81, 3) := by decide +kernel
theorem d_SH_writeProjected_12 : decode b_SH_writeProjected 12 = .ok (.istore 4, 2) := by decide +kernel
theorem d_SH_writeProjected_14 : decode b_SH_writeProjected 14 = .ok (.aload_n 0, 1) := by decide +kernel
theorem d_SH_writeProjected_15 : decode b_SH_writeProjected 15 = .ok (.getfield 9, 3) := by decide +kernel
theorem d_SH_writeProjected_18 : decode b_SH_writeProjected 18 = .ok (.iload_n 1, 1) := by decide +kernel
theorem d_SH_writeProjected_19 : decode b_SH_writeProjected 19 = .ok (.invokevirtual 58, 3) := by decide +kernel
theorem d_SH_writeProjected_22 : decode b_SH_writeProjected 22 = .ok (.iconst 1, 1) := by decide +kernel
theorem d_SH_writeProjected_23 : decode b_SH_writeProjected 23 = .ok (.isub, 1) := by decide +kernel
theorem d_SH_writeProjected_24 : decode b_SH_writeProjected 24 = .ok (.istore 5, 2) := by decide +kernel
theorem d_SH_writeProjected_26 : decode b_SH_writeProjected 26 = .ok (.iload_n 1, 1) := by decide +kernel
theorem d_SH_writeProjected_27 : decode b_SH_writeProjected 27 = .ok (.invokestatic 61, 3) := by decide +kernel
theorem d_SH_writeProjected_30 : decode b_SH_writeProjected 30 = .ok (.iconst 4, 1) := by decide +kernel
theorem d_SH_writeProjected_31 : decode b_SH_writeProjected 31 = .ok (.iadd, 1) := by decide +kernel
theorem d_SH_writeProjected_32 : decode b_SH_writeProjected 32 = .ok (.istore 6, 2) := by decide +kernel
theorem d_SH_writeProjected_34 : decode b_SH_writeProjected 34 = .ok (.iconst 0, 1) := by decide +kernel
theorem d_SH_writeProjected_35 : decode b_SH_writeProjected 35 = .ok (.istore 7, 2) := by decide +kernel
theorem d_SH_writeProjected_37 : decode b_SH_writeProjected 37 = .ok (.iload 7, 2) := by decide +kernel
theorem d_SH_writeProjected_39 : decode b_SH_writeProjected 39 = .ok (.sipush 1000, 3) := by decide +kernel
theorem d_SH_writeProjected_42 : decode b_SH_writeProjected 42 = .ok (.if_icmp .ge 100, 3) := by decide +kernel
theorem d_SH_writeProjected_45 : decode b_SH_writeProjected 45 = .ok (.iload 6, 2) := by decide +kernel
theorem d_SH_writeProjected_47 : decode b_SH_writeProjected 47 = .ok (.iload 5, 2) := by decide +kernel
theorem d_SH_writeProjected_49 : decode b_SH_writeProjected 49 = .ok (.if_icmp .ge 93, 3) := by decide +kernel
theorem d_SH_writeProjected_52 : decode b_SH_writeProjected 52 = .ok (.aload_n 0, 1) := by decide +kernel
theorem d_SH_writeProjected_53 : decode b_SH_writeProjected 53 = .ok (.getfield 9, 3) := by decide +kernel
theorem d_SH_writeProjected_56 : decode b_SH_writeProjected 56 = .ok (.iload 6, 2) := by decide +kernel
theorem d_SH_writeProjected_58 : decode b_SH_writeProjected 58 = .ok (.invokevirtual 64, 3) := by decide +kernel
theorem d_SH_writeProjected_61 : decode b_SH_writeProjected 61 = .ok (.istore 8, 2) := by decide +kernel
theorem d_SH_writeProjected_63 : decode b_SH_writeProjected 63 = .ok (.iload 8, 2) := by decide +kernel
theorem d_SH_writeProjected_65 : decode b_SH_writeProjected 65 = .ok (.invokestatic 61, 3) := by decide +kernel
theorem d_SH_writeProjected_68 : decode b_SH_writeProjected 68 = .ok (.iconst 1, 1) := by decide +kernel
theorem d_SH_writeProjected_69 : decode b_SH_writeProjected 69 = .ok (.isub, 1) := by decide +kernel
theorem d_SH_writeProjected_70 : decode b_SH_writeProjected 70 = .ok (.istore 9, 2) := by decide +kernel
theorem d_SH_writeProjected_72 : decode b_SH_writeProjected 72 = .ok (.aload_n 0, 1) := by decide +kernel
theorem d_SH_writeProjected_73 : decode b_SH_writeProjected 73 = .ok (.iload 8, 2) := by decide +kernel
theorem d_SH_writeProjected_75 : decode b_SH_writeProjected 75 = .ok (.iload 6, 2) := by decide +kernel
theorem d_SH_writeProjected_77 : decode b_SH_writeProjected 77 = .ok (.iconst 1, 1) := by decide +kernel
theorem d_SH_writeProjected_78 : decode b_SH_writeProjected 78 = .ok (.iadd, 1) := by decide +kernel
theorem d_SH_writeProjected_79 : decode b_SH_writeProjected 79 = .ok (.iload 9, 2) := by decide +kernel
theorem d_SH_writeProjected_81 : decode b_SH_writeProjected 81 = .ok (.iload_n 2, 1) := by decide +kernel
theorem d_SH_writeProjected_82 : decode b_SH_writeProjected 82 = .ok (.invokevirtual 87, 3) := by decide +kernel
theorem d_SH_writeProjected_85 : decode b_SH_writeProjected 85 = .ok (.istore 10, 2) := by decide +kernel
theorem d_SH_writeProjected_87 : decode b_SH_writeProjected 87 = .ok (.iload 10, 2) := by decide +kernel
theorem d_SH_writeProjected_89 : decode b_SH_writeProjected 89 = .ok (.ifCond .eq 36, 3) := by decide +kernel
theorem d_SH_writeProjected_92 : decode b_SH_writeProjected 92 = .ok (.aload_n 3, 1) := by decide +kernel
theorem d_SH_writeProjected_93 : decode b_SH_writeProjected 93 = .ok (.iload 10, 2) := by decide +kernel
theorem d_SH_writeProjected_95 : decode b_SH_writeProjected 95 = .ok (.invokestatic 50, 3) := by decide +kernel
theorem d_SH_writeProjected_98 : decode b_SH_writeProjected 98 = .ok (.iload 6, 2) := by decide +kernel
theorem d_SH_writeProjected_100 : decode b_SH_writeProjected 100 = .ok (.iconst 1, 1) := by decide +kernel
theorem d_SH_writeProjected_101 : decode b_SH_writeProjected 101 = .ok (.iadd, 1) := by decide +kernel
theorem d_SH_writeProjected_102 : decode b_SH_writeProjected 102 = .ok (.iload 9, 2) := by decide +kernel
theorem d_SH_writeProjected_104 : decode b_SH_writeProjected 104 = .ok (.invokevirtual 91, 3) := by decide +kernel
theorem d_SH_writeProjected_107 : decode b_SH_writeProjected 107 = .ok (.aload_n 3, 1) := by decide +kernel
theorem d_SH_writeProjected_108 : decode b_SH_writeProjected 108 = .ok (.iload 10, 2) := by decide +kernel
theorem d_SH_writeProjected_110 : decode b_SH_writeProjected 110 = .ok (.invokestatic 61, 3) := by decide +kernel
theorem d_SH_writeProjected_113 : decode b_SH_writeProjected 113 = .ok (.aload_n 0, 1) := by decide +kernel
theorem d_SH_writeProjected_114 : decode b_SH_writeProjected 114 = .ok (.getfield 9, 3) := by decide +kernel
theorem d_SH_writeProjected_117 : decode b_SH_writeProjected 117 = .ok (.iload 10, 2) := by decide +kernel
theorem d_SH_writeProjected_119 : decode b_SH_writeProjected 119 = .ok (.invokevirtual 58, 3) := by decide +kernel
theorem d_SH_writeProjected_122 : decode b_SH_writeProjected 122 = .ok (.invokevirtual 95, 3) := by decide +kernel
theorem d_SH_writeProjected_125 : decode b_SH_writeProjected 125 = .ok (.aload_n 0, 1) := by decide +kernel
theorem d_SH_writeProjected_126 : decode b_SH_writeProjected 126 = .ok (.getfield 9, 3) := by decide +kernel
theorem d_SH_writeProjected_129 : decode b_SH_writeProjected 129 = .ok (.iload 8, 2) := by decide +kernel
theorem d_SH_writeProjected_131 : decode b_SH_writeProjected 131 = .ok (.invokevirtual 58, 3) := by decide +kernel
theorem d_SH_writeProjected_134 : decode b_SH_writeProjected 134 = .ok (.istore 6, 2) := by decide +kernel
theorem d_SH_writeProjected_136 : decode b_SH_writeProjected 136 = .ok (.iinc 7 1, 3) := by decide +kernel
theorem d_SH_writeProjected_139 : decode b_SH_writeProjected 139 = .ok (.goto (-102), 3) := by decide +kernel
theorem d_SH_writeProjected_142 : decode b_SH_writeProjected 142 = .ok (.aload_n 3, 1) := by decide +kernel
theorem d_SH_writeProjected_143 : decode b_SH_writeProjected 143 = .ok (.iload 4, 2) := by decide +kernel
theorem d_SH_writeProjected_145 : decode b_SH_writeProjected 145 = .ok (.invokevirtual 98, 3) := by decide +kernel
theorem d_SH_writeProjected_148 : decode b_SH_writeProjected 148 = .ok (.return_, 1) := by decide +kernel
theorem pl_0 (x : Int32) : 0 ≤ (tw_ST_placeOf x).toInt := by
  unfold tw_ST_placeOf
  exact i_nn (i_ush x 5 (by decide) (by decide))
theorem nm_le (x : Int32) : -1 ≤ (tw_ST_placeOf x - 1).toInt := by
  have h := pl_0 x
  have h2 := pl_le x
  have o : (1 : Int32).toInt = 1 := rfl
  have e : (tw_ST_placeOf x - 1).toInt = (tw_ST_placeOf x).toInt - 1 := i_sub (by omega) (by omega)
  omega
theorem pm_le (x : Int32) : -1 ≤ (tw_ST_placeOf x).toInt := by
  have h := pl_0 x
  omega
/-- what was written is behind the new documents' end -/
def w_en (base cnt : Int32) (sts : Nat → Int32) (place : Int32) (full : Bool) : Prop := full = false → (tw_BE_end base cnt sts).toInt ≤ place.toInt ∧ place.toInt ≤ 202000
theorem w_en_of {base cnt L9 A9 place limit : Int32} {U9 full : Bool} {sts : Nat → Int32} (h : w_okr L9 U9 A9 place limit full) (e : tw_BE_end base cnt sts = A9) : w_en base cnt sts place full := by
  intro q
  obtain ⟨h1, h2, h3⟩ := h.1 q
  rw [e]
  exact ⟨(h.2.2 q).2, by omega⟩
/-! pasted from laws/BITS.to-paste -/
def bt (x : Int32) (i : Nat) : Bool := x.toBitVec.getLsbD i
theorem b_ext {x y : Int32} (h : ∀ i, i < 32 → bt x i = bt y i) : x = y := Int32.toBitVec_inj.mp (BitVec.eq_of_getLsbD_eq (fun i hi => h i hi))
theorem b_or (x y : Int32) (i : Nat) : bt (x ||| y) i = (bt x i || bt y i) := by unfold bt; rw [Int32.toBitVec_or, BitVec.getLsbD_or]
theorem b_and (x y : Int32) (i : Nat) : bt (x &&& y) i = (bt x i && bt y i) := by unfold bt; rw [Int32.toBitVec_and, BitVec.getLsbD_and]
theorem s_l : ∀ n, n < 32 → ((nI n &&& 31).toBitVec.smod 32).toNat = n := by decide +kernel
theorem b_shl (n : Nat) (hn : n < 32) (x : Int32) {i : Nat} (hi : i < 32) : bt (x <<< (nI n &&& 31)) i = (decide (n ≤ i) && bt x (i - n)) := by
  unfold bt
  rw [Int32.toBitVec_shiftLeft]
  show (x.toBitVec <<< ((nI n &&& 31).toBitVec.smod 32).toNat).getLsbD i = _
  rw [s_l n hn, BitVec.getLsbD_shiftLeft]
  rcases Nat.lt_or_ge i n with h | h
  · simp [h, Nat.not_le.mpr h]
  · simp [hi, h, Nat.not_lt.mpr h]
theorem b_shl5 (x : Int32) {i : Nat} (hi : i < 32) : bt (x <<< ((5 : Int32) &&& 31)) i = (decide (5 ≤ i) && bt x (i - 5)) := b_shl 5 (by decide) x hi
theorem bt_31 : ∀ i, i < 32 → bt 31 i = decide (i < 5) := by decide +kernel
theorem bt_3h : ∀ i, i < 32 → ¬ i < 5 → bt 3 i = false := by decide +kernel
theorem kd_ref (x : Int32) : tw_ST_kindOf (tw_ST_ref 3 x) = 3 := by
  unfold tw_ST_kindOf tw_ST_ref
  apply b_ext
  intro i hi
  rw [b_and, b_or, b_shl5 x hi, bt_31 i hi]
  by_cases c : i < 5
  · have e : decide (5 ≤ i) = false := decide_eq_false (by omega)
    rw [e, decide_eq_true c]
    simp
  · rw [bt_3h i hi c, decide_eq_false c]
    simp
theorem kd_doc {fbase fcnt k : Int32} {fsts : Nat → Int32} : tw_ST_kindOf (tw_BS_document fbase fcnt fsts k) = 3 := kd_ref _

abbrev wd_SH_projected (aH aS aY aP aV aPs aPe aPi aPh aPl aPn aB : Nat) (cB cI : ClassId) (plc : Int32) (psr : Int32) (pbs : Int32) (pms : Bool) (pcnt : Int32) (pfix : Bool) (pown : Int32) (vplace : Int32) (vlimit : Int32) (vfull : Bool) (b : Nat → UInt8) (pst : Nat → Int32) (pen : Nat → Int32) (pix : Nat → Int32) : va_W := [(aH, .inr (6, [.ref aS, .ref aY, .ref aP])), (aP, .inr (5, [.ref aS, .ref aV, .ref aPs, .ref aPe, .ref aPi, .ref aPh, .int pcnt, .int (b2i pfix), .int pown, .ref aPl, .ref aPn, .int plc, .int psr, .int pbs, .int (b2i pms)])), (aV, .inr (1, [.ref aS, .int vplace, .int vlimit, .int (b2i vfull)])), (aS, .inr (0, [.ref aB])), (aB, .inl (cB, 202000, .inl (by_ b))), (aPs, .inl (cI, 8, .inl pst)), (aPe, .inl (cI, 8, .inl pen)), (aPi, .inl (cI, 8, .inl pix))]
set_option maxHeartbeats 4000000 in
set_option maxRecDepth 100000 in
theorem c_SH_projected (l : Launch) (D : va_G) (cB cI : ClassId) (aH aS aY aP aV aPs aPe aPi aPh aPl aPn aB : Nat) (plc : Int32) (psr : Int32) (pbs : Int32) (pms : Bool) (sz : Nat) (pcnt : Int32) (pfix : Bool) (pown : Int32) (vplace : Int32) (vlimit : Int32) (vfull : Bool) (b : Nat → UInt8) (pst : Nat → Int32) (pen : Nat → Int32) (pix : Nat → Int32) (p0 : Int32) (p1 : Int32) (p2 : Int32) (p3 : Int32) (hkd : tw_ST_kindOf p3 = 3) : Met l y_SH_projected mw_SH_projected { frames := 86, cells := 0, slots := 0, locals := 2065 } (va_Pc [.ref aH, .int p0, .int p1, .int p2, .int p3] (mt_P D cB cI (wd_SH_projected aH aS aY aP aV aPs aPe aPi aPh aPl aPn aB cB cI plc psr pbs pms pcnt pfix pown vplace vlimit vfull b pst pen pix) sz)) (va_Qi (fun (r : Int32) (u : Int32 × Bool × Int32 × Int32 × Int32 × Bool × (Nat → UInt8) × (Nat → Int32) × (Nat → Int32) × (Nat → Int32)) => (r, u) = tw_SH_projected pcnt pfix pown vplace vlimit vfull b pst pen pix p0 p1 p2 p3) (mt_B D (va_A (wd_SH_projected aH aS aY aP aV aPs aPe aPi aPh aPl aPn aB cB cI plc psr pbs pms pcnt pfix pown vplace vlimit vfull b pst pen pix) sz) (fun u => wd_SH_projected aH aS aY aP aV aPs aPe aPi aPh aPl aPn aB cB cI plc psr pbs pms u.1 u.2.1 u.2.2.1 u.2.2.2.1 u.2.2.2.2.1 u.2.2.2.2.2.1 u.2.2.2.2.2.2.1 u.2.2.2.2.2.2.2.1 u.2.2.2.2.2.2.2.2.1 u.2.2.2.2.2.2.2.2.2)) (va_A (wd_SH_projected aH aS aY aP aV aPs aPe aPi aPh aPl aPn aB cB cI plc psr pbs pms pcnt pfix pown vplace vlimit vfull b pst pen pix) sz)) 0 0 (va_A (wd_SH_projected aH aS aY aP aV aPs aPe aPi aPh aPl aPn aB cB cI plc psr pbs pms pcnt pfix pown vplace vlimit vfull b pst pen pix) sz) := by
  refine Met.ofW (cc := b_SH_projected) (maxL := 5) (ret := (some .int)) (by decide) rfl ?_
  intro p e s m args below meth c s₁ B0 hml hv
  obtain ⟨rfl, hsz, hP, hk, hD0⟩ := hv
  have hK := hk.1
  have hN := hk.2.1
  have hx := B0.exec
  have hb := B0.bytes
  have hr := B0.returns
  have hT : ∀ w ∈ lw_g, w.before _ s = true := fun w h => atoms_spec (ws := mw_SH_projected) B0.pre w (List.mem_cons_of_mem _ h)
  have hown : s.vm.findClass R_SH = some m.cls := findClass_of_methodNamed B0.named
  have hlocks := B0.notSynchronized
  subst hsz
  have hD := hD0.self (sz := s.heap.size)
  generalize hAe : va_A [(aH, .inr (6, [.ref aS, .ref aY, .ref aP])), (aP, .inr (5, [.ref aS, .ref aV, .ref aPs, .ref aPe, .ref aPi, .ref aPh, .int pcnt, .int (b2i pfix), .int pown, .ref aPl, .ref aPn, .int plc, .int psr, .int pbs, .int (b2i pms)])), (aV, .inr (1, [.ref aS, .int vplace, .int vlimit, .int (b2i vfull)])), (aS, .inr (0, [.ref aB])), (aB, .inl (cB, 202000, .inl (by_ b))), (aPs, .inl (cI, 8, .inl pst)), (aPe, .inl (cI, 8, .inl pen)), (aPi, .inl (cI, 8, .inl pix))] s.heap.size = A at hD ⊢
  have hA : ∀ q : Nat, s.heap.size ≤ q → A q := fun q h => by rw [← hAe]; exact Or.inr h
  have hS : va_S A s.heap s.heap [] := va_S.rf
  have hl := lv_entry ([.ref aH, .int p0, .int p1, .int p2, .int p3]) (n := 5) (Nat.le_of_ble_eq_true rfl)
  rw [lg_entry_eq]
  generalize (lg_sl ([.ref aH, .int p0, .int p1, .int p2, .int p3]) ++ List.replicate (5 - (lg_sl ([.ref aH, .int p0, .int p1, .int p2, .int p3])).length) Slot.unset).toArray = ls at hl ⊢
  have hl : lv_has ls 5 [(0, .ref aH), (1, .int p0), (2, .int p1), (3, .int p2), (4, .int p3)] := hl
  refine lv_iload_n hx hb d_SH_projected_0 rfl (lv_at hl 1 rfl) ?_
  refine rd_S (val := tw_ST_kindOf p0) (As := [.int p0]) (rest := []) ⟨hx, hb, hml, hown, hT⟩ (c_ST_kindOf l D cB cI p0) (va_cwS 1 hT (gS_of k_554 k_555 k_2 kc_ST_kindOf) rfl rfl rfl hd_ST_kindOf ⟨Nat.le_of_ble_eq_true rfl, Nat.le_of_ble_eq_true rfl⟩) hk (va_P_nil) rfl hl.1 rfl (Nat.le_of_ble_eq_true rfl) d_SH_projected_1 ⟨Nat.zero_le _, Nat.zero_le _⟩ ?_
  refine lv_bipush (v := 8) hx hb d_SH_projected_4 (by decide) ?_
  refine lv_icmp_ne (tgt := 36) hx hb d_SH_projected_6 (by decide) (fun c_1 => ?_) (fun c_1 => ?_)
  · refine lv_aload_n hx hb d_SH_projected_36 rfl (lv_at hl 0 rfl) ?_
    refine va_get (D := D) (ci := 6) (v := .ref aP) (C := R_SH) (T := T_SH) (N := 3) hx hb hT u_SH hown hK hP 0 rfl rfl 2 (by decide) (hT _ k_198) (fun _ h9 => h9) rfl d_SH_projected_37 ?_
    refine lv_ldc (v := 162000) hx hb hown (hT _ k_615) d_SH_projected_40 ?_
    refine mt_Vv (As := [.int 162000]) (rest := []) (wr := [(aH, .inr (6, [.ref aS, .ref aY, .ref aP])), (aS, .inr (0, [.ref aB])), (aB, .inl (cB, 202000, .inl (by_ b))), (aPs, .inl (cI, 8, .inl pst)), (aPe, .inl (cI, 8, .inl pen)), (aPi, .inl (cI, 8, .inl pix))]) ⟨hx, hb, hml, hown, hT⟩ (c_PA_makeRowsAt l D cB cI aP aS aV aPs aPe aPi aPh aPl aPn pcnt pfix pown plc psr pbs pms _ vplace vlimit vfull 162000 (by decide)) (cwV 1 hT (gV_of k_616 k_617 k_618 k_7 kc_PA_makeRowsAt) rfl rfl rfl hd_PA_makeRowsAt ⟨Nat.le_of_ble_eq_true rfl, Nat.le_of_ble_eq_true rfl⟩) hk hP hD hS hA [1, 2] [0, 3, 4, 5, 6, 7] rfl rfl rfl (by decide) (by decide) (by decide) (q0 := 0) rfl rfl rfl rfl hl.1 rfl (Nat.le_of_ble_eq_true rfl) d_SH_projected_42 ⟨Nat.zero_le _, Nat.zero_le _⟩ (fun u_2 H locs hw_2 hP hD hS => ?_)
    obtain ⟨vplace_2, vlimit_2, vfull_2⟩ := u_2
    obtain ⟨hw_2, hi_2⟩ := hw_2
    have hP : va_P D vwCl [(aH, .inr (6, [.ref aS, .ref aY, .ref aP])), (aP, .inr (5, [.ref aS, .ref aV, .ref aPs, .ref aPe, .ref aPi, .ref aPh, .int pcnt, .int (b2i pfix), .int pown, .ref aPl, .ref aPn, .int plc, .int psr, .int pbs, .int (b2i pms)])), (aV, .inr (1, [.ref aS, .int vplace_2, .int vlimit_2, .int (b2i vfull_2)])), (aS, .inr (0, [.ref aB])), (aB, .inl (cB, 202000, .inl (by_ b))), (aPs, .inl (cI, 8, .inl pst)), (aPe, .inl (cI, 8, .inl pen)), (aPi, .inl (cI, 8, .inl pix))] H := hP.sub [0, 6, 7, 1, 2, 3, 4, 5] rfl
    have hD : va_D A [(aH, .inr (6, [.ref aS, .ref aY, .ref aP])), (aP, .inr (5, [.ref aS, .ref aV, .ref aPs, .ref aPe, .ref aPi, .ref aPh, .int pcnt, .int (b2i pfix), .int pown, .ref aPl, .ref aPn, .int plc, .int psr, .int pbs, .int (b2i pms)])), (aV, .inr (1, [.ref aS, .int vplace_2, .int vlimit_2, .int (b2i vfull_2)])), (aS, .inr (0, [.ref aB])), (aB, .inl (cB, 202000, .inl (by_ b))), (aPs, .inl (cI, 8, .inl pst)), (aPe, .inl (cI, 8, .inl pen)), (aPi, .inl (cI, 8, .inl pix))] := hD.sub [0, 6, 7, 1, 2, 3, 4, 5] (by decide) rfl
    refine lv_aload_n hx hb d_SH_projected_45 rfl (lv_at hl 0 rfl) ?_
    refine va_get (D := D) (ci := 6) (v := .ref aP) (C := R_SH) (T := T_SH) (N := 3) hx hb hT u_SH hown hK hP 0 rfl rfl 2 (by decide) (hT _ k_198) (fun _ h9 => h9) rfl d_SH_projected_46 ?_
    refine lv_iload_n hx hb d_SH_projected_49 rfl (lv_at hl 1 rfl) ?_
    refine mt_Vi (As := [.int p0]) (rest := []) (wr := [(aH, .inr (6, [.ref aS, .ref aY, .ref aP])), (aV, .inr (1, [.ref aS, .int vplace_2, .int vlimit_2, .int (b2i vfull_2)]))]) ⟨hx, hb, hml, hown, hT⟩ (c_PA_readExpression l D cB cI aP aS aV aPs aPe aPi aPh aPl aPn aB plc psr pbs pms b _ pcnt pfix pown pst pen pix p0) (cwV 1 hT (gV_of k_565 k_566 k_567 k_7 kc_PA_readExpression) rfl rfl rfl hd_PA_readExpression ⟨Nat.le_of_ble_eq_true rfl, Nat.le_of_ble_eq_true rfl⟩) hk hP hD hS hA [1, 3, 4, 5, 6, 7] [0, 2] rfl rfl rfl (by decide) (by decide) (by decide) (q0 := 0) rfl rfl rfl rfl hl.1 rfl (Nat.le_of_ble_eq_true rfl) d_SH_projected_50 ⟨Nat.zero_le _, Nat.zero_le _⟩ (fun r_3 u_3 H locs hw_3 hP hD hS => ?_)
    obtain ⟨pcnt_3, pfix_3, pown_3, pst_3, pen_3, pix_3⟩ := u_3
    obtain ⟨r_3, rfl, hw_3⟩ := hw_3
    have hP : va_P D vwCl [(aH, .inr (6, [.ref aS, .ref aY, .ref aP])), (aP, .inr (5, [.ref aS, .ref aV, .ref aPs, .ref aPe, .ref aPi, .ref aPh, .int pcnt_3, .int (b2i pfix_3), .int pown_3, .ref aPl, .ref aPn, .int plc, .int psr, .int pbs, .int (b2i pms)])), (aV, .inr (1, [.ref aS, .int vplace_2, .int vlimit_2, .int (b2i vfull_2)])), (aS, .inr (0, [.ref aB])), (aB, .inl (cB, 202000, .inl (by_ b))), (aPs, .inl (cI, 8, .inl pst_3)), (aPe, .inl (cI, 8, .inl pen_3)), (aPi, .inl (cI, 8, .inl pix_3))] H := hP.sub [0, 2, 1, 3, 4, 5, 6, 7] rfl
    have hD : va_D A [(aH, .inr (6, [.ref aS, .ref aY, .ref aP])), (aP, .inr (5, [.ref aS, .ref aV, .ref aPs, .ref aPe, .ref aPi, .ref aPh, .int pcnt_3, .int (b2i pfix_3), .int pown_3, .ref aPl, .ref aPn, .int plc, .int psr, .int pbs, .int (b2i pms)])), (aV, .inr (1, [.ref aS, .int vplace_2, .int vlimit_2, .int (b2i vfull_2)])), (aS, .inr (0, [.ref aB])), (aB, .inl (cB, 202000, .inl (by_ b))), (aPs, .inl (cI, 8, .inl pst_3)), (aPe, .inl (cI, 8, .inl pen_3)), (aPi, .inl (cI, 8, .inl pix_3))] := hD.sub [0, 2, 1, 3, 4, 5, 6, 7] (by decide) rfl
    refine lv_if_eq (tgt := 69) hx hb d_SH_projected_53 (by decide) (fun c_4 => ?_) (fun c_4 => ?_)
    · refine lv_iconst (v := 0) hx hb d_SH_projected_69 (by decide) ?_
      exact W.iret (v := 0) hx hb hr (fun t ht hW => ⟨⟨0, (pcnt_3, pfix_3, pown_3, vplace_2, vlimit_2, vfull_2, b, pst_3, pen_3, pix_3), rfl, (by rw [tw_SH_projected, if_neg c_1, ← hw_2, tp3_mk, ← hw_3, tp7_mk, if_pos c_4]; first | done | rfl), by rw [ht]; exact hP, hD⟩, hS.F ht⟩) hS.2.2 d_SH_projected_70
    · refine lv_aload_n hx hb d_SH_projected_56 rfl (lv_at hl 0 rfl) ?_
      refine va_get (D := D) (ci := 6) (v := .ref aP) (C := R_SH) (T := T_SH) (N := 3) hx hb hT u_SH hown hK hP 0 rfl rfl 2 (by decide) (hT _ k_198) (fun _ h9 => h9) rfl d_SH_projected_57 ?_
      refine lv_iload hx hb d_SH_projected_60 (lv_at hl 4 rfl) ?_
      refine lv_iconst (v := 0) hx hb d_SH_projected_62 (by decide) ?_
      refine mt_Vi (As := [.int p3, .int 0]) (rest := []) (wr := [(aH, .inr (6, [.ref aS, .ref aY, .ref aP])), (aPi, .inl (cI, 8, .inl pix_3))]) ⟨hx, hb, hml, hown, hT⟩ (c_PA_val0 l D cB cI aP aS aV aPs aPe aPi aPh aPl aPn aB vlimit_2 vfull_2 vplace_2 pcnt_3 pfix_3 pown_3 plc psr pbs pms pst_3 pen_3 _ vplace_2 vlimit_2 vfull_2 b p3 hkd (w_r hi_2)) (cwV 2 hT (gV_of k_622 k_623 k_624 k_7 kc_PA_value) rfl rfl rfl hd_PA_value ⟨Nat.le_of_ble_eq_true rfl, Nat.le_of_ble_eq_true rfl⟩) hk hP hD hS hA [1, 2, 3, 4, 5, 6] [0, 7] rfl rfl rfl (by decide) (by decide) (by decide) (q0 := 0) rfl rfl rfl rfl hl.1 rfl (Nat.le_of_ble_eq_true rfl) d_SH_projected_63 ⟨Nat.zero_le _, Nat.zero_le _⟩ (fun r_5 u_5 H locs hw_5 hP hD hS => ?_)
      obtain ⟨vplace_5, vlimit_5, vfull_5, b_5⟩ := u_5
      obtain ⟨hw_5, hi_5⟩ := hw_5
      have hP : va_P D vwCl [(aH, .inr (6, [.ref aS, .ref aY, .ref aP])), (aP, .inr (5, [.ref aS, .ref aV, .ref aPs, .ref aPe, .ref aPi, .ref aPh, .int pcnt_3, .int (b2i pfix_3), .int pown_3, .ref aPl, .ref aPn, .int plc, .int psr, .int pbs, .int (b2i pms)])), (aV, .inr (1, [.ref aS, .int vplace_5, .int vlimit_5, .int (b2i vfull_5)])), (aS, .inr (0, [.ref aB])), (aB, .inl (cB, 202000, .inl (by_ b_5))), (aPs, .inl (cI, 8, .inl pst_3)), (aPe, .inl (cI, 8, .inl pen_3)), (aPi, .inl (cI, 8, .inl pix_3))] H := hP.sub [0, 2, 3, 4, 5, 6, 7, 1] rfl
      have hD : va_D A [(aH, .inr (6, [.ref aS, .ref aY, .ref aP])), (aP, .inr (5, [.ref aS, .ref aV, .ref aPs, .ref aPe, .ref aPi, .ref aPh, .int pcnt_3, .int (b2i pfix_3), .int pown_3, .ref aPl, .ref aPn, .int plc, .int psr, .int pbs, .int (b2i pms)])), (aV, .inr (1, [.ref aS, .int vplace_5, .int vlimit_5, .int (b2i vfull_5)])), (aS, .inr (0, [.ref aB])), (aB, .inl (cB, 202000, .inl (by_ b_5))), (aPs, .inl (cI, 8, .inl pst_3)), (aPe, .inl (cI, 8, .inl pen_3)), (aPi, .inl (cI, 8, .inl pix_3))] := hD.sub [0, 2, 3, 4, 5, 6, 7, 1] (by decide) rfl
      refine lv_goto (tgt := 70) hx hb d_SH_projected_66 (by decide) ?_
      exact W.iret (v := r_5) hx hb hr (fun t ht hW => ⟨⟨r_5, (pcnt_3, pfix_3, pown_3, vplace_5, vlimit_5, vfull_5, b_5, pst_3, pen_3, pix_3), rfl, (by rw [tw_SH_projected, if_neg c_1, ← hw_2, tp3_mk, ← hw_3, tp7_mk, if_neg c_4, ← hw_5, tp5_mk]; first | done | rfl), by rw [ht]; exact hP, hD⟩, hS.F ht⟩) hS.2.2 d_SH_projected_70
  · refine lv_aload_n hx hb d_SH_projected_9 rfl (lv_at hl 0 rfl) ?_
    refine va_get (D := D) (ci := 6) (v := .ref aS) (C := R_SH) (T := T_SH) (N := 3) hx hb hT u_SH hown hK hP 0 rfl rfl 0 (by decide) (hT _ k_196) (fun _ h9 => h9) rfl d_SH_projected_10 ?_
    refine lv_iload_n hx hb d_SH_projected_13 rfl (lv_at hl 1 rfl) ?_
    refine rd_S (val := tw_ST_placeOf p0) (As := [.int p0]) (rest := [.ref aS]) ⟨hx, hb, hml, hown, hT⟩ (c_ST_placeOf l D cB cI p0) (va_cwS 1 hT (gS_of k_559 k_403 k_2 kc_ST_placeOf) rfl rfl rfl hd_ST_placeOf ⟨Nat.le_of_ble_eq_true rfl, Nat.le_of_ble_eq_true rfl⟩) hk (va_P_nil) rfl hl.1 rfl (Nat.le_of_ble_eq_true rfl) d_SH_projected_14 ⟨Nat.zero_le _, Nat.zero_le _⟩ ?_
    refine rd_V (val := tw_ST_at b (tw_ST_placeOf p0)) (As := [.int (tw_ST_placeOf p0)]) (rest := []) ⟨hx, hb, hml, hown, hT⟩ (c_ST_at l D cB cI aS aB b (tw_ST_placeOf p0)) (cwV 1 hT (gV_of k_609 k_378 k_379 k_2 kc_ST_at) rfl rfl rfl hd_ST_at ⟨Nat.le_of_ble_eq_true rfl, Nat.le_of_ble_eq_true rfl⟩) hk (hP.sub (ws' := [(aS, .inr (0, [.ref aB])), (aB, .inl (cB, 202000, .inl (by_ b)))]) [3, 4] rfl) (q0 := 0) rfl rfl rfl rfl hl.1 rfl (Nat.le_of_ble_eq_true rfl) d_SH_projected_17 ⟨Nat.zero_le _, Nat.zero_le _⟩ ?_
    refine lv_iconst (v := 1) hx hb d_SH_projected_20 (by decide) ?_
    refine lv_icmp_ne (tgt := 36) hx hb d_SH_projected_21 (by decide) (fun c_6 => ?_) (fun c_6 => ?_)
    · refine lv_aload_n hx hb d_SH_projected_36 rfl (lv_at hl 0 rfl) ?_
      refine va_get (D := D) (ci := 6) (v := .ref aP) (C := R_SH) (T := T_SH) (N := 3) hx hb hT u_SH hown hK hP 0 rfl rfl 2 (by decide) (hT _ k_198) (fun _ h9 => h9) rfl d_SH_projected_37 ?_
      refine lv_ldc (v := 162000) hx hb hown (hT _ k_615) d_SH_projected_40 ?_
      refine mt_Vv (As := [.int 162000]) (rest := []) (wr := [(aH, .inr (6, [.ref aS, .ref aY, .ref aP])), (aS, .inr (0, [.ref aB])), (aB, .inl (cB, 202000, .inl (by_ b))), (aPs, .inl (cI, 8, .inl pst)), (aPe, .inl (cI, 8, .inl pen)), (aPi, .inl (cI, 8, .inl pix))]) ⟨hx, hb, hml, hown, hT⟩ (c_PA_makeRowsAt l D cB cI aP aS aV aPs aPe aPi aPh aPl aPn pcnt pfix pown plc psr pbs pms _ vplace vlimit vfull 162000 (by decide)) (cwV 1 hT (gV_of k_616 k_617 k_618 k_7 kc_PA_makeRowsAt) rfl rfl rfl hd_PA_makeRowsAt ⟨Nat.le_of_ble_eq_true rfl, Nat.le_of_ble_eq_true rfl⟩) hk hP hD hS hA [1, 2] [0, 3, 4, 5, 6, 7] rfl rfl rfl (by decide) (by decide) (by decide) (q0 := 0) rfl rfl rfl rfl hl.1 rfl (Nat.le_of_ble_eq_true rfl) d_SH_projected_42 ⟨Nat.zero_le _, Nat.zero_le _⟩ (fun u_7 H locs hw_7 hP hD hS => ?_)
      obtain ⟨vplace_7, vlimit_7, vfull_7⟩ := u_7
      obtain ⟨hw_7, hi_7⟩ := hw_7
      have hP : va_P D vwCl [(aH, .inr (6, [.ref aS, .ref aY, .ref aP])), (aP, .inr (5, [.ref aS, .ref aV, .ref aPs, .ref aPe, .ref aPi, .ref aPh, .int pcnt, .int (b2i pfix), .int pown, .ref aPl, .ref aPn, .int plc, .int psr, .int pbs, .int (b2i pms)])), (aV, .inr (1, [.ref aS, .int vplace_7, .int vlimit_7, .int (b2i vfull_7)])), (aS, .inr (0, [.ref aB])), (aB, .inl (cB, 202000, .inl (by_ b))), (aPs, .inl (cI, 8, .inl pst)), (aPe, .inl (cI, 8, .inl pen)), (aPi, .inl (cI, 8, .inl pix))] H := hP.sub [0, 6, 7, 1, 2, 3, 4, 5] rfl
      have hD : va_D A [(aH, .inr (6, [.ref aS, .ref aY, .ref aP])), (aP, .inr (5, [.ref aS, .ref aV, .ref aPs, .ref aPe, .ref aPi, .ref aPh, .int pcnt, .int (b2i pfix), .int pown, .ref aPl, .ref aPn, .int plc, .int psr, .int pbs, .int (b2i pms)])), (aV, .inr (1, [.ref aS, .int vplace_7, .int vlimit_7, .int (b2i vfull_7)])), (aS, .inr (0, [.ref aB])), (aB, .inl (cB, 202000, .inl (by_ b))), (aPs, .inl (cI, 8, .inl pst)), (aPe, .inl (cI, 8, .inl pen)), (aPi, .inl (cI, 8, .inl pix))] := hD.sub [0, 6, 7, 1, 2, 3, 4, 5] (by decide) rfl
      refine lv_aload_n hx hb d_SH_projected_45 rfl (lv_at hl 0 rfl) ?_
      refine va_get (D := D) (ci := 6) (v := .ref aP) (C := R_SH) (T := T_SH) (N := 3) hx hb hT u_SH hown hK hP 0 rfl rfl 2 (by decide) (hT _ k_198) (fun _ h9 => h9) rfl d_SH_projected_46 ?_
      refine lv_iload_n hx hb d_SH_projected_49 rfl (lv_at hl 1 rfl) ?_
      refine mt_Vi (As := [.int p0]) (rest := []) (wr := [(aH, .inr (6, [.ref aS, .ref aY, .ref aP])), (aV, .inr (1, [.ref aS, .int vplace_7, .int vlimit_7, .int (b2i vfull_7)]))]) ⟨hx, hb, hml, hown, hT⟩ (c_PA_readExpression l D cB cI aP aS aV aPs aPe aPi aPh aPl aPn aB plc psr pbs pms b _ pcnt pfix pown pst pen pix p0) (cwV 1 hT (gV_of k_565 k_566 k_567 k_7 kc_PA_readExpression) rfl rfl rfl hd_PA_readExpression ⟨Nat.le_of_ble_eq_true rfl, Nat.le_of_ble_eq_true rfl⟩) hk hP hD hS hA [1, 3, 4, 5, 6, 7] [0, 2] rfl rfl rfl (by decide) (by decide) (by decide) (q0 := 0) rfl rfl rfl rfl hl.1 rfl (Nat.le_of_ble_eq_true rfl) d_SH_projected_50 ⟨Nat.zero_le _, Nat.zero_le _⟩ (fun r_8 u_8 H locs hw_8 hP hD hS => ?_)
      obtain ⟨pcnt_8, pfix_8, pown_8, pst_8, pen_8, pix_8⟩ := u_8
      obtain ⟨r_8, rfl, hw_8⟩ := hw_8
      have hP : va_P D vwCl [(aH, .inr (6, [.ref aS, .ref aY, .ref aP])), (aP, .inr (5, [.ref aS, .ref aV, .ref aPs, .ref aPe, .ref aPi, .ref aPh, .int pcnt_8, .int (b2i pfix_8), .int pown_8, .ref aPl, .ref aPn, .int plc, .int psr, .int pbs, .int (b2i pms)])), (aV, .inr (1, [.ref aS, .int vplace_7, .int vlimit_7, .int (b2i vfull_7)])), (aS, .inr (0, [.ref aB])), (aB, .inl (cB, 202000, .inl (by_ b))), (aPs, .inl (cI, 8, .inl pst_8)), (aPe, .inl (cI, 8, .inl pen_8)), (aPi, .inl (cI, 8, .inl pix_8))] H := hP.sub [0, 2, 1, 3, 4, 5, 6, 7] rfl
      have hD : va_D A [(aH, .inr (6, [.ref aS, .ref aY, .ref aP])), (aP, .inr (5, [.ref aS, .ref aV, .ref aPs, .ref aPe, .ref aPi, .ref aPh, .int pcnt_8, .int (b2i pfix_8), .int pown_8, .ref aPl, .ref aPn, .int plc, .int psr, .int pbs, .int (b2i pms)])), (aV, .inr (1, [.ref aS, .int vplace_7, .int vlimit_7, .int (b2i vfull_7)])), (aS, .inr (0, [.ref aB])), (aB, .inl (cB, 202000, .inl (by_ b))), (aPs, .inl (cI, 8, .inl pst_8)), (aPe, .inl (cI, 8, .inl pen_8)), (aPi, .inl (cI, 8, .inl pix_8))] := hD.sub [0, 2, 1, 3, 4, 5, 6, 7] (by decide) rfl
      refine lv_if_eq (tgt := 69) hx hb d_SH_projected_53 (by decide) (fun c_9 => ?_) (fun c_9 => ?_)
      · refine lv_iconst (v := 0) hx hb d_SH_projected_69 (by decide) ?_
        exact W.iret (v := 0) hx hb hr (fun t ht hW => ⟨⟨0, (pcnt_8, pfix_8, pown_8, vplace_7, vlimit_7, vfull_7, b, pst_8, pen_8, pix_8), rfl, (by rw [tw_SH_projected, if_pos c_1, if_neg c_6, ← hw_7, tp3_mk, ← hw_8, tp7_mk, if_pos c_9]; first | done | rfl), by rw [ht]; exact hP, hD⟩, hS.F ht⟩) hS.2.2 d_SH_projected_70
      · refine lv_aload_n hx hb d_SH_projected_56 rfl (lv_at hl 0 rfl) ?_
        refine va_get (D := D) (ci := 6) (v := .ref aP) (C := R_SH) (T := T_SH) (N := 3) hx hb hT u_SH hown hK hP 0 rfl rfl 2 (by decide) (hT _ k_198) (fun _ h9 => h9) rfl d_SH_projected_57 ?_
        refine lv_iload hx hb d_SH_projected_60 (lv_at hl 4 rfl) ?_
        refine lv_iconst (v := 0) hx hb d_SH_projected_62 (by decide) ?_
        refine mt_Vi (As := [.int p3, .int 0]) (rest := []) (wr := [(aH, .inr (6, [.ref aS, .ref aY, .ref aP])), (aPi, .inl (cI, 8, .inl pix_8))]) ⟨hx, hb, hml, hown, hT⟩ (c_PA_val0 l D cB cI aP aS aV aPs aPe aPi aPh aPl aPn aB vlimit_7 vfull_7 vplace_7 pcnt_8 pfix_8 pown_8 plc psr pbs pms pst_8 pen_8 _ vplace_7 vlimit_7 vfull_7 b p3 hkd (w_r hi_7)) (cwV 2 hT (gV_of k_622 k_623 k_624 k_7 kc_PA_value) rfl rfl rfl hd_PA_value ⟨Nat.le_of_ble_eq_true rfl, Nat.le_of_ble_eq_true rfl⟩) hk hP hD hS hA [1, 2, 3, 4, 5, 6] [0, 7] rfl rfl rfl (by decide) (by decide) (by decide) (q0 := 0) rfl rfl rfl rfl hl.1 rfl (Nat.le_of_ble_eq_true rfl) d_SH_projected_63 ⟨Nat.zero_le _, Nat.zero_le _⟩ (fun r_10 u_10 H locs hw_10 hP hD hS => ?_)
        obtain ⟨vplace_10, vlimit_10, vfull_10, b_10⟩ := u_10
        obtain ⟨hw_10, hi_10⟩ := hw_10
        have hP : va_P D vwCl [(aH, .inr (6, [.ref aS, .ref aY, .ref aP])), (aP, .inr (5, [.ref aS, .ref aV, .ref aPs, .ref aPe, .ref aPi, .ref aPh, .int pcnt_8, .int (b2i pfix_8), .int pown_8, .ref aPl, .ref aPn, .int plc, .int psr, .int pbs, .int (b2i pms)])), (aV, .inr (1, [.ref aS, .int vplace_10, .int vlimit_10, .int (b2i vfull_10)])), (aS, .inr (0, [.ref aB])), (aB, .inl (cB, 202000, .inl (by_ b_10))), (aPs, .inl (cI, 8, .inl pst_8)), (aPe, .inl (cI, 8, .inl pen_8)), (aPi, .inl (cI, 8, .inl pix_8))] H := hP.sub [0, 2, 3, 4, 5, 6, 7, 1] rfl
        have hD : va_D A [(aH, .inr (6, [.ref aS, .ref aY, .ref aP])), (aP, .inr (5, [.ref aS, .ref aV, .ref aPs, .ref aPe, .ref aPi, .ref aPh, .int pcnt_8, .int (b2i pfix_8), .int pown_8, .ref aPl, .ref aPn, .int plc, .int psr, .int pbs, .int (b2i pms)])), (aV, .inr (1, [.ref aS, .int vplace_10, .int vlimit_10, .int (b2i vfull_10)])), (aS, .inr (0, [.ref aB])), (aB, .inl (cB, 202000, .inl (by_ b_10))), (aPs, .inl (cI, 8, .inl pst_8)), (aPe, .inl (cI, 8, .inl pen_8)), (aPi, .inl (cI, 8, .inl pix_8))] := hD.sub [0, 2, 3, 4, 5, 6, 7, 1] (by decide) rfl
        refine lv_goto (tgt := 70) hx hb d_SH_projected_66 (by decide) ?_
        exact W.iret (v := r_10) hx hb hr (fun t ht hW => ⟨⟨r_10, (pcnt_8, pfix_8, pown_8, vplace_10, vlimit_10, vfull_10, b_10, pst_8, pen_8, pix_8), rfl, (by rw [tw_SH_projected, if_pos c_1, if_neg c_6, ← hw_7, tp3_mk, ← hw_8, tp7_mk, if_neg c_9, ← hw_10, tp5_mk]; first | done | rfl), by rw [ht]; exact hP, hD⟩, hS.F ht⟩) hS.2.2 d_SH_projected_70
    · refine lv_aload_n hx hb d_SH_projected_24 rfl (lv_at hl 0 rfl) ?_
      refine va_get (D := D) (ci := 6) (v := .ref aS) (C := R_SH) (T := T_SH) (N := 3) hx hb hT u_SH hown hK hP 0 rfl rfl 0 (by decide) (hT _ k_196) (fun _ h9 => h9) rfl d_SH_projected_25 ?_
      refine lv_iload hx hb d_SH_projected_28 (lv_at hl 4 rfl) ?_
      refine lv_iload_n hx hb d_SH_projected_30 rfl (lv_at hl 2 rfl) ?_
      refine lv_iload_n hx hb d_SH_projected_31 rfl (lv_at hl 3 rfl) ?_
      refine rd_V (val := tw_ST_find b p3 p1 p2) (As := [.int p3, .int p1, .int p2]) (rest := []) ⟨hx, hb, hml, hown, hT⟩ (c_ST_find l D cB cI aS aB b p3 p1 p2) (cwV 3 hT (gV_of k_610 k_611 k_612 k_2 kc_ST_find) rfl rfl rfl hd_ST_find ⟨Nat.le_of_ble_eq_true rfl, Nat.le_of_ble_eq_true rfl⟩) hk (hP.sub (ws' := [(aS, .inr (0, [.ref aB])), (aB, .inl (cB, 202000, .inl (by_ b)))]) [3, 4] rfl) (q0 := 0) rfl rfl rfl rfl hl.1 rfl (Nat.le_of_ble_eq_true rfl) d_SH_projected_32 ⟨Nat.zero_le _, Nat.zero_le _⟩ ?_
      exact W.iret (v := tw_ST_find b p3 p1 p2) hx hb hr (fun t ht hW => ⟨⟨tw_ST_find b p3 p1 p2, (pcnt, pfix, pown, vplace, vlimit, vfull, b, pst, pen, pix), rfl, (by rw [tw_SH_projected, if_pos c_1, if_pos c_6]; first | done | rfl), by rw [ht]; exact hP, hD⟩, hS.F ht⟩) hS.2.2 d_SH_projected_35
abbrev wd_SH_faultOfProject (aH aS aY aP aB aV aPs aPe aPi aPh aPl aPn : Nat) (cB cI : ClassId) (b : Nat → UInt8) (plc : Int32) (psr : Int32) (pbs : Int32) (pms : Bool) (pcnt : Int32) (pfix : Bool) (pown : Int32) (pst : Nat → Int32) (pen : Nat → Int32) (pix : Nat → Int32) : va_W := [(aH, .inr (6, [.ref aS, .ref aY, .ref aP])), (aS, .inr (0, [.ref aB])), (aB, .inl (cB, 202000, .inl (by_ b))), (aP, .inr (5, [.ref aS, .ref aV, .ref aPs, .ref aPe, .ref aPi, .ref aPh, .int pcnt, .int (b2i pfix), .int pown, .ref aPl, .ref aPn, .int plc, .int psr, .int pbs, .int (b2i pms)])), (aPs, .inl (cI, 8, .inl pst)), (aPe, .inl (cI, 8, .inl pen)), (aPi, .inl (cI, 8, .inl pix))]
set_option maxHeartbeats 4000000 in
set_option maxRecDepth 100000 in
theorem l_SH_faultOfProject_h43 {p : Program} {e : Env} {s : State} {m : MethodId} {args : Array Value} {below : List Frame} {meth : Method} {c : Code} {V : Int32 × Int32 × Bool × Int32 × (Nat → Int32) × (Nat → Int32) × (Nat → Int32)} (C0 : lc_C p s m meth c args b_SH_faultOfProject 6 (some .int) R_SH lw_g) (l : Launch) (D : va_G) (cB cI : ClassId) (aH aS aY aP aB aV aPs aPe aPi aPh aPl aPn : Nat) (b : Nat → UInt8) (plc : Int32) (psr : Int32) (pbs : Int32) (pms : Bool) {A : Nat → Prop} (hk : hk_ D cB cI s) (hA : ∀ q : Nat, s.heap.size ≤ q → A q) (x2 : Int32) : ∀ (n : Nat) (x3 : Int32) (x4 : Int32) (pcnt : Int32) (pfix : Bool) (pown : Int32) (pst : Nat → Int32) (pen : Nat → Int32) (pix : Nat → Int32), ((1000 : Int32).toInt - x4.toInt).toNat < n → V = tw_SH_faultOfProject_h43 b x2 n x3 x4 pcnt pfix pown pst pen pix → ∀ (H : Heap) (locs : List Loc), va_P D vwCl [(aH, .inr (6, [.ref aS, .ref aY, .ref aP])), (aS, .inr (0, [.ref aB])), (aB, .inl (cB, 202000, .inl (by_ b))), (aP, .inr (5, [.ref aS, .ref aV, .ref aPs, .ref aPe, .ref aPi, .ref aPh, .int pcnt, .int (b2i pfix), .int pown, .ref aPl, .ref aPn, .int plc, .int psr, .int pbs, .int (b2i pms)])), (aPs, .inl (cI, 8, .inl pst)), (aPe, .inl (cI, 8, .inl pen)), (aPi, .inl (cI, 8, .inl pix))] H → va_D A [(aH, .inr (6, [.ref aS, .ref aY, .ref aP])), (aS, .inr (0, [.ref aB])), (aB, .inl (cB, 202000, .inl (by_ b))), (aP, .inr (5, [.ref aS, .ref aV, .ref aPs, .ref aPe, .ref aPi, .ref aPh, .int pcnt, .int (b2i pfix), .int pown, .ref aPl, .ref aPn, .int plc, .int psr, .int pbs, .int (b2i pms)])), (aPs, .inl (cI, 8, .inl pst)), (aPe, .inl (cI, 8, .inl pen)), (aPi, .inl (cI, 8, .inl pix))] → va_S A s.heap H locs → ∀ ls : Array Slot, lv_has ls 6 [(0, .ref aH), (2, .int x2), (3, .int x3), (4, .int x4)] → W p l e ({ frames := 4, cells := 0, slots := 0, locals := 93 }) s m args below meth c H locs 0 0 (MQ below (va_Qi (fun (r : Int32) (u : Int32 × Bool × Int32 × (Nat → Int32) × (Nat → Int32) × (Nat → Int32)) => (r, u) = V) (mt_B D A (fun u => wd_SH_faultOfProject aH aS aY aP aB aV aPs aPe aPi aPh aPl aPn cB cI b plc psr pbs pms u.1 u.2.1 u.2.2.1 u.2.2.2.1 u.2.2.2.2.1 u.2.2.2.2.2)) A) args s 0 0 A) (F0 m 43 ls []) := by
  obtain ⟨hx, hb, hml, hr, hown, hlocks, hT⟩ := id C0
  have hK := hk.1
  have hN := hk.2.1
  intro n
  induction n with
  | zero =>
    intro x3 x4 pcnt pfix pown pst pen pix hm
    exact absurd hm (Nat.not_lt_zero _)
  | succ n ih =>
    intro x3 x4 pcnt pfix pown pst pen pix hm hV H locs hP hD hS ls hl
    refine lv_iload hx hb d_SH_faultOfProject_43 (lv_at hl 3 rfl) ?_
    refine lv_sipush (v := 1000) hx hb d_SH_faultOfProject_45 (by decide) ?_
    refine lv_icmp_ge (tgt := 118) hx hb d_SH_faultOfProject_48 (by decide) (fun c_3 => ?_) (fun c_3 => ?_)
    · refine lv_iconst (v := 0) hx hb d_SH_faultOfProject_118 (by decide) ?_
      exact W.iret (v := 0) hx hb hr (fun t ht hW => ⟨⟨0, (pcnt, pfix, pown, pst, pen, pix), rfl, (by rw [hV, tw_SH_faultOfProject_h43, if_pos c_3]; first | done | rfl), by rw [ht]; exact hP, hD⟩, hS.F ht⟩) hS.2.2 d_SH_faultOfProject_119
    · refine lv_iload_n hx hb d_SH_faultOfProject_51 rfl (lv_at hl 2 rfl) ?_
      refine lv_iload_n hx hb d_SH_faultOfProject_52 rfl (lv_at hl 1 rfl) ?_
      refine lv_icmp_ge (tgt := 118) hx hb d_SH_faultOfProject_53 (by decide) (fun c_4 => ?_) (fun c_4 => ?_)
      · refine lv_iconst (v := 0) hx hb d_SH_faultOfProject_118 (by decide) ?_
        exact W.iret (v := 0) hx hb hr (fun t ht hW => ⟨⟨0, (pcnt, pfix, pown, pst, pen, pix), rfl, (by rw [hV, tw_SH_faultOfProject_h43, if_neg c_3, if_pos c_4]; first | done | rfl), by rw [ht]; exact hP, hD⟩, hS.F ht⟩) hS.2.2 d_SH_faultOfProject_119
      · refine lv_aload_n hx hb d_SH_faultOfProject_56 rfl (lv_at hl 0 rfl) ?_
        refine va_get (D := D) (ci := 6) (v := .ref aS) (C := R_SH) (T := T_SH) (N := 3) hx hb hT u_SH hown hK hP 0 rfl rfl 0 (by decide) (hT _ k_196) (fun _ h9 => h9) rfl d_SH_faultOfProject_57 ?_
        refine lv_iload_n hx hb d_SH_faultOfProject_60 rfl (lv_at hl 2 rfl) ?_
        refine rd_V (val := tw_ST_valueOf b x3) (As := [.int x3]) (rest := []) ⟨hx, hb, hml, hown, hT⟩ (c_ST_valueOf l D cB cI aS aB b x3) (cwV 1 hT (gV_of k_560 k_399 k_400 k_2 kc_ST_valueOf) rfl rfl rfl hd_ST_valueOf ⟨Nat.le_of_ble_eq_true rfl, Nat.le_of_ble_eq_true rfl⟩) hk (hP.sub (ws' := [(aS, .inr (0, [.ref aB])), (aB, .inl (cB, 202000, .inl (by_ b)))]) [1, 2] rfl) (q0 := 0) rfl rfl rfl rfl hl.1 rfl (Nat.le_of_ble_eq_true rfl) d_SH_faultOfProject_61 ⟨Nat.zero_le _, Nat.zero_le _⟩ ?_
        refine lv_istore (lv' := [(5, .int (tw_ST_valueOf b x3)), (0, .ref aH), (2, .int x2), (3, .int x3), (4, .int x4)]) hx hb d_SH_faultOfProject_64 hl (by decide) rfl (fun ls hl => ?_)
        refine lv_aload_n hx hb d_SH_faultOfProject_66 rfl (lv_at hl 1 rfl) ?_
        refine va_get (D := D) (ci := 6) (v := .ref aS) (C := R_SH) (T := T_SH) (N := 3) hx hb hT u_SH hown hK hP 0 rfl rfl 0 (by decide) (hT _ k_196) (fun _ h9 => h9) rfl d_SH_faultOfProject_67 ?_
        refine lv_iload_n hx hb d_SH_faultOfProject_70 rfl (lv_at hl 3 rfl) ?_
        refine lv_iconst (v := 1) hx hb d_SH_faultOfProject_71 (by decide) ?_
        refine lv_iadd hx hb d_SH_faultOfProject_72 ?_
        refine lv_iload hx hb d_SH_faultOfProject_73 (lv_at hl 0 rfl) ?_
        refine rd_S (val := tw_ST_placeOf (tw_ST_valueOf b x3)) (As := [.int (tw_ST_valueOf b x3)]) (rest := [.int (x3 + 1), .ref aS]) ⟨hx, hb, hml, hown, hT⟩ (c_ST_placeOf l D cB cI (tw_ST_valueOf b x3)) (va_cwS 1 hT (gS_of k_559 k_403 k_2 kc_ST_placeOf) rfl rfl rfl hd_ST_placeOf ⟨Nat.le_of_ble_eq_true rfl, Nat.le_of_ble_eq_true rfl⟩) hk (va_P_nil) rfl hl.1 rfl (Nat.le_of_ble_eq_true rfl) d_SH_faultOfProject_75 ⟨Nat.zero_le _, Nat.zero_le _⟩ ?_
        refine lv_iconst (v := 1) hx hb d_SH_faultOfProject_78 (by decide) ?_
        refine lv_isub hx hb d_SH_faultOfProject_79 ?_
        refine rd_V (val := b2i (tw_ST_isPlain b (x3 + 1) ((tw_ST_placeOf (tw_ST_valueOf b x3)) - 1))) (As := [.int (x3 + 1), .int ((tw_ST_placeOf (tw_ST_valueOf b x3)) - 1)]) (rest := []) ⟨hx, hb, hml, hown, hT⟩ (c_ST_isPlain l D cB cI aS aB b (x3 + 1) ((tw_ST_placeOf (tw_ST_valueOf b x3)) - 1)) (cwV 2 hT (gV_of k_561 k_562 k_563 k_2 kc_ST_isPlain) rfl rfl rfl hd_ST_isPlain ⟨Nat.le_of_ble_eq_true rfl, Nat.le_of_ble_eq_true rfl⟩) hk (hP.sub (ws' := [(aS, .inr (0, [.ref aB])), (aB, .inl (cB, 202000, .inl (by_ b)))]) [1, 2] rfl) (q0 := 0) rfl rfl rfl rfl hl.1 rfl (Nat.le_of_ble_eq_true rfl) d_SH_faultOfProject_80 ⟨Nat.zero_le _, Nat.zero_le _⟩ ?_
        refine lv_if_ne (tgt := 88) hx hb d_SH_faultOfProject_83 (by decide) (fun c_5 => ?_) (fun c_5 => ?_)
        · refine lv_aload_n hx hb d_SH_faultOfProject_88 rfl (lv_at hl 1 rfl) ?_
          refine va_get (D := D) (ci := 6) (v := .ref aP) (C := R_SH) (T := T_SH) (N := 3) hx hb hT u_SH hown hK hP 0 rfl rfl 2 (by decide) (hT _ k_198) (fun _ h9 => h9) rfl d_SH_faultOfProject_89 ?_
          refine lv_iload hx hb d_SH_faultOfProject_92 (lv_at hl 0 rfl) ?_
          refine mt_Vi (As := [.int (tw_ST_valueOf b x3)]) (rest := []) (wr := [(aH, .inr (6, [.ref aS, .ref aY, .ref aP]))]) ⟨hx, hb, hml, hown, hT⟩ (c_PA_readExpression l D cB cI aP aS aV aPs aPe aPi aPh aPl aPn aB plc psr pbs pms b _ pcnt pfix pown pst pen pix (tw_ST_valueOf b x3)) (cwV 1 hT (gV_of k_565 k_566 k_567 k_7 kc_PA_readExpression) rfl rfl rfl hd_PA_readExpression ⟨Nat.le_of_ble_eq_true rfl, Nat.le_of_ble_eq_true rfl⟩) hk hP hD hS hA [3, 1, 2, 4, 5, 6] [0] rfl rfl rfl (by decide) (by decide) (by decide) (q0 := 0) rfl rfl rfl rfl hl.1 rfl (Nat.le_of_ble_eq_true rfl) d_SH_faultOfProject_94 ⟨Nat.zero_le _, Nat.zero_le _⟩ (fun r_6 u_6 H locs hw_6 hP hD hS => ?_)
          obtain ⟨pcnt_6, pfix_6, pown_6, pst_6, pen_6, pix_6⟩ := u_6
          obtain ⟨r_6, rfl, hw_6⟩ := hw_6
          have hP : va_P D vwCl [(aH, .inr (6, [.ref aS, .ref aY, .ref aP])), (aS, .inr (0, [.ref aB])), (aB, .inl (cB, 202000, .inl (by_ b))), (aP, .inr (5, [.ref aS, .ref aV, .ref aPs, .ref aPe, .ref aPi, .ref aPh, .int pcnt_6, .int (b2i pfix_6), .int pown_6, .ref aPl, .ref aPn, .int plc, .int psr, .int pbs, .int (b2i pms)])), (aPs, .inl (cI, 8, .inl pst_6)), (aPe, .inl (cI, 8, .inl pen_6)), (aPi, .inl (cI, 8, .inl pix_6))] H := hP.sub [0, 2, 3, 1, 4, 5, 6] rfl
          have hD : va_D A [(aH, .inr (6, [.ref aS, .ref aY, .ref aP])), (aS, .inr (0, [.ref aB])), (aB, .inl (cB, 202000, .inl (by_ b))), (aP, .inr (5, [.ref aS, .ref aV, .ref aPs, .ref aPe, .ref aPi, .ref aPh, .int pcnt_6, .int (b2i pfix_6), .int pown_6, .ref aPl, .ref aPn, .int plc, .int psr, .int pbs, .int (b2i pms)])), (aPs, .inl (cI, 8, .inl pst_6)), (aPe, .inl (cI, 8, .inl pen_6)), (aPi, .inl (cI, 8, .inl pix_6))] := hD.sub [0, 2, 3, 1, 4, 5, 6] (by decide) rfl
          refine lv_if_ne (tgt := 102) hx hb d_SH_faultOfProject_97 (by decide) (fun c_7 => ?_) (fun c_7 => ?_)
          · refine lv_aload_n hx hb d_SH_faultOfProject_102 rfl (lv_at hl 1 rfl) ?_
            refine va_get (D := D) (ci := 6) (v := .ref aS) (C := R_SH) (T := T_SH) (N := 3) hx hb hT u_SH hown hK hP 0 rfl rfl 0 (by decide) (hT _ k_196) (fun _ h9 => h9) rfl d_SH_faultOfProject_103 ?_
            refine lv_iload hx hb d_SH_faultOfProject_106 (lv_at hl 0 rfl) ?_
            refine rd_V (val := tw_ST_endOf b (tw_ST_valueOf b x3)) (As := [.int (tw_ST_valueOf b x3)]) (rest := []) ⟨hx, hb, hml, hown, hT⟩ (c_ST_endOf l D cB cI aS aB b (tw_ST_valueOf b x3)) (cwV 1 hT (gV_of k_558 k_416 k_417 k_2 kc_ST_endOf) rfl rfl rfl hd_ST_endOf ⟨Nat.le_of_ble_eq_true rfl, Nat.le_of_ble_eq_true rfl⟩) hk (hP.sub (ws' := [(aS, .inr (0, [.ref aB])), (aB, .inl (cB, 202000, .inl (by_ b)))]) [1, 2] rfl) (q0 := 0) rfl rfl rfl rfl hl.1 rfl (Nat.le_of_ble_eq_true rfl) d_SH_faultOfProject_108 ⟨Nat.zero_le _, Nat.zero_le _⟩ ?_
            refine lv_istore_n (lv' := [(3, .int (tw_ST_endOf b (tw_ST_valueOf b x3))), (5, .int (tw_ST_valueOf b x3)), (0, .ref aH), (2, .int x2), (4, .int x4)]) hx hb d_SH_faultOfProject_111 rfl hl (by decide) rfl (fun ls hl => ?_)
            refine lv_iinc (v := x4 + 1) (lv' := [(4, .int (x4 + 1)), (3, .int (tw_ST_endOf b (tw_ST_valueOf b x3))), (5, .int (tw_ST_valueOf b x3)), (0, .ref aH), (2, .int x2)]) hx hb d_SH_faultOfProject_112 hl (k := 4) rfl rfl (by decide) rfl (fun ls hl => ?_)
            refine lv_goto (tgt := 43) hx hb d_SH_faultOfProject_115 (by decide) ?_
            exact ih (tw_ST_endOf b (tw_ST_valueOf b x3)) (x4 + 1) pcnt_6 pfix_6 pown_6 pst_6 pen_6 pix_6 (lp_up hm c_3) (by rw [hV, tw_SH_faultOfProject_h43, if_neg c_3, if_neg c_4, if_neg c_5, ← hw_6, tp7_mk, if_neg c_7]) _ _ hP hD hS ls (lv_sub hl [3, 4, 1, 0] rfl)
          · refine lv_iconst (v := 3) hx hb d_SH_faultOfProject_100 (by decide) ?_
            exact W.iret (v := 3) hx hb hr (fun t ht hW => ⟨⟨3, (pcnt_6, pfix_6, pown_6, pst_6, pen_6, pix_6), rfl, (by rw [hV, tw_SH_faultOfProject_h43, if_neg c_3, if_neg c_4, if_neg c_5, ← hw_6, tp7_mk, if_pos c_7]; first | done | rfl), by rw [ht]; exact hP, hD⟩, hS.F ht⟩) hS.2.2 d_SH_faultOfProject_101
        · refine lv_iconst (v := 2) hx hb d_SH_faultOfProject_86 (by decide) ?_
          exact W.iret (v := 2) hx hb hr (fun t ht hW => ⟨⟨2, (pcnt, pfix, pown, pst, pen, pix), rfl, (by rw [hV, tw_SH_faultOfProject_h43, if_neg c_3, if_neg c_4, if_pos c_5]; first | done | rfl), by rw [ht]; exact hP, hD⟩, hS.F ht⟩) hS.2.2 d_SH_faultOfProject_87
set_option maxHeartbeats 4000000 in
set_option maxRecDepth 100000 in
theorem c_SH_faultOfProject (l : Launch) (D : va_G) (cB cI : ClassId) (aH aS aY aP aB aV aPs aPe aPi aPh aPl aPn : Nat) (b : Nat → UInt8) (plc : Int32) (psr : Int32) (pbs : Int32) (pms : Bool) (sz : Nat) (pcnt : Int32) (pfix : Bool) (pown : Int32) (pst : Nat → Int32) (pen : Nat → Int32) (pix : Nat → Int32) (p0 : Int32) : Met l y_SH_faultOfProject mw_SH_faultOfProject { frames := 4, cells := 0, slots := 0, locals := 93 } (va_Pc [.ref aH, .int p0] (mt_P D cB cI (wd_SH_faultOfProject aH aS aY aP aB aV aPs aPe aPi aPh aPl aPn cB cI b plc psr pbs pms pcnt pfix pown pst pen pix) sz)) (va_Qi (fun (r : Int32) (u : Int32 × Bool × Int32 × (Nat → Int32) × (Nat → Int32) × (Nat → Int32)) => (r, u) = tw_SH_faultOfProject b pcnt pfix pown pst pen pix p0) (mt_B D (va_A (wd_SH_faultOfProject aH aS aY aP aB aV aPs aPe aPi aPh aPl aPn cB cI b plc psr pbs pms pcnt pfix pown pst pen pix) sz) (fun u => wd_SH_faultOfProject aH aS aY aP aB aV aPs aPe aPi aPh aPl aPn cB cI b plc psr pbs pms u.1 u.2.1 u.2.2.1 u.2.2.2.1 u.2.2.2.2.1 u.2.2.2.2.2)) (va_A (wd_SH_faultOfProject aH aS aY aP aB aV aPs aPe aPi aPh aPl aPn cB cI b plc psr pbs pms pcnt pfix pown pst pen pix) sz)) 0 0 (va_A (wd_SH_faultOfProject aH aS aY aP aB aV aPs aPe aPi aPh aPl aPn cB cI b plc psr pbs pms pcnt pfix pown pst pen pix) sz) := by
  refine Met.ofW (cc := b_SH_faultOfProject) (maxL := 6) (ret := (some .int)) (by decide) rfl ?_
  intro p e s m args below meth c s₁ B0 hml hv
  obtain ⟨rfl, hsz, hP, hk, hD0⟩ := hv
  have hK := hk.1
  have hN := hk.2.1
  have hx := B0.exec
  have hb := B0.bytes
  have hr := B0.returns
  have hT : ∀ w ∈ lw_g, w.before _ s = true := fun w h => atoms_spec (ws := mw_SH_faultOfProject) B0.pre w (List.mem_cons_of_mem _ h)
  have hown : s.vm.findClass R_SH = some m.cls := findClass_of_methodNamed B0.named
  have hlocks := B0.notSynchronized
  subst hsz
  have hD := hD0.self (sz := s.heap.size)
  generalize hAe : va_A [(aH, .inr (6, [.ref aS, .ref aY, .ref aP])), (aS, .inr (0, [.ref aB])), (aB, .inl (cB, 202000, .inl (by_ b))), (aP, .inr (5, [.ref aS, .ref aV, .ref aPs, .ref aPe, .ref aPi, .ref aPh, .int pcnt, .int (b2i pfix), .int pown, .ref aPl, .ref aPn, .int plc, .int psr, .int pbs, .int (b2i pms)])), (aPs, .inl (cI, 8, .inl pst)), (aPe, .inl (cI, 8, .inl pen)), (aPi, .inl (cI, 8, .inl pix))] s.heap.size = A at hD ⊢
  have hA : ∀ q : Nat, s.heap.size ≤ q → A q := fun q h => by rw [← hAe]; exact Or.inr h
  have hS : va_S A s.heap s.heap [] := va_S.rf
  have hl := lv_entry ([.ref aH, .int p0]) (n := 6) (Nat.le_of_ble_eq_true rfl)
  rw [lg_entry_eq]
  generalize (lg_sl ([.ref aH, .int p0]) ++ List.replicate (6 - (lg_sl ([.ref aH, .int p0])).length) Slot.unset).toArray = ls at hl ⊢
  have hl : lv_has ls 6 [(0, .ref aH), (1, .int p0)] := hl
  have C0 : lc_C p s m meth c _ b_SH_faultOfProject 6 (some .int) R_SH lw_g := ⟨hx, hb, hml, hr, hown, hlocks, hT⟩
  refine lv_iload_n hx hb d_SH_faultOfProject_0 rfl (lv_at hl 1 rfl) ?_
  refine rd_S (val := tw_ST_kindOf p0) (As := [.int p0]) (rest := []) ⟨hx, hb, hml, hown, hT⟩ (c_ST_kindOf l D cB cI p0) (va_cwS 1 hT (gS_of k_554 k_555 k_2 kc_ST_kindOf) rfl rfl rfl hd_ST_kindOf ⟨Nat.le_of_ble_eq_true rfl, Nat.le_of_ble_eq_true rfl⟩) hk (va_P_nil) rfl hl.1 rfl (Nat.le_of_ble_eq_true rfl) d_SH_faultOfProject_1 ⟨Nat.zero_le _, Nat.zero_le _⟩ ?_
  refine lv_iconst (v := 3) hx hb d_SH_faultOfProject_4 (by decide) ?_
  refine lv_icmp_ne (tgt := 20) hx hb d_SH_faultOfProject_5 (by decide) (fun c_1 => ?_) (fun c_1 => ?_)
  · refine lv_iconst (v := 2) hx hb d_SH_faultOfProject_20 (by decide) ?_
    exact W.iret (v := 2) hx hb hr (fun t ht hW => ⟨⟨2, (pcnt, pfix, pown, pst, pen, pix), rfl, (by rw [tw_SH_faultOfProject, if_neg c_1]; first | done | rfl), by rw [ht]; exact hP, hD⟩, hS.F ht⟩) hS.2.2 d_SH_faultOfProject_21
  · refine lv_aload_n hx hb d_SH_faultOfProject_8 rfl (lv_at hl 0 rfl) ?_
    refine va_get (D := D) (ci := 6) (v := .ref aS) (C := R_SH) (T := T_SH) (N := 3) hx hb hT u_SH hown hK hP 0 rfl rfl 0 (by decide) (hT _ k_196) (fun _ h9 => h9) rfl d_SH_faultOfProject_9 ?_
    refine lv_iload_n hx hb d_SH_faultOfProject_12 rfl (lv_at hl 1 rfl) ?_
    refine rd_V (val := tw_ST_countParts b p0) (As := [.int p0]) (rest := []) ⟨hx, hb, hml, hown, hT⟩ (c_ST_countParts l D cB cI aS aB b p0) (cwV 1 hT (gV_of k_557 k_480 k_481 k_2 kc_ST_countParts) rfl rfl rfl hd_ST_countParts ⟨Nat.le_of_ble_eq_true rfl, Nat.le_of_ble_eq_true rfl⟩) hk (hP.sub (ws' := [(aS, .inr (0, [.ref aB])), (aB, .inl (cB, 202000, .inl (by_ b)))]) [1, 2] rfl) (q0 := 0) rfl rfl rfl rfl hl.1 rfl (Nat.le_of_ble_eq_true rfl) d_SH_faultOfProject_13 ⟨Nat.zero_le _, Nat.zero_le _⟩ ?_
    refine lv_iconst (v := 1) hx hb d_SH_faultOfProject_16 (by decide) ?_
    refine lv_icmp_ge (tgt := 22) hx hb d_SH_faultOfProject_17 (by decide) (fun c_2 => ?_) (fun c_2 => ?_)
    · refine lv_aload_n hx hb d_SH_faultOfProject_22 rfl (lv_at hl 0 rfl) ?_
      refine va_get (D := D) (ci := 6) (v := .ref aS) (C := R_SH) (T := T_SH) (N := 3) hx hb hT u_SH hown hK hP 0 rfl rfl 0 (by decide) (hT _ k_196) (fun _ h9 => h9) rfl d_SH_faultOfProject_23 ?_
      refine lv_iload_n hx hb d_SH_faultOfProject_26 rfl (lv_at hl 1 rfl) ?_
      refine rd_V (val := tw_ST_endOf b p0) (As := [.int p0]) (rest := []) ⟨hx, hb, hml, hown, hT⟩ (c_ST_endOf l D cB cI aS aB b p0) (cwV 1 hT (gV_of k_558 k_416 k_417 k_2 kc_ST_endOf) rfl rfl rfl hd_ST_endOf ⟨Nat.le_of_ble_eq_true rfl, Nat.le_of_ble_eq_true rfl⟩) hk (hP.sub (ws' := [(aS, .inr (0, [.ref aB])), (aB, .inl (cB, 202000, .inl (by_ b)))]) [1, 2] rfl) (q0 := 0) rfl rfl rfl rfl hl.1 rfl (Nat.le_of_ble_eq_true rfl) d_SH_faultOfProject_27 ⟨Nat.zero_le _, Nat.zero_le _⟩ ?_
      refine lv_iconst (v := 1) hx hb d_SH_faultOfProject_30 (by decide) ?_
      refine lv_isub hx hb d_SH_faultOfProject_31 ?_
      refine lv_istore_n (lv' := [(2, .int ((tw_ST_endOf b p0) - 1)), (0, .ref aH), (1, .int p0)]) hx hb d_SH_faultOfProject_32 rfl hl (by decide) rfl (fun ls hl => ?_)
      refine lv_iload_n hx hb d_SH_faultOfProject_33 rfl (lv_at hl 2 rfl) ?_
      refine rd_S (val := tw_ST_placeOf p0) (As := [.int p0]) (rest := []) ⟨hx, hb, hml, hown, hT⟩ (c_ST_placeOf l D cB cI p0) (va_cwS 1 hT (gS_of k_559 k_403 k_2 kc_ST_placeOf) rfl rfl rfl hd_ST_placeOf ⟨Nat.le_of_ble_eq_true rfl, Nat.le_of_ble_eq_true rfl⟩) hk (va_P_nil) rfl hl.1 rfl (Nat.le_of_ble_eq_true rfl) d_SH_faultOfProject_34 ⟨Nat.zero_le _, Nat.zero_le _⟩ ?_
      refine lv_iconst (v := 4) hx hb d_SH_faultOfProject_37 (by decide) ?_
      refine lv_iadd hx hb d_SH_faultOfProject_38 ?_
      refine lv_istore_n (lv' := [(3, .int ((tw_ST_placeOf p0) + 4)), (2, .int ((tw_ST_endOf b p0) - 1)), (0, .ref aH), (1, .int p0)]) hx hb d_SH_faultOfProject_39 rfl hl (by decide) rfl (fun ls hl => ?_)
      refine lv_iconst (v := 0) hx hb d_SH_faultOfProject_40 (by decide) ?_
      refine lv_istore (lv' := [(4, .int 0), (3, .int ((tw_ST_placeOf p0) + 4)), (2, .int ((tw_ST_endOf b p0) - 1)), (0, .ref aH), (1, .int p0)]) hx hb d_SH_faultOfProject_41 hl (by decide) rfl (fun ls hl => ?_)
      exact l_SH_faultOfProject_h43 C0 l D cB cI aH aS aY aP aB aV aPs aPe aPi aPh aPl aPn b plc psr pbs pms hk hA ((tw_ST_endOf b p0) - 1)  ((((1000 : Int32).toInt - (0 : Int32).toInt).toNat) + 1) ((tw_ST_placeOf p0) + 4) 0 pcnt pfix pown pst pen pix (Nat.lt_succ_self _) (by rw [tw_SH_faultOfProject, if_pos c_1, if_pos c_2]) _ _ hP hD hS ls (lv_sub hl [3, 2, 1, 0] rfl)
    · refine lv_iconst (v := 2) hx hb d_SH_faultOfProject_20 (by decide) ?_
      exact W.iret (v := 2) hx hb hr (fun t ht hW => ⟨⟨2, (pcnt, pfix, pown, pst, pen, pix), rfl, (by rw [tw_SH_faultOfProject, if_pos c_1, if_neg c_2]; first | done | rfl), by rw [ht]; exact hP, hD⟩, hS.F ht⟩) hS.2.2 d_SH_faultOfProject_21
abbrev wd_SH_writeProjected (aH aS aY aP aW aF aK aN aB aNs aV aPs aPe aPi aPh aPl aPn : Nat) (cB cI : ClassId) (nbase : Int32) (ncnt : Int32) (nsts : Nat → Int32) (plc : Int32) (psr : Int32) (pbs : Int32) (pms : Bool) (place : Int32) (limit : Int32) (full : Bool) (b : Nat → UInt8) (pcnt : Int32) (pfix : Bool) (pown : Int32) (vplace : Int32) (vlimit : Int32) (vfull : Bool) (pst : Nat → Int32) (pen : Nat → Int32) (pix : Nat → Int32) : va_W := [(aH, .inr (6, [.ref aS, .ref aY, .ref aP])), (aY, .inr (3, [.ref aS, .ref aW, .ref aF, .ref aK, .ref aN])), (aW, .inr (1, [.ref aS, .int place, .int limit, .int (b2i full)])), (aS, .inr (0, [.ref aB])), (aB, .inl (cB, 202000, .inl (by_ b))), (aN, .inr (2, [.int nbase, .ref aNs, .int ncnt])), (aNs, .inl (cI, 201, .inl nsts)), (aP, .inr (5, [.ref aS, .ref aV, .ref aPs, .ref aPe, .ref aPi, .ref aPh, .int pcnt, .int (b2i pfix), .int pown, .ref aPl, .ref aPn, .int plc, .int psr, .int pbs, .int (b2i pms)])), (aV, .inr (1, [.ref aS, .int vplace, .int vlimit, .int (b2i vfull)])), (aPs, .inl (cI, 8, .inl pst)), (aPe, .inl (cI, 8, .inl pen)), (aPi, .inl (cI, 8, .inl pix))]
set_option maxHeartbeats 4000000 in
set_option maxRecDepth 100000 in
theorem l_SH_writeProjected_h37 {p : Program} {e : Env} {s : State} {m : MethodId} {args : Array Value} {below : List Frame} {meth : Method} {c : Code} {V : Int32 × Int32 × Bool × (Nat → UInt8) × Int32 × Bool × Int32 × Int32 × Int32 × Bool × (Nat → Int32) × (Nat → Int32) × (Nat → Int32)} (C0 : lc_C p s m meth c args b_SH_writeProjected 11 none R_SH lw_g) (l : Launch) (D : va_G) (cB cI : ClassId) (aH aS aY aP aW aF aK aN aB aNs aV aPs aPe aPi aPh aPl aPn : Nat) (nbase : Int32) (ncnt : Int32) (nsts : Nat → Int32) (plc : Int32) (psr : Int32) (pbs : Int32) (pms : Bool) {A : Nat → Prop} (hk : hk_ D cB cI s) (hA : ∀ q : Nat, s.heap.size ≤ q → A q) (p1 : Int32) (x4 : Int32) (x5 : Int32) (L9 : Int32) (U9 : Bool) (A9 : Int32) (hA9 : tw_BE_end nbase ncnt nsts = A9) (hkd : tw_ST_kindOf p1 = 3) : ∀ (n : Nat) (x6 : Int32) (x7 : Int32) (place : Int32) (limit : Int32) (full : Bool) (b : Nat → UInt8) (pcnt : Int32) (pfix : Bool) (pown : Int32) (vplace : Int32) (vlimit : Int32) (vfull : Bool) (pst : Nat → Int32) (pen : Nat → Int32) (pix : Nat → Int32), ((1000 : Int32).toInt - x7.toInt).toNat < n → w_okr L9 U9 A9 place limit full → V = tw_SH_writeProjected_h37 nbase ncnt nsts p1 x4 x5 n x6 x7 place limit full b pcnt pfix pown vplace vlimit vfull pst pen pix → ∀ (H : Heap) (locs : List Loc), va_P D vwCl [(aH, .inr (6, [.ref aS, .ref aY, .ref aP])), (aY, .inr (3, [.ref aS, .ref aW, .ref aF, .ref aK, .ref aN])), (aW, .inr (1, [.ref aS, .int place, .int limit, .int (b2i full)])), (aS, .inr (0, [.ref aB])), (aB, .inl (cB, 202000, .inl (by_ b))), (aN, .inr (2, [.int nbase, .ref aNs, .int ncnt])), (aNs, .inl (cI, 201, .inl nsts)), (aP, .inr (5, [.ref aS, .ref aV, .ref aPs, .ref aPe, .ref aPi, .ref aPh, .int pcnt, .int (b2i pfix), .int pown, .ref aPl, .ref aPn, .int plc, .int psr, .int pbs, .int (b2i pms)])), (aV, .inr (1, [.ref aS, .int vplace, .int vlimit, .int (b2i vfull)])), (aPs, .inl (cI, 8, .inl pst)), (aPe, .inl (cI, 8, .inl pen)), (aPi, .inl (cI, 8, .inl pix))] H → va_D A [(aH, .inr (6, [.ref aS, .ref aY, .ref aP])), (aY, .inr (3, [.ref aS, .ref aW, .ref aF, .ref aK, .ref aN])), (aW, .inr (1, [.ref aS, .int place, .int limit, .int (b2i full)])), (aS, .inr (0, [.ref aB])), (aB, .inl (cB, 202000, .inl (by_ b))), (aN, .inr (2, [.int nbase, .ref aNs, .int ncnt])), (aNs, .inl (cI, 201, .inl nsts)), (aP, .inr (5, [.ref aS, .ref aV, .ref aPs, .ref aPe, .ref aPi, .ref aPh, .int pcnt, .int (b2i pfix), .int pown, .ref aPl, .ref aPn, .int plc, .int psr, .int pbs, .int (b2i pms)])), (aV, .inr (1, [.ref aS, .int vplace, .int vlimit, .int (b2i vfull)])), (aPs, .inl (cI, 8, .inl pst)), (aPe, .inl (cI, 8, .inl pen)), (aPi, .inl (cI, 8, .inl pix))] → va_S A s.heap H locs → ∀ ls : Array Slot, lv_has ls 11 [(0, .ref aH), (2, .int p1), (3, .ref aW), (4, .int x4), (5, .int x5), (6, .int x6), (7, .int x7)] → W p l e ({ frames := 87, cells := 0, slots := 0, locals := 2089 }) s m args below meth c H locs 0 0 (MQ below (va_Qv (fun (u : Int32 × Int32 × Bool × (Nat → UInt8) × Int32 × Bool × Int32 × Int32 × Int32 × Bool × (Nat → Int32) × (Nat → Int32) × (Nat → Int32)) => u = V ∧ w_en nbase ncnt nsts u.1 u.2.2.1) (mt_B D A (fun u => wd_SH_writeProjected aH aS aY aP aW aF aK aN aB aNs aV aPs aPe aPi aPh aPl aPn cB cI nbase ncnt nsts plc psr pbs pms u.1 u.2.1 u.2.2.1 u.2.2.2.1 u.2.2.2.2.1 u.2.2.2.2.2.1 u.2.2.2.2.2.2.1 u.2.2.2.2.2.2.2.1 u.2.2.2.2.2.2.2.2.1 u.2.2.2.2.2.2.2.2.2.1 u.2.2.2.2.2.2.2.2.2.2.1 u.2.2.2.2.2.2.2.2.2.2.2.1 u.2.2.2.2.2.2.2.2.2.2.2.2)) A) args s 0 0 A) (F0 m 37 ls []) := by
  obtain ⟨hx, hb, hml, hr, hown, hlocks, hT⟩ := id C0
  have hK := hk.1
  have hN := hk.2.1
  intro n
  induction n with
  | zero =>
    intro x6 x7 place limit full b pcnt pfix pown vplace vlimit vfull pst pen pix hm
    exact absurd hm (Nat.not_lt_zero _)
  | succ n ih =>
    intro x6 x7 place limit full b pcnt pfix pown vplace vlimit vfull pst pen pix hm hw9 hV H locs hP hD hS ls hl
    refine lv_iload hx hb d_SH_writeProjected_37 (lv_at hl 6 rfl) ?_
    refine lv_sipush (v := 1000) hx hb d_SH_writeProjected_39 (by decide) ?_
    refine lv_icmp_ge (tgt := 142) hx hb d_SH_writeProjected_42 (by decide) (fun c_3 => ?_) (fun c_3 => ?_)
    · refine lv_aload_n hx hb d_SH_writeProjected_142 rfl (lv_at hl 2 rfl) ?_
      refine lv_iload hx hb d_SH_writeProjected_143 (lv_at hl 3 rfl) ?_
      refine mt_Vv (As := [.int x4]) (rest := []) (wr := [(aH, .inr (6, [.ref aS, .ref aY, .ref aP])), (aY, .inr (3, [.ref aS, .ref aW, .ref aF, .ref aK, .ref aN])), (aN, .inr (2, [.int nbase, .ref aNs, .int ncnt])), (aNs, .inl (cI, 201, .inl nsts)), (aP, .inr (5, [.ref aS, .ref aV, .ref aPs, .ref aPe, .ref aPi, .ref aPh, .int pcnt, .int (b2i pfix), .int pown, .ref aPl, .ref aPn, .int plc, .int psr, .int pbs, .int (b2i pms)])), (aV, .inr (1, [.ref aS, .int vplace, .int vlimit, .int (b2i vfull)])), (aPs, .inl (cI, 8, .inl pst)), (aPe, .inl (cI, 8, .inl pen)), (aPi, .inl (cI, 8, .inl pix))]) ⟨hx, hb, hml, hown, hT⟩ (c_WR_close l D cB cI aW aS aB L9 U9 A9 _ place limit full b x4 hw9) (cwV 1 hT (gV_of k_658 k_643 k_644 k_5 kc_WR_close) rfl rfl rfl hd_WR_close ⟨Nat.le_of_ble_eq_true rfl, Nat.le_of_ble_eq_true rfl⟩) hk hP hD hS hA [2, 3, 4] [0, 1, 5, 6, 7, 8, 9, 10, 11] rfl rfl rfl (by decide) (by decide) (by decide) (q0 := 0) rfl rfl rfl rfl hl.1 rfl (Nat.le_of_ble_eq_true rfl) d_SH_writeProjected_145 ⟨Nat.zero_le _, Nat.zero_le _⟩ (fun u_4 H locs hw_4 hP hD hS => ?_)
      obtain ⟨place_4, limit_4, full_4, b_4⟩ := u_4
      obtain ⟨hw_4, hi_4⟩ := hw_4
      have hP : va_P D vwCl [(aH, .inr (6, [.ref aS, .ref aY, .ref aP])), (aY, .inr (3, [.ref aS, .ref aW, .ref aF, .ref aK, .ref aN])), (aW, .inr (1, [.ref aS, .int place_4, .int limit_4, .int (b2i full_4)])), (aS, .inr (0, [.ref aB])), (aB, .inl (cB, 202000, .inl (by_ b_4))), (aN, .inr (2, [.int nbase, .ref aNs, .int ncnt])), (aNs, .inl (cI, 201, .inl nsts)), (aP, .inr (5, [.ref aS, .ref aV, .ref aPs, .ref aPe, .ref aPi, .ref aPh, .int pcnt, .int (b2i pfix), .int pown, .ref aPl, .ref aPn, .int plc, .int psr, .int pbs, .int (b2i pms)])), (aV, .inr (1, [.ref aS, .int vplace, .int vlimit, .int (b2i vfull)])), (aPs, .inl (cI, 8, .inl pst)), (aPe, .inl (cI, 8, .inl pen)), (aPi, .inl (cI, 8, .inl pix))] H := hP.sub [0, 1, 9, 10, 11, 2, 3, 4, 5, 6, 7, 8] rfl
      have hD : va_D A [(aH, .inr (6, [.ref aS, .ref aY, .ref aP])), (aY, .inr (3, [.ref aS, .ref aW, .ref aF, .ref aK, .ref aN])), (aW, .inr (1, [.ref aS, .int place_4, .int limit_4, .int (b2i full_4)])), (aS, .inr (0, [.ref aB])), (aB, .inl (cB, 202000, .inl (by_ b_4))), (aN, .inr (2, [.int nbase, .ref aNs, .int ncnt])), (aNs, .inl (cI, 201, .inl nsts)), (aP, .inr (5, [.ref aS, .ref aV, .ref aPs, .ref aPe, .ref aPi, .ref aPh, .int pcnt, .int (b2i pfix), .int pown, .ref aPl, .ref aPn, .int plc, .int psr, .int pbs, .int (b2i pms)])), (aV, .inr (1, [.ref aS, .int vplace, .int vlimit, .int (b2i vfull)])), (aPs, .inl (cI, 8, .inl pst)), (aPe, .inl (cI, 8, .inl pen)), (aPi, .inl (cI, 8, .inl pix))] := hD.sub [0, 1, 9, 10, 11, 2, 3, 4, 5, 6, 7, 8] (by decide) rfl
      exact W.vret hx hb hr (fun t ht hW => ⟨⟨(place_4, limit_4, full_4, b_4, pcnt, pfix, pown, vplace, vlimit, vfull, pst, pen, pix), rfl, ⟨(by rw [hV, tw_SH_writeProjected_h37, if_pos c_3, ← hw_4, tp4_mk]; first | done | rfl), (w_en_of hi_4 hA9)⟩, by rw [ht]; exact hP, hD⟩, hS.F ht⟩) hS.2.2 d_SH_writeProjected_148
    · refine lv_iload hx hb d_SH_writeProjected_45 (lv_at hl 5 rfl) ?_
      refine lv_iload hx hb d_SH_writeProjected_47 (lv_at hl 4 rfl) ?_
      refine lv_icmp_ge (tgt := 142) hx hb d_SH_writeProjected_49 (by decide) (fun c_5 => ?_) (fun c_5 => ?_)
      · refine lv_aload_n hx hb d_SH_writeProjected_142 rfl (lv_at hl 2 rfl) ?_
        refine lv_iload hx hb d_SH_writeProjected_143 (lv_at hl 3 rfl) ?_
        refine mt_Vv (As := [.int x4]) (rest := []) (wr := [(aH, .inr (6, [.ref aS, .ref aY, .ref aP])), (aY, .inr (3, [.ref aS, .ref aW, .ref aF, .ref aK, .ref aN])), (aN, .inr (2, [.int nbase, .ref aNs, .int ncnt])), (aNs, .inl (cI, 201, .inl nsts)), (aP, .inr (5, [.ref aS, .ref aV, .ref aPs, .ref aPe, .ref aPi, .ref aPh, .int pcnt, .int (b2i pfix), .int pown, .ref aPl, .ref aPn, .int plc, .int psr, .int pbs, .int (b2i pms)])), (aV, .inr (1, [.ref aS, .int vplace, .int vlimit, .int (b2i vfull)])), (aPs, .inl (cI, 8, .inl pst)), (aPe, .inl (cI, 8, .inl pen)), (aPi, .inl (cI, 8, .inl pix))]) ⟨hx, hb, hml, hown, hT⟩ (c_WR_close l D cB cI aW aS aB L9 U9 A9 _ place limit full b x4 hw9) (cwV 1 hT (gV_of k_658 k_643 k_644 k_5 kc_WR_close) rfl rfl rfl hd_WR_close ⟨Nat.le_of_ble_eq_true rfl, Nat.le_of_ble_eq_true rfl⟩) hk hP hD hS hA [2, 3, 4] [0, 1, 5, 6, 7, 8, 9, 10, 11] rfl rfl rfl (by decide) (by decide) (by decide) (q0 := 0) rfl rfl rfl rfl hl.1 rfl (Nat.le_of_ble_eq_true rfl) d_SH_writeProjected_145 ⟨Nat.zero_le _, Nat.zero_le _⟩ (fun u_6 H locs hw_6 hP hD hS => ?_)
        obtain ⟨place_6, limit_6, full_6, b_6⟩ := u_6
        obtain ⟨hw_6, hi_6⟩ := hw_6
        have hP : va_P D vwCl [(aH, .inr (6, [.ref aS, .ref aY, .ref aP])), (aY, .inr (3, [.ref aS, .ref aW, .ref aF, .ref aK, .ref aN])), (aW, .inr (1, [.ref aS, .int place_6, .int limit_6, .int (b2i full_6)])), (aS, .inr (0, [.ref aB])), (aB, .inl (cB, 202000, .inl (by_ b_6))), (aN, .inr (2, [.int nbase, .ref aNs, .int ncnt])), (aNs, .inl (cI, 201, .inl nsts)), (aP, .inr (5, [.ref aS, .ref aV, .ref aPs, .ref aPe, .ref aPi, .ref aPh, .int pcnt, .int (b2i pfix), .int pown, .ref aPl, .ref aPn, .int plc, .int psr, .int pbs, .int (b2i pms)])), (aV, .inr (1, [.ref aS, .int vplace, .int vlimit, .int (b2i vfull)])), (aPs, .inl (cI, 8, .inl pst)), (aPe, .inl (cI, 8, .inl pen)), (aPi, .inl (cI, 8, .inl pix))] H := hP.sub [0, 1, 9, 10, 11, 2, 3, 4, 5, 6, 7, 8] rfl
        have hD : va_D A [(aH, .inr (6, [.ref aS, .ref aY, .ref aP])), (aY, .inr (3, [.ref aS, .ref aW, .ref aF, .ref aK, .ref aN])), (aW, .inr (1, [.ref aS, .int place_6, .int limit_6, .int (b2i full_6)])), (aS, .inr (0, [.ref aB])), (aB, .inl (cB, 202000, .inl (by_ b_6))), (aN, .inr (2, [.int nbase, .ref aNs, .int ncnt])), (aNs, .inl (cI, 201, .inl nsts)), (aP, .inr (5, [.ref aS, .ref aV, .ref aPs, .ref aPe, .ref aPi, .ref aPh, .int pcnt, .int (b2i pfix), .int pown, .ref aPl, .ref aPn, .int plc, .int psr, .int pbs, .int (b2i pms)])), (aV, .inr (1, [.ref aS, .int vplace, .int vlimit, .int (b2i vfull)])), (aPs, .inl (cI, 8, .inl pst)), (aPe, .inl (cI, 8, .inl pen)), (aPi, .inl (cI, 8, .inl pix))] := hD.sub [0, 1, 9, 10, 11, 2, 3, 4, 5, 6, 7, 8] (by decide) rfl
        exact W.vret hx hb hr (fun t ht hW => ⟨⟨(place_6, limit_6, full_6, b_6, pcnt, pfix, pown, vplace, vlimit, vfull, pst, pen, pix), rfl, ⟨(by rw [hV, tw_SH_writeProjected_h37, if_neg c_3, if_pos c_5, ← hw_6, tp4_mk]; first | done | rfl), (w_en_of hi_6 hA9)⟩, by rw [ht]; exact hP, hD⟩, hS.F ht⟩) hS.2.2 d_SH_writeProjected_148
      · refine lv_aload_n hx hb d_SH_writeProjected_52 rfl (lv_at hl 0 rfl) ?_
        refine va_get (D := D) (ci := 6) (v := .ref aS) (C := R_SH) (T := T_SH) (N := 3) hx hb hT u_SH hown hK hP 0 rfl rfl 0 (by decide) (hT _ k_196) (fun _ h9 => h9) rfl d_SH_writeProjected_53 ?_
        refine lv_iload hx hb d_SH_writeProjected_56 (lv_at hl 5 rfl) ?_
        refine rd_V (val := tw_ST_valueOf b x6) (As := [.int x6]) (rest := []) ⟨hx, hb, hml, hown, hT⟩ (c_ST_valueOf l D cB cI aS aB b x6) (cwV 1 hT (gV_of k_560 k_399 k_400 k_2 kc_ST_valueOf) rfl rfl rfl hd_ST_valueOf ⟨Nat.le_of_ble_eq_true rfl, Nat.le_of_ble_eq_true rfl⟩) hk (hP.sub (ws' := [(aS, .inr (0, [.ref aB])), (aB, .inl (cB, 202000, .inl (by_ b)))]) [3, 4] rfl) (q0 := 0) rfl rfl rfl rfl hl.1 rfl (Nat.le_of_ble_eq_true rfl) d_SH_writeProjected_58 ⟨Nat.zero_le _, Nat.zero_le _⟩ ?_
        refine lv_istore (lv' := [(8, .int (tw_ST_valueOf b x6)), (0, .ref aH), (2, .int p1), (3, .ref aW), (4, .int x4), (5, .int x5), (6, .int x6), (7, .int x7)]) hx hb d_SH_writeProjected_61 hl (by decide) rfl (fun ls hl => ?_)
        refine lv_iload hx hb d_SH_writeProjected_63 (lv_at hl 0 rfl) ?_
        refine rd_S (val := tw_ST_placeOf (tw_ST_valueOf b x6)) (As := [.int (tw_ST_valueOf b x6)]) (rest := []) ⟨hx, hb, hml, hown, hT⟩ (c_ST_placeOf l D cB cI (tw_ST_valueOf b x6)) (va_cwS 1 hT (gS_of k_559 k_403 k_2 kc_ST_placeOf) rfl rfl rfl hd_ST_placeOf ⟨Nat.le_of_ble_eq_true rfl, Nat.le_of_ble_eq_true rfl⟩) hk (va_P_nil) rfl hl.1 rfl (Nat.le_of_ble_eq_true rfl) d_SH_writeProjected_65 ⟨Nat.zero_le _, Nat.zero_le _⟩ ?_
        refine lv_iconst (v := 1) hx hb d_SH_writeProjected_68 (by decide) ?_
        refine lv_isub hx hb d_SH_writeProjected_69 ?_
        refine lv_istore (lv' := [(9, .int ((tw_ST_placeOf (tw_ST_valueOf b x6)) - 1)), (8, .int (tw_ST_valueOf b x6)), (0, .ref aH), (2, .int p1), (3, .ref aW), (4, .int x4), (5, .int x5), (6, .int x6), (7, .int x7)]) hx hb d_SH_writeProjected_70 hl (by decide) rfl (fun ls hl => ?_)
        refine lv_aload_n hx hb d_SH_writeProjected_72 rfl (lv_at hl 2 rfl) ?_
        refine lv_iload hx hb d_SH_writeProjected_73 (lv_at hl 1 rfl) ?_
        refine lv_iload hx hb d_SH_writeProjected_75 (lv_at hl 7 rfl) ?_
        refine lv_iconst (v := 1) hx hb d_SH_writeProjected_77 (by decide) ?_
        refine lv_iadd hx hb d_SH_writeProjected_78 ?_
        refine lv_iload hx hb d_SH_writeProjected_79 (lv_at hl 0 rfl) ?_
        refine lv_iload_n hx hb d_SH_writeProjected_81 rfl (lv_at hl 3 rfl) ?_
        refine mt_Vi (As := [.int (tw_ST_valueOf b x6), .int (x6 + 1), .int ((tw_ST_placeOf (tw_ST_valueOf b x6)) - 1), .int p1]) (rest := []) (wr := [(aY, .inr (3, [.ref aS, .ref aW, .ref aF, .ref aK, .ref aN])), (aW, .inr (1, [.ref aS, .int place, .int limit, .int (b2i full)])), (aN, .inr (2, [.int nbase, .ref aNs, .int ncnt])), (aNs, .inl (cI, 201, .inl nsts))]) ⟨hx, hb, hml, hown, hT⟩ (c_SH_projected l D cB cI aH aS aY aP aV aPs aPe aPi aPh aPl aPn aB plc psr pbs pms _ pcnt pfix pown vplace vlimit vfull b pst pen pix (tw_ST_valueOf b x6) (x6 + 1) ((tw_ST_placeOf (tw_ST_valueOf b x6)) - 1) p1 (hkd)) (cwV 4 hT (gV_of k_605 k_607 kp_SH_projected k_8 kc_SH_projected) rfl rfl rfl hd_SH_projected ⟨Nat.le_of_ble_eq_true rfl, Nat.le_of_ble_eq_true rfl⟩) hk hP hD hS hA [0, 7, 8, 3, 4, 9, 10, 11] [1, 2, 5, 6] rfl rfl rfl (by decide) (by decide) (by decide) (q0 := 0) rfl rfl rfl rfl hl.1 rfl (Nat.le_of_ble_eq_true rfl) d_SH_writeProjected_82 ⟨Nat.zero_le _, Nat.zero_le _⟩ (fun r_7 u_7 H locs hw_7 hP hD hS => ?_)
        obtain ⟨pcnt_7, pfix_7, pown_7, vplace_7, vlimit_7, vfull_7, b_7, pst_7, pen_7, pix_7⟩ := u_7
        have hP : va_P D vwCl [(aH, .inr (6, [.ref aS, .ref aY, .ref aP])), (aY, .inr (3, [.ref aS, .ref aW, .ref aF, .ref aK, .ref aN])), (aW, .inr (1, [.ref aS, .int place, .int limit, .int (b2i full)])), (aS, .inr (0, [.ref aB])), (aB, .inl (cB, 202000, .inl (by_ b_7))), (aN, .inr (2, [.int nbase, .ref aNs, .int ncnt])), (aNs, .inl (cI, 201, .inl nsts)), (aP, .inr (5, [.ref aS, .ref aV, .ref aPs, .ref aPe, .ref aPi, .ref aPh, .int pcnt_7, .int (b2i pfix_7), .int pown_7, .ref aPl, .ref aPn, .int plc, .int psr, .int pbs, .int (b2i pms)])), (aV, .inr (1, [.ref aS, .int vplace_7, .int vlimit_7, .int (b2i vfull_7)])), (aPs, .inl (cI, 8, .inl pst_7)), (aPe, .inl (cI, 8, .inl pen_7)), (aPi, .inl (cI, 8, .inl pix_7))] H := hP.sub [4, 0, 1, 7, 8, 2, 3, 5, 6, 9, 10, 11] rfl
        have hD : va_D A [(aH, .inr (6, [.ref aS, .ref aY, .ref aP])), (aY, .inr (3, [.ref aS, .ref aW, .ref aF, .ref aK, .ref aN])), (aW, .inr (1, [.ref aS, .int place, .int limit, .int (b2i full)])), (aS, .inr (0, [.ref aB])), (aB, .inl (cB, 202000, .inl (by_ b_7))), (aN, .inr (2, [.int nbase, .ref aNs, .int ncnt])), (aNs, .inl (cI, 201, .inl nsts)), (aP, .inr (5, [.ref aS, .ref aV, .ref aPs, .ref aPe, .ref aPi, .ref aPh, .int pcnt_7, .int (b2i pfix_7), .int pown_7, .ref aPl, .ref aPn, .int plc, .int psr, .int pbs, .int (b2i pms)])), (aV, .inr (1, [.ref aS, .int vplace_7, .int vlimit_7, .int (b2i vfull_7)])), (aPs, .inl (cI, 8, .inl pst_7)), (aPe, .inl (cI, 8, .inl pen_7)), (aPi, .inl (cI, 8, .inl pix_7))] := hD.sub [4, 0, 1, 7, 8, 2, 3, 5, 6, 9, 10, 11] (by decide) rfl
        refine lv_istore (lv' := [(10, .int r_7), (9, .int ((tw_ST_placeOf (tw_ST_valueOf b x6)) - 1)), (8, .int (tw_ST_valueOf b x6)), (0, .ref aH), (2, .int p1), (3, .ref aW), (4, .int x4), (5, .int x5), (6, .int x6), (7, .int x7)]) hx hb d_SH_writeProjected_85 hl (by decide) rfl (fun ls hl => ?_)
        refine lv_iload hx hb d_SH_writeProjected_87 (lv_at hl 0 rfl) ?_
        refine lv_if_eq (tgt := 125) hx hb d_SH_writeProjected_89 (by decide) (fun c_8 => ?_) (fun c_8 => ?_)
        · refine lv_aload_n hx hb d_SH_writeProjected_125 rfl (lv_at hl 3 rfl) ?_
          refine va_get (D := D) (ci := 6) (v := .ref aS) (C := R_SH) (T := T_SH) (N := 3) hx hb hT u_SH hown hK hP 0 rfl rfl 0 (by decide) (hT _ k_196) (fun _ h9 => h9) rfl d_SH_writeProjected_126 ?_
          refine lv_iload hx hb d_SH_writeProjected_129 (lv_at hl 2 rfl) ?_
          refine rd_V (val := tw_ST_endOf b_7 (tw_ST_valueOf b x6)) (As := [.int (tw_ST_valueOf b x6)]) (rest := []) ⟨hx, hb, hml, hown, hT⟩ (c_ST_endOf l D cB cI aS aB b_7 (tw_ST_valueOf b x6)) (cwV 1 hT (gV_of k_558 k_416 k_417 k_2 kc_ST_endOf) rfl rfl rfl hd_ST_endOf ⟨Nat.le_of_ble_eq_true rfl, Nat.le_of_ble_eq_true rfl⟩) hk (hP.sub (ws' := [(aS, .inr (0, [.ref aB])), (aB, .inl (cB, 202000, .inl (by_ b_7)))]) [3, 4] rfl) (q0 := 0) rfl rfl rfl rfl hl.1 rfl (Nat.le_of_ble_eq_true rfl) d_SH_writeProjected_131 ⟨Nat.zero_le _, Nat.zero_le _⟩ ?_
          refine lv_istore (lv' := [(6, .int (tw_ST_endOf b_7 (tw_ST_valueOf b x6))), (10, .int r_7), (9, .int ((tw_ST_placeOf (tw_ST_valueOf b x6)) - 1)), (8, .int (tw_ST_valueOf b x6)), (0, .ref aH), (2, .int p1), (3, .ref aW), (4, .int x4), (5, .int x5), (7, .int x7)]) hx hb d_SH_writeProjected_134 hl (by decide) rfl (fun ls hl => ?_)
          refine lv_iinc (v := x7 + 1) (lv' := [(7, .int (x7 + 1)), (6, .int (tw_ST_endOf b_7 (tw_ST_valueOf b x6))), (10, .int r_7), (9, .int ((tw_ST_placeOf (tw_ST_valueOf b x6)) - 1)), (8, .int (tw_ST_valueOf b x6)), (0, .ref aH), (2, .int p1), (3, .ref aW), (4, .int x4), (5, .int x5)]) hx hb d_SH_writeProjected_136 hl (k := 9) rfl rfl (by decide) rfl (fun ls hl => ?_)
          refine lv_goto (tgt := 37) hx hb d_SH_writeProjected_139 (by decide) ?_
          exact ih (tw_ST_endOf b_7 (tw_ST_valueOf b x6)) (x7 + 1) place limit full b_7 pcnt_7 pfix_7 pown_7 vplace_7 vlimit_7 vfull_7 pst_7 pen_7 pix_7 (lp_up hm c_3) (hw9) (by rw [hV, tw_SH_writeProjected_h37, if_neg c_3, if_neg c_5, ← hw_7, tp11_mk, if_pos c_8]) _ _ hP hD hS ls (lv_sub hl [5, 6, 7, 8, 9, 1, 0] rfl)
        · refine lv_aload_n hx hb d_SH_writeProjected_92 rfl (lv_at hl 5 rfl) ?_
          refine lv_iload hx hb d_SH_writeProjected_93 (lv_at hl 0 rfl) ?_
          refine rd_S (val := tw_ST_kindOf r_7) (As := [.int r_7]) (rest := [.ref aW]) ⟨hx, hb, hml, hown, hT⟩ (c_ST_kindOf l D cB cI r_7) (va_cwS 1 hT (gS_of k_554 k_555 k_2 kc_ST_kindOf) rfl rfl rfl hd_ST_kindOf ⟨Nat.le_of_ble_eq_true rfl, Nat.le_of_ble_eq_true rfl⟩) hk (va_P_nil) rfl hl.1 rfl (Nat.le_of_ble_eq_true rfl) d_SH_writeProjected_95 ⟨Nat.zero_le _, Nat.zero_le _⟩ ?_
          refine lv_iload hx hb d_SH_writeProjected_98 (lv_at hl 8 rfl) ?_
          refine lv_iconst (v := 1) hx hb d_SH_writeProjected_100 (by decide) ?_
          refine lv_iadd hx hb d_SH_writeProjected_101 ?_
          refine lv_iload hx hb d_SH_writeProjected_102 (lv_at hl 1 rfl) ?_
          refine mt_Vv (As := [.int (tw_ST_kindOf r_7), .int (x6 + 1), .int ((tw_ST_placeOf (tw_ST_valueOf b x6)) - 1)]) (rest := []) (wr := [(aH, .inr (6, [.ref aS, .ref aY, .ref aP])), (aY, .inr (3, [.ref aS, .ref aW, .ref aF, .ref aK, .ref aN])), (aN, .inr (2, [.int nbase, .ref aNs, .int ncnt])), (aNs, .inl (cI, 201, .inl nsts)), (aP, .inr (5, [.ref aS, .ref aV, .ref aPs, .ref aPe, .ref aPi, .ref aPh, .int pcnt_7, .int (b2i pfix_7), .int pown_7, .ref aPl, .ref aPn, .int plc, .int psr, .int pbs, .int (b2i pms)])), (aV, .inr (1, [.ref aS, .int vplace_7, .int vlimit_7, .int (b2i vfull_7)])), (aPs, .inl (cI, 8, .inl pst_7)), (aPe, .inl (cI, 8, .inl pen_7)), (aPi, .inl (cI, 8, .inl pix_7))]) ⟨hx, hb, hml, hown, hT⟩ (c_WR_name l D cB cI aW aS aB L9 U9 A9 _ place limit full b_7 (tw_ST_kindOf r_7) (x6 + 1) ((tw_ST_placeOf (tw_ST_valueOf b x6)) - 1) (Or.inr (nm_le _)) hw9) (cwV 3 hT (gV_of k_652 k_653 k_654 k_5 kc_WR_name) rfl rfl rfl hd_WR_name ⟨Nat.le_of_ble_eq_true rfl, Nat.le_of_ble_eq_true rfl⟩) hk hP hD hS hA [2, 3, 4] [0, 1, 5, 6, 7, 8, 9, 10, 11] rfl rfl rfl (by decide) (by decide) (by decide) (q0 := 0) rfl rfl rfl rfl hl.1 rfl (Nat.le_of_ble_eq_true rfl) d_SH_writeProjected_104 ⟨Nat.zero_le _, Nat.zero_le _⟩ (fun u_9 H locs hw_9 hP hD hS => ?_)
          obtain ⟨place_9, limit_9, full_9, b_9⟩ := u_9
          obtain ⟨hw_9, hi_9⟩ := hw_9
          have hP : va_P D vwCl [(aH, .inr (6, [.ref aS, .ref aY, .ref aP])), (aY, .inr (3, [.ref aS, .ref aW, .ref aF, .ref aK, .ref aN])), (aW, .inr (1, [.ref aS, .int place_9, .int limit_9, .int (b2i full_9)])), (aS, .inr (0, [.ref aB])), (aB, .inl (cB, 202000, .inl (by_ b_9))), (aN, .inr (2, [.int nbase, .ref aNs, .int ncnt])), (aNs, .inl (cI, 201, .inl nsts)), (aP, .inr (5, [.ref aS, .ref aV, .ref aPs, .ref aPe, .ref aPi, .ref aPh, .int pcnt_7, .int (b2i pfix_7), .int pown_7, .ref aPl, .ref aPn, .int plc, .int psr, .int pbs, .int (b2i pms)])), (aV, .inr (1, [.ref aS, .int vplace_7, .int vlimit_7, .int (b2i vfull_7)])), (aPs, .inl (cI, 8, .inl pst_7)), (aPe, .inl (cI, 8, .inl pen_7)), (aPi, .inl (cI, 8, .inl pix_7))] H := hP.sub [0, 1, 9, 10, 11, 2, 3, 4, 5, 6, 7, 8] rfl
          have hD : va_D A [(aH, .inr (6, [.ref aS, .ref aY, .ref aP])), (aY, .inr (3, [.ref aS, .ref aW, .ref aF, .ref aK, .ref aN])), (aW, .inr (1, [.ref aS, .int place_9, .int limit_9, .int (b2i full_9)])), (aS, .inr (0, [.ref aB])), (aB, .inl (cB, 202000, .inl (by_ b_9))), (aN, .inr (2, [.int nbase, .ref aNs, .int ncnt])), (aNs, .inl (cI, 201, .inl nsts)), (aP, .inr (5, [.ref aS, .ref aV, .ref aPs, .ref aPe, .ref aPi, .ref aPh, .int pcnt_7, .int (b2i pfix_7), .int pown_7, .ref aPl, .ref aPn, .int plc, .int psr, .int pbs, .int (b2i pms)])), (aV, .inr (1, [.ref aS, .int vplace_7, .int vlimit_7, .int (b2i vfull_7)])), (aPs, .inl (cI, 8, .inl pst_7)), (aPe, .inl (cI, 8, .inl pen_7)), (aPi, .inl (cI, 8, .inl pix_7))] := hD.sub [0, 1, 9, 10, 11, 2, 3, 4, 5, 6, 7, 8] (by decide) rfl
          refine lv_aload_n hx hb d_SH_writeProjected_107 rfl (lv_at hl 5 rfl) ?_
          refine lv_iload hx hb d_SH_writeProjected_108 (lv_at hl 0 rfl) ?_
          refine rd_S (val := tw_ST_placeOf r_7) (As := [.int r_7]) (rest := [.ref aW]) ⟨hx, hb, hml, hown, hT⟩ (c_ST_placeOf l D cB cI r_7) (va_cwS 1 hT (gS_of k_559 k_403 k_2 kc_ST_placeOf) rfl rfl rfl hd_ST_placeOf ⟨Nat.le_of_ble_eq_true rfl, Nat.le_of_ble_eq_true rfl⟩) hk (va_P_nil) rfl hl.1 rfl (Nat.le_of_ble_eq_true rfl) d_SH_writeProjected_110 ⟨Nat.zero_le _, Nat.zero_le _⟩ ?_
          refine lv_aload_n hx hb d_SH_writeProjected_113 rfl (lv_at hl 3 rfl) ?_
          refine va_get (D := D) (ci := 6) (v := .ref aS) (C := R_SH) (T := T_SH) (N := 3) hx hb hT u_SH hown hK hP 0 rfl rfl 0 (by decide) (hT _ k_196) (fun _ h9 => h9) rfl d_SH_writeProjected_114 ?_
          refine lv_iload hx hb d_SH_writeProjected_117 (lv_at hl 0 rfl) ?_
          refine rd_V (val := tw_ST_endOf b_9 r_7) (As := [.int r_7]) (rest := [.int (tw_ST_placeOf r_7), .ref aW]) ⟨hx, hb, hml, hown, hT⟩ (c_ST_endOf l D cB cI aS aB b_9 r_7) (cwV 1 hT (gV_of k_558 k_416 k_417 k_2 kc_ST_endOf) rfl rfl rfl hd_ST_endOf ⟨Nat.le_of_ble_eq_true rfl, Nat.le_of_ble_eq_true rfl⟩) hk (hP.sub (ws' := [(aS, .inr (0, [.ref aB])), (aB, .inl (cB, 202000, .inl (by_ b_9)))]) [3, 4] rfl) (q0 := 0) rfl rfl rfl rfl hl.1 rfl (Nat.le_of_ble_eq_true rfl) d_SH_writeProjected_119 ⟨Nat.zero_le _, Nat.zero_le _⟩ ?_
          refine mt_Vv (As := [.int (tw_ST_placeOf r_7), .int (tw_ST_endOf b_9 r_7)]) (rest := []) (wr := [(aH, .inr (6, [.ref aS, .ref aY, .ref aP])), (aY, .inr (3, [.ref aS, .ref aW, .ref aF, .ref aK, .ref aN])), (aN, .inr (2, [.int nbase, .ref aNs, .int ncnt])), (aNs, .inl (cI, 201, .inl nsts)), (aP, .inr (5, [.ref aS, .ref aV, .ref aPs, .ref aPe, .ref aPi, .ref aPh, .int pcnt_7, .int (b2i pfix_7), .int pown_7, .ref aPl, .ref aPn, .int plc, .int psr, .int pbs, .int (b2i pms)])), (aV, .inr (1, [.ref aS, .int vplace_7, .int vlimit_7, .int (b2i vfull_7)])), (aPs, .inl (cI, 8, .inl pst_7)), (aPe, .inl (cI, 8, .inl pen_7)), (aPi, .inl (cI, 8, .inl pix_7))]) ⟨hx, hb, hml, hown, hT⟩ (c_WR_copy l D cB cI aW aS aB L9 U9 A9 _ place_9 limit_9 full_9 b_9 (tw_ST_placeOf r_7) (tw_ST_endOf b_9 r_7) (Or.inl (pl_le _)) hi_9) (cwV 2 hT (gV_of k_657 k_451 k_452 k_5 kc_WR_copy) rfl rfl rfl hd_WR_copy ⟨Nat.le_of_ble_eq_true rfl, Nat.le_of_ble_eq_true rfl⟩) hk hP hD hS hA [2, 3, 4] [0, 1, 5, 6, 7, 8, 9, 10, 11] rfl rfl rfl (by decide) (by decide) (by decide) (q0 := 0) rfl rfl rfl rfl hl.1 rfl (Nat.le_of_ble_eq_true rfl) d_SH_writeProjected_122 ⟨Nat.zero_le _, Nat.zero_le _⟩ (fun u_10 H locs hw_10 hP hD hS => ?_)
          obtain ⟨place_10, limit_10, full_10, b_10⟩ := u_10
          obtain ⟨hw_10, hi_10⟩ := hw_10
          have hP : va_P D vwCl [(aH, .inr (6, [.ref aS, .ref aY, .ref aP])), (aY, .inr (3, [.ref aS, .ref aW, .ref aF, .ref aK, .ref aN])), (aW, .inr (1, [.ref aS, .int place_10, .int limit_10, .int (b2i full_10)])), (aS, .inr (0, [.ref aB])), (aB, .inl (cB, 202000, .inl (by_ b_10))), (aN, .inr (2, [.int nbase, .ref aNs, .int ncnt])), (aNs, .inl (cI, 201, .inl nsts)), (aP, .inr (5, [.ref aS, .ref aV, .ref aPs, .ref aPe, .ref aPi, .ref aPh, .int pcnt_7, .int (b2i pfix_7), .int pown_7, .ref aPl, .ref aPn, .int plc, .int psr, .int pbs, .int (b2i pms)])), (aV, .inr (1, [.ref aS, .int vplace_7, .int vlimit_7, .int (b2i vfull_7)])), (aPs, .inl (cI, 8, .inl pst_7)), (aPe, .inl (cI, 8, .inl pen_7)), (aPi, .inl (cI, 8, .inl pix_7))] H := hP.sub [0, 1, 9, 10, 11, 2, 3, 4, 5, 6, 7, 8] rfl
          have hD : va_D A [(aH, .inr (6, [.ref aS, .ref aY, .ref aP])), (aY, .inr (3, [.ref aS, .ref aW, .ref aF, .ref aK, .ref aN])), (aW, .inr (1, [.ref aS, .int place_10, .int limit_10, .int (b2i full_10)])), (aS, .inr (0, [.ref aB])), (aB, .inl (cB, 202000, .inl (by_ b_10))), (aN, .inr (2, [.int nbase, .ref aNs, .int ncnt])), (aNs, .inl (cI, 201, .inl nsts)), (aP, .inr (5, [.ref aS, .ref aV, .ref aPs, .ref aPe, .ref aPi, .ref aPh, .int pcnt_7, .int (b2i pfix_7), .int pown_7, .ref aPl, .ref aPn, .int plc, .int psr, .int pbs, .int (b2i pms)])), (aV, .inr (1, [.ref aS, .int vplace_7, .int vlimit_7, .int (b2i vfull_7)])), (aPs, .inl (cI, 8, .inl pst_7)), (aPe, .inl (cI, 8, .inl pen_7)), (aPi, .inl (cI, 8, .inl pix_7))] := hD.sub [0, 1, 9, 10, 11, 2, 3, 4, 5, 6, 7, 8] (by decide) rfl
          refine lv_aload_n hx hb d_SH_writeProjected_125 rfl (lv_at hl 3 rfl) ?_
          refine va_get (D := D) (ci := 6) (v := .ref aS) (C := R_SH) (T := T_SH) (N := 3) hx hb hT u_SH hown hK hP 0 rfl rfl 0 (by decide) (hT _ k_196) (fun _ h9 => h9) rfl d_SH_writeProjected_126 ?_
          refine lv_iload hx hb d_SH_writeProjected_129 (lv_at hl 2 rfl) ?_
          refine rd_V (val := tw_ST_endOf b_10 (tw_ST_valueOf b x6)) (As := [.int (tw_ST_valueOf b x6)]) (rest := []) ⟨hx, hb, hml, hown, hT⟩ (c_ST_endOf l D cB cI aS aB b_10 (tw_ST_valueOf b x6)) (cwV 1 hT (gV_of k_558 k_416 k_417 k_2 kc_ST_endOf) rfl rfl rfl hd_ST_endOf ⟨Nat.le_of_ble_eq_true rfl, Nat.le_of_ble_eq_true rfl⟩) hk (hP.sub (ws' := [(aS, .inr (0, [.ref aB])), (aB, .inl (cB, 202000, .inl (by_ b_10)))]) [3, 4] rfl) (q0 := 0) rfl rfl rfl rfl hl.1 rfl (Nat.le_of_ble_eq_true rfl) d_SH_writeProjected_131 ⟨Nat.zero_le _, Nat.zero_le _⟩ ?_
          refine lv_istore (lv' := [(6, .int (tw_ST_endOf b_10 (tw_ST_valueOf b x6))), (10, .int r_7), (9, .int ((tw_ST_placeOf (tw_ST_valueOf b x6)) - 1)), (8, .int (tw_ST_valueOf b x6)), (0, .ref aH), (2, .int p1), (3, .ref aW), (4, .int x4), (5, .int x5), (7, .int x7)]) hx hb d_SH_writeProjected_134 hl (by decide) rfl (fun ls hl => ?_)
          refine lv_iinc (v := x7 + 1) (lv' := [(7, .int (x7 + 1)), (6, .int (tw_ST_endOf b_10 (tw_ST_valueOf b x6))), (10, .int r_7), (9, .int ((tw_ST_placeOf (tw_ST_valueOf b x6)) - 1)), (8, .int (tw_ST_valueOf b x6)), (0, .ref aH), (2, .int p1), (3, .ref aW), (4, .int x4), (5, .int x5)]) hx hb d_SH_writeProjected_136 hl (k := 9) rfl rfl (by decide) rfl (fun ls hl => ?_)
          refine lv_goto (tgt := 37) hx hb d_SH_writeProjected_139 (by decide) ?_
          exact ih (tw_ST_endOf b_10 (tw_ST_valueOf b x6)) (x7 + 1) place_10 limit_10 full_10 b_10 pcnt_7 pfix_7 pown_7 vplace_7 vlimit_7 vfull_7 pst_7 pen_7 pix_7 (lp_up hm c_3) (hi_10) (by rw [hV, tw_SH_writeProjected_h37, if_neg c_3, if_neg c_5, ← hw_7, tp11_mk, if_neg c_8, ← hw_9, tp4_mk, ← hw_10, tp4_mk]) _ _ hP hD hS ls (lv_sub hl [5, 6, 7, 8, 9, 1, 0] rfl)
set_option maxHeartbeats 4000000 in
set_option maxRecDepth 100000 in
theorem c_SH_writeProjected (l : Launch) (D : va_G) (cB cI : ClassId) (aH aS aY aP aW aF aK aN aB aNs aV aPs aPe aPi aPh aPl aPn : Nat) (nbase : Int32) (ncnt : Int32) (nsts : Nat → Int32) (plc : Int32) (psr : Int32) (pbs : Int32) (pms : Bool) (sz : Nat) (place : Int32) (limit : Int32) (full : Bool) (b : Nat → UInt8) (pcnt : Int32) (pfix : Bool) (pown : Int32) (vplace : Int32) (vlimit : Int32) (vfull : Bool) (pst : Nat → Int32) (pen : Nat → Int32) (pix : Nat → Int32) (p0 : Int32) (p1 : Int32) (he : be_ok nbase ncnt nsts) (hkd : tw_ST_kindOf p1 = 3) : Met l y_SH_writeProjected mw_SH_writeProjected { frames := 87, cells := 0, slots := 0, locals := 2089 } (va_Pc [.ref aH, .int p0, .int p1] (mt_P D cB cI (wd_SH_writeProjected aH aS aY aP aW aF aK aN aB aNs aV aPs aPe aPi aPh aPl aPn cB cI nbase ncnt nsts plc psr pbs pms place limit full b pcnt pfix pown vplace vlimit vfull pst pen pix) sz)) (va_Qv (fun (u : Int32 × Int32 × Bool × (Nat → UInt8) × Int32 × Bool × Int32 × Int32 × Int32 × Bool × (Nat → Int32) × (Nat → Int32) × (Nat → Int32)) => u = tw_SH_writeProjected nbase ncnt nsts place limit full b pcnt pfix pown vplace vlimit vfull pst pen pix p0 p1 ∧ w_en nbase ncnt nsts u.1 u.2.2.1) (mt_B D (va_A (wd_SH_writeProjected aH aS aY aP aW aF aK aN aB aNs aV aPs aPe aPi aPh aPl aPn cB cI nbase ncnt nsts plc psr pbs pms place limit full b pcnt pfix pown vplace vlimit vfull pst pen pix) sz) (fun u => wd_SH_writeProjected aH aS aY aP aW aF aK aN aB aNs aV aPs aPe aPi aPh aPl aPn cB cI nbase ncnt nsts plc psr pbs pms u.1 u.2.1 u.2.2.1 u.2.2.2.1 u.2.2.2.2.1 u.2.2.2.2.2.1 u.2.2.2.2.2.2.1 u.2.2.2.2.2.2.2.1 u.2.2.2.2.2.2.2.2.1 u.2.2.2.2.2.2.2.2.2.1 u.2.2.2.2.2.2.2.2.2.2.1 u.2.2.2.2.2.2.2.2.2.2.2.1 u.2.2.2.2.2.2.2.2.2.2.2.2)) (va_A (wd_SH_writeProjected aH aS aY aP aW aF aK aN aB aNs aV aPs aPe aPi aPh aPl aPn cB cI nbase ncnt nsts plc psr pbs pms place limit full b pcnt pfix pown vplace vlimit vfull pst pen pix) sz)) 0 0 (va_A (wd_SH_writeProjected aH aS aY aP aW aF aK aN aB aNs aV aPs aPe aPi aPh aPl aPn cB cI nbase ncnt nsts plc psr pbs pms place limit full b pcnt pfix pown vplace vlimit vfull pst pen pix) sz) := by
  refine Met.ofW (cc := b_SH_writeProjected) (maxL := 11) (ret := none) (by decide) rfl ?_
  intro p e s m args below meth c s₁ B0 hml hv
  obtain ⟨rfl, hsz, hP, hk, hD0⟩ := hv
  have hK := hk.1
  have hN := hk.2.1
  have hx := B0.exec
  have hb := B0.bytes
  have hr := B0.returns
  have hT : ∀ w ∈ lw_g, w.before _ s = true := fun w h => atoms_spec (ws := mw_SH_writeProjected) B0.pre w (List.mem_cons_of_mem _ h)
  have hown : s.vm.findClass R_SH = some m.cls := findClass_of_methodNamed B0.named
  have hlocks := B0.notSynchronized
  subst hsz
  have hD := hD0.self (sz := s.heap.size)
  generalize hAe : va_A [(aH, .inr (6, [.ref aS, .ref aY, .ref aP])), (aY, .inr (3, [.ref aS, .ref aW, .ref aF, .ref aK, .ref aN])), (aW, .inr (1, [.ref aS, .int place, .int limit, .int (b2i full)])), (aS, .inr (0, [.ref aB])), (aB, .inl (cB, 202000, .inl (by_ b))), (aN, .inr (2, [.int nbase, .ref aNs, .int ncnt])), (aNs, .inl (cI, 201, .inl nsts)), (aP, .inr (5, [.ref aS, .ref aV, .ref aPs, .ref aPe, .ref aPi, .ref aPh, .int pcnt, .int (b2i pfix), .int pown, .ref aPl, .ref aPn, .int plc, .int psr, .int pbs, .int (b2i pms)])), (aV, .inr (1, [.ref aS, .int vplace, .int vlimit, .int (b2i vfull)])), (aPs, .inl (cI, 8, .inl pst)), (aPe, .inl (cI, 8, .inl pen)), (aPi, .inl (cI, 8, .inl pix))] s.heap.size = A at hD ⊢
  have hA : ∀ q : Nat, s.heap.size ≤ q → A q := fun q h => by rw [← hAe]; exact Or.inr h
  have hS : va_S A s.heap s.heap [] := va_S.rf
  have hl := lv_entry ([.ref aH, .int p0, .int p1]) (n := 11) (Nat.le_of_ble_eq_true rfl)
  rw [lg_entry_eq]
  generalize (lg_sl ([.ref aH, .int p0, .int p1]) ++ List.replicate (11 - (lg_sl ([.ref aH, .int p0, .int p1])).length) Slot.unset).toArray = ls at hl ⊢
  have hl : lv_has ls 11 [(0, .ref aH), (1, .int p0), (2, .int p1)] := hl
  have C0 : lc_C p s m meth c _ b_SH_writeProjected 11 none R_SH lw_g := ⟨hx, hb, hml, hr, hown, hlocks, hT⟩
  refine lv_aload_n hx hb d_SH_writeProjected_0 rfl (lv_at hl 0 rfl) ?_
  refine va_get (D := D) (ci := 6) (v := .ref aY) (C := R_SH) (T := T_SH) (N := 3) hx hb hT u_SH hown hK hP 0 rfl rfl 1 (by decide) (hT _ k_197) (fun _ h9 => h9) rfl d_SH_writeProjected_1 ?_
  refine mt_Vr (As := []) (rest := []) (wr := [(aH, .inr (6, [.ref aS, .ref aY, .ref aP])), (aS, .inr (0, [.ref aB])), (aB, .inl (cB, 202000, .inl (by_ b))), (aP, .inr (5, [.ref aS, .ref aV, .ref aPs, .ref aPe, .ref aPi, .ref aPh, .int pcnt, .int (b2i pfix), .int pown, .ref aPl, .ref aPn, .int plc, .int psr, .int pbs, .int (b2i pms)])), (aV, .inr (1, [.ref aS, .int vplace, .int vlimit, .int (b2i vfull)])), (aPs, .inl (cI, 8, .inl pst)), (aPe, .inl (cI, 8, .inl pen)), (aPi, .inl (cI, 8, .inl pix))]) ⟨hx, hb, hml, hown, hT⟩ (c_BS_next l D cB cI aY aS aW aF aK aN aNs nbase ncnt nsts _ place limit full (he)) (cwV 0 hT (gV_of k_592 k_593 k_594 k_4 kc_BS_next) rfl rfl rfl hd_BS_next ⟨Nat.le_of_ble_eq_true rfl, Nat.le_of_ble_eq_true rfl⟩) hk hP hD hS hA [1, 2, 5, 6] [0, 3, 4, 7, 8, 9, 10, 11] rfl rfl rfl (by decide) (by decide) (by decide) (q0 := 0) rfl rfl rfl rfl hl.1 rfl (Nat.le_of_ble_eq_true rfl) d_SH_writeProjected_4 ⟨Nat.zero_le _, Nat.zero_le _⟩ (fun u_1 H locs hw_1 hP hD hS => ?_)
  obtain ⟨place_1, limit_1, full_1⟩ := u_1
  obtain ⟨hw_1, hi_1⟩ := hw_1
  have hP : va_P D vwCl [(aH, .inr (6, [.ref aS, .ref aY, .ref aP])), (aY, .inr (3, [.ref aS, .ref aW, .ref aF, .ref aK, .ref aN])), (aW, .inr (1, [.ref aS, .int place_1, .int limit_1, .int (b2i full_1)])), (aS, .inr (0, [.ref aB])), (aB, .inl (cB, 202000, .inl (by_ b))), (aN, .inr (2, [.int nbase, .ref aNs, .int ncnt])), (aNs, .inl (cI, 201, .inl nsts)), (aP, .inr (5, [.ref aS, .ref aV, .ref aPs, .ref aPe, .ref aPi, .ref aPh, .int pcnt, .int (b2i pfix), .int pown, .ref aPl, .ref aPn, .int plc, .int psr, .int pbs, .int (b2i pms)])), (aV, .inr (1, [.ref aS, .int vplace, .int vlimit, .int (b2i vfull)])), (aPs, .inl (cI, 8, .inl pst)), (aPe, .inl (cI, 8, .inl pen)), (aPi, .inl (cI, 8, .inl pix))] H := hP.sub [0, 8, 9, 1, 2, 10, 11, 3, 4, 5, 6, 7] rfl
  have hD : va_D A [(aH, .inr (6, [.ref aS, .ref aY, .ref aP])), (aY, .inr (3, [.ref aS, .ref aW, .ref aF, .ref aK, .ref aN])), (aW, .inr (1, [.ref aS, .int place_1, .int limit_1, .int (b2i full_1)])), (aS, .inr (0, [.ref aB])), (aB, .inl (cB, 202000, .inl (by_ b))), (aN, .inr (2, [.int nbase, .ref aNs, .int ncnt])), (aNs, .inl (cI, 201, .inl nsts)), (aP, .inr (5, [.ref aS, .ref aV, .ref aPs, .ref aPe, .ref aPi, .ref aPh, .int pcnt, .int (b2i pfix), .int pown, .ref aPl, .ref aPn, .int plc, .int psr, .int pbs, .int (b2i pms)])), (aV, .inr (1, [.ref aS, .int vplace, .int vlimit, .int (b2i vfull)])), (aPs, .inl (cI, 8, .inl pst)), (aPe, .inl (cI, 8, .inl pen)), (aPi, .inl (cI, 8, .inl pix))] := hD.sub [0, 8, 9, 1, 2, 10, 11, 3, 4, 5, 6, 7] (by decide) rfl
  refine lv_astore_n (lv' := [(3, .ref aW), (0, .ref aH), (1, .int p0), (2, .int p1)]) hx hb d_SH_writeProjected_7 rfl hl (by decide) rfl (fun ls hl => ?_)
  refine lv_aload_n hx hb d_SH_writeProjected_8 rfl (lv_at hl 0 rfl) ?_
  refine mt_Vi (As := []) (rest := []) (wr := [(aH, .inr (6, [.ref aS, .ref aY, .ref aP])), (aY, .inr (3, [.ref aS, .ref aW, .ref aF, .ref aK, .ref aN])), (aN, .inr (2, [.int nbase, .ref aNs, .int ncnt])), (aNs, .inl (cI, 201, .inl nsts)), (aP, .inr (5, [.ref aS, .ref aV, .ref aPs, .ref aPe, .ref aPi, .ref aPh, .int pcnt, .int (b2i pfix), .int pown, .ref aPl, .ref aPn, .int plc, .int psr, .int pbs, .int (b2i pms)])), (aV, .inr (1, [.ref aS, .int vplace, .int vlimit, .int (b2i vfull)])), (aPs, .inl (cI, 8, .inl pst)), (aPe, .inl (cI, 8, .inl pen)), (aPi, .inl (cI, 8, .inl pix))]) ⟨hx, hb, hml, hown, hT⟩ (c_WR_open l D cB cI aW aS aB limit_1 full_1 place_1 _ place_1 limit_1 full_1 b (w_r hi_1.1)) (cwV 0 hT (gV_of k_597 k_598 k_599 k_5 kc_WR_open) rfl rfl rfl hd_WR_open ⟨Nat.le_of_ble_eq_true rfl, Nat.le_of_ble_eq_true rfl⟩) hk hP hD hS hA [2, 3, 4] [0, 1, 5, 6, 7, 8, 9, 10, 11] rfl rfl rfl (by decide) (by decide) (by decide) (q0 := 0) rfl rfl rfl rfl hl.1 rfl (Nat.le_of_ble_eq_true rfl) d_SH_writeProjected_9 ⟨Nat.zero_le _, Nat.zero_le _⟩ (fun r_2 u_2 H locs hw_2 hP hD hS => ?_)
  obtain ⟨place_2, limit_2, full_2, b_2⟩ := u_2
  obtain ⟨hw_2, hi_2⟩ := hw_2
  have hP : va_P D vwCl [(aH, .inr (6, [.ref aS, .ref aY, .ref aP])), (aY, .inr (3, [.ref aS, .ref aW, .ref aF, .ref aK, .ref aN])), (aW, .inr (1, [.ref aS, .int place_2, .int limit_2, .int (b2i full_2)])), (aS, .inr (0, [.ref aB])), (aB, .inl (cB, 202000, .inl (by_ b_2))), (aN, .inr (2, [.int nbase, .ref aNs, .int ncnt])), (aNs, .inl (cI, 201, .inl nsts)), (aP, .inr (5, [.ref aS, .ref aV, .ref aPs, .ref aPe, .ref aPi, .ref aPh, .int pcnt, .int (b2i pfix), .int pown, .ref aPl, .ref aPn, .int plc, .int psr, .int pbs, .int (b2i pms)])), (aV, .inr (1, [.ref aS, .int vplace, .int vlimit, .int (b2i vfull)])), (aPs, .inl (cI, 8, .inl pst)), (aPe, .inl (cI, 8, .inl pen)), (aPi, .inl (cI, 8, .inl pix))] H := hP.sub [0, 1, 9, 10, 11, 2, 3, 4, 5, 6, 7, 8] rfl
  have hD : va_D A [(aH, .inr (6, [.ref aS, .ref aY, .ref aP])), (aY, .inr (3, [.ref aS, .ref aW, .ref aF, .ref aK, .ref aN])), (aW, .inr (1, [.ref aS, .int place_2, .int limit_2, .int (b2i full_2)])), (aS, .inr (0, [.ref aB])), (aB, .inl (cB, 202000, .inl (by_ b_2))), (aN, .inr (2, [.int nbase, .ref aNs, .int ncnt])), (aNs, .inl (cI, 201, .inl nsts)), (aP, .inr (5, [.ref aS, .ref aV, .ref aPs, .ref aPe, .ref aPi, .ref aPh, .int pcnt, .int (b2i pfix), .int pown, .ref aPl, .ref aPn, .int plc, .int psr, .int pbs, .int (b2i pms)])), (aV, .inr (1, [.ref aS, .int vplace, .int vlimit, .int (b2i vfull)])), (aPs, .inl (cI, 8, .inl pst)), (aPe, .inl (cI, 8, .inl pen)), (aPi, .inl (cI, 8, .inl pix))] := hD.sub [0, 1, 9, 10, 11, 2, 3, 4, 5, 6, 7, 8] (by decide) rfl
  refine lv_istore (lv' := [(4, .int r_2), (3, .ref aW), (0, .ref aH), (1, .int p0), (2, .int p1)]) hx hb d_SH_writeProjected_12 hl (by decide) rfl (fun ls hl => ?_)
  refine lv_aload_n hx hb d_SH_writeProjected_14 rfl (lv_at hl 2 rfl) ?_
  refine va_get (D := D) (ci := 6) (v := .ref aS) (C := R_SH) (T := T_SH) (N := 3) hx hb hT u_SH hown hK hP 0 rfl rfl 0 (by decide) (hT _ k_196) (fun _ h9 => h9) rfl d_SH_writeProjected_15 ?_
  refine lv_iload_n hx hb d_SH_writeProjected_18 rfl (lv_at hl 3 rfl) ?_
  refine rd_V (val := tw_ST_endOf b_2 p0) (As := [.int p0]) (rest := []) ⟨hx, hb, hml, hown, hT⟩ (c_ST_endOf l D cB cI aS aB b_2 p0) (cwV 1 hT (gV_of k_558 k_416 k_417 k_2 kc_ST_endOf) rfl rfl rfl hd_ST_endOf ⟨Nat.le_of_ble_eq_true rfl, Nat.le_of_ble_eq_true rfl⟩) hk (hP.sub (ws' := [(aS, .inr (0, [.ref aB])), (aB, .inl (cB, 202000, .inl (by_ b_2)))]) [3, 4] rfl) (q0 := 0) rfl rfl rfl rfl hl.1 rfl (Nat.le_of_ble_eq_true rfl) d_SH_writeProjected_19 ⟨Nat.zero_le _, Nat.zero_le _⟩ ?_
  refine lv_iconst (v := 1) hx hb d_SH_writeProjected_22 (by decide) ?_
  refine lv_isub hx hb d_SH_writeProjected_23 ?_
  refine lv_istore (lv' := [(5, .int ((tw_ST_endOf b_2 p0) - 1)), (4, .int r_2), (3, .ref aW), (0, .ref aH), (1, .int p0), (2, .int p1)]) hx hb d_SH_writeProjected_24 hl (by decide) rfl (fun ls hl => ?_)
  refine lv_iload_n hx hb d_SH_writeProjected_26 rfl (lv_at hl 4 rfl) ?_
  refine rd_S (val := tw_ST_placeOf p0) (As := [.int p0]) (rest := []) ⟨hx, hb, hml, hown, hT⟩ (c_ST_placeOf l D cB cI p0) (va_cwS 1 hT (gS_of k_559 k_403 k_2 kc_ST_placeOf) rfl rfl rfl hd_ST_placeOf ⟨Nat.le_of_ble_eq_true rfl, Nat.le_of_ble_eq_true rfl⟩) hk (va_P_nil) rfl hl.1 rfl (Nat.le_of_ble_eq_true rfl) d_SH_writeProjected_27 ⟨Nat.zero_le _, Nat.zero_le _⟩ ?_
  refine lv_iconst (v := 4) hx hb d_SH_writeProjected_30 (by decide) ?_
  refine lv_iadd hx hb d_SH_writeProjected_31 ?_
  refine lv_istore (lv' := [(6, .int ((tw_ST_placeOf p0) + 4)), (5, .int ((tw_ST_endOf b_2 p0) - 1)), (4, .int r_2), (3, .ref aW), (0, .ref aH), (1, .int p0), (2, .int p1)]) hx hb d_SH_writeProjected_32 hl (by decide) rfl (fun ls hl => ?_)
  refine lv_iconst (v := 0) hx hb d_SH_writeProjected_34 (by decide) ?_
  refine lv_istore (lv' := [(7, .int 0), (6, .int ((tw_ST_placeOf p0) + 4)), (5, .int ((tw_ST_endOf b_2 p0) - 1)), (4, .int r_2), (3, .ref aW), (0, .ref aH), (1, .int p0), (2, .int p1)]) hx hb d_SH_writeProjected_35 hl (by decide) rfl (fun ls hl => ?_)
  exact l_SH_writeProjected_h37 C0 l D cB cI aH aS aY aP aW aF aK aN aB aNs aV aPs aPe aPi aPh aPl aPn nbase ncnt nsts plc psr pbs pms hk hA p1 r_2 ((tw_ST_endOf b_2 p0) - 1) limit_1 full_1 place_1 (hi_1.2) hkd ((((1000 : Int32).toInt - (0 : Int32).toInt).toNat) + 1) ((tw_ST_placeOf p0) + 4) 0 place_2 limit_2 full_2 b_2 pcnt pfix pown vplace vlimit vfull pst pen pix (Nat.lt_succ_self _) (hi_2) (by rw [tw_SH_writeProjected, ← hw_1, tp3_mk, ← hw_2, tp5_mk]) _ _ hP hD hS ls (lv_sub hl [5, 7, 4, 3, 2, 1, 0] rfl)
