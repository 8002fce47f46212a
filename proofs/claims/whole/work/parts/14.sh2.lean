/-! printed by wip/gen -/
theorem k_550 : (Jvm.Cond.methodLink "PipelineBelt$Shaper" (23 : Nat) ({ cls := "PipelineBelt$Shaper", name := "faultOfProject", desc := "(I)I" } : Jvm.MethodName)) ∈ lw_g := lw_gm (List.mem_append_right _ (List.mem_of_getElem? (i := 550) (by decide +kernel))) rfl
theorem k_552 : (Jvm.Cond.instanceMethod ({ cls := "PipelineBelt$Shaper", name := "faultOfProject", desc := "(I)I" } : Jvm.MethodName)) ∈ lw_g := lw_gm (List.mem_append_right _ (List.mem_of_getElem? (i := 552) (by decide +kernel))) rfl
theorem k_582 : (Jvm.Cond.methodLink "PipelineBelt$Shaper" (39 : Nat) ({ cls := "PipelineBelt$Belts", name := "document", desc := "(I)I" } : Jvm.MethodName)) ∈ lw_g := lw_gm (List.mem_append_right _ (List.mem_of_getElem? (i := 582) (by decide +kernel))) rfl
theorem k_583 : (Jvm.Cond.instanceMethod ({ cls := "PipelineBelt$Belts", name := "document", desc := "(I)I" } : Jvm.MethodName)) ∈ lw_g := lw_gm (List.mem_append_right _ (List.mem_of_getElem? (i := 583) (by decide +kernel))) rfl
theorem k_584 : (Jvm.Cond.selects "PipelineBelt$Belts" ({ cls := "PipelineBelt$Belts", name := "document", desc := "(I)I" } : Jvm.MethodName) ({ cls := "PipelineBelt$Belts", name := "document", desc := "(I)I" } : Jvm.MethodName)) ∈ lw_g := lw_gm (List.mem_append_right _ (List.mem_of_getElem? (i := 584) (by decide +kernel))) rfl
theorem k_588 : (Jvm.Cond.methodLink "PipelineBelt$Shaper" (42 : Nat) ({ cls := "PipelineBelt$Shaper", name := "writeProjected", desc := "(II)V" } : Jvm.MethodName)) ∈ lw_g := lw_gm (List.mem_append_right _ (List.mem_of_getElem? (i := 588) (by decide +kernel))) rfl
theorem k_590 : (Jvm.Cond.instanceMethod ({ cls := "PipelineBelt$Shaper", name := "writeProjected", desc := "(II)V" } : Jvm.MethodName)) ∈ lw_g := lw_gm (List.mem_append_right _ (List.mem_of_getElem? (i := 590) (by decide +kernel))) rfl
theorem k_659 : (Jvm.Cond.methodLink "PipelineBelt$Shaper" (46 : Nat) ({ cls := "PipelineBelt$Belts", name := "accept", desc := "()Z" } : Jvm.MethodName)) ∈ lw_g := lw_gm (List.mem_append_right _ (List.mem_of_getElem? (i := 659) (by decide +kernel))) rfl
theorem k_660 : (Jvm.Cond.instanceMethod ({ cls := "PipelineBelt$Belts", name := "accept", desc := "()Z" } : Jvm.MethodName)) ∈ lw_g := lw_gm (List.mem_append_right _ (List.mem_of_getElem? (i := 660) (by decide +kernel))) rfl
theorem k_661 : (Jvm.Cond.selects "PipelineBelt$Belts" ({ cls := "PipelineBelt$Belts", name := "accept", desc := "()Z" } : Jvm.MethodName) ({ cls := "PipelineBelt$Belts", name := "accept", desc := "()Z" } : Jvm.MethodName)) ∈ lw_g := lw_gm (List.mem_append_right _ (List.mem_of_getElem? (i := 661) (by decide +kernel))) rfl
theorem k_673 : (Jvm.Cond.methodLink "PipelineBelt$Shaper" (117 : Nat) ({ cls := "PipelineBelt$Path", name := "startsWithDollar", desc := "(I)Z" } : Jvm.MethodName)) ∈ lw_g := lw_gm (List.mem_append_right _ (List.mem_of_getElem? (i := 673) (by decide +kernel))) rfl
theorem k_674 : (Jvm.Cond.methodLink "PipelineBelt$Shaper" (120 : Nat) ({ cls := "PipelineBelt$Path", name := "readBehindDollar", desc := "(I)Z" } : Jvm.MethodName)) ∈ lw_g := lw_gm (List.mem_append_right _ (List.mem_of_getElem? (i := 674) (by decide +kernel))) rfl
theorem k_675 : (Jvm.Cond.instanceMethod ({ cls := "PipelineBelt$Path", name := "readBehindDollar", desc := "(I)Z" } : Jvm.MethodName)) ∈ lw_g := lw_gm (List.mem_append_right _ (List.mem_of_getElem? (i := 675) (by decide +kernel))) rfl
theorem k_676 : (Jvm.Cond.selects "PipelineBelt$Path" ({ cls := "PipelineBelt$Path", name := "readBehindDollar", desc := "(I)Z" } : Jvm.MethodName) ({ cls := "PipelineBelt$Path", name := "readBehindDollar", desc := "(I)Z" } : Jvm.MethodName)) ∈ lw_g := lw_gm (List.mem_append_right _ (List.mem_of_getElem? (i := 676) (by decide +kernel))) rfl
theorem k_678 : (Jvm.Cond.methodLink "PipelineBelt$Shaper" (123 : Nat) ({ cls := "PipelineBelt$Path", name := "throughDocuments", desc := "(I)I" } : Jvm.MethodName)) ∈ lw_g := lw_gm (List.mem_append_right _ (List.mem_of_getElem? (i := 678) (by decide +kernel))) rfl
theorem k_679 : (Jvm.Cond.instanceMethod ({ cls := "PipelineBelt$Path", name := "throughDocuments", desc := "(I)I" } : Jvm.MethodName)) ∈ lw_g := lw_gm (List.mem_append_right _ (List.mem_of_getElem? (i := 679) (by decide +kernel))) rfl
theorem k_680 : (Jvm.Cond.selects "PipelineBelt$Path" ({ cls := "PipelineBelt$Path", name := "throughDocuments", desc := "(I)I" } : Jvm.MethodName) ({ cls := "PipelineBelt$Path", name := "throughDocuments", desc := "(I)I" } : Jvm.MethodName)) ∈ lw_g := lw_gm (List.mem_append_right _ (List.mem_of_getElem? (i := 680) (by decide +kernel))) rfl
theorem k_682 : (Jvm.Cond.methodLink "PipelineBelt$Shaper" (126 : Nat) ({ cls := "PipelineBelt$Shaper", name := "unwindRow", desc := "(II)Z" } : Jvm.MethodName)) ∈ lw_g := lw_gm (List.mem_append_right _ (List.mem_of_getElem? (i := 682) (by decide +kernel))) rfl
theorem k_684 : (Jvm.Cond.instanceMethod ({ cls := "PipelineBelt$Shaper", name := "unwindRow", desc := "(II)Z" } : Jvm.MethodName)) ∈ lw_g := lw_gm (List.mem_append_right _ (List.mem_of_getElem? (i := 684) (by decide +kernel))) rfl
theorem k_686 : (Jvm.Cond.methodLink "PipelineBelt$Shaper" (132 : Nat) ({ cls := "PipelineBelt$Shaper", name := "writeUnwound", desc := "(III)V" } : Jvm.MethodName)) ∈ lw_g := lw_gm (List.mem_append_right _ (List.mem_of_getElem? (i := 686) (by decide +kernel))) rfl
theorem k_688 : (Jvm.Cond.instanceMethod ({ cls := "PipelineBelt$Shaper", name := "writeUnwound", desc := "(III)V" } : Jvm.MethodName)) ∈ lw_g := lw_gm (List.mem_append_right _ (List.mem_of_getElem? (i := 688) (by decide +kernel))) rfl
theorem k_690 : (Jvm.Cond.methodLink "PipelineBelt$Shaper" (135 : Nat) ({ cls := "PipelineBelt$Belt", name := "start", desc := "(I)I" } : Jvm.MethodName)) ∈ lw_g := lw_gm (List.mem_append_right _ (List.mem_of_getElem? (i := 690) (by decide +kernel))) rfl
theorem k_691 : (Jvm.Cond.methodLink "PipelineBelt$Shaper" (141 : Nat) ({ cls := "PipelineBelt$Path", name := "lengthOfLastName", desc := "()I" } : Jvm.MethodName)) ∈ lw_g := lw_gm (List.mem_append_right _ (List.mem_of_getElem? (i := 691) (by decide +kernel))) rfl
theorem k_692 : (Jvm.Cond.instanceMethod ({ cls := "PipelineBelt$Path", name := "lengthOfLastName", desc := "()I" } : Jvm.MethodName)) ∈ lw_g := lw_gm (List.mem_append_right _ (List.mem_of_getElem? (i := 692) (by decide +kernel))) rfl
theorem k_693 : (Jvm.Cond.selects "PipelineBelt$Path" ({ cls := "PipelineBelt$Path", name := "lengthOfLastName", desc := "()I" } : Jvm.MethodName) ({ cls := "PipelineBelt$Path", name := "lengthOfLastName", desc := "()I" } : Jvm.MethodName)) ∈ lw_g := lw_gm (List.mem_append_right _ (List.mem_of_getElem? (i := 693) (by decide +kernel))) rfl
theorem k_695 : (Jvm.Cond.methodLink "PipelineBelt$Shaper" (144 : Nat) ({ cls := "PipelineBelt$Writer", name := "octet", desc := "(I)V" } : Jvm.MethodName)) ∈ lw_g := lw_gm (List.mem_append_right _ (List.mem_of_getElem? (i := 695) (by decide +kernel))) rfl
theorem k_696 : (Jvm.Cond.methodLink "PipelineBelt$Shaper" (152 : Nat) ({ cls := "PipelineBelt$Store", name := "int32", desc := "(I)I" } : Jvm.MethodName)) ∈ lw_g := lw_gm (List.mem_append_right _ (List.mem_of_getElem? (i := 696) (by decide +kernel))) rfl
theorem k_697 : (Jvm.Cond.methodLink "PipelineBelt$Shaper" (155 : Nat) ({ cls := "PipelineBelt$Writer", name := "resize", desc := "(II)V" } : Jvm.MethodName)) ∈ lw_g := lw_gm (List.mem_append_right _ (List.mem_of_getElem? (i := 697) (by decide +kernel))) rfl
theorem k_698 : (Jvm.Cond.methodLink "PipelineBelt$Shaper" (129 : Nat) ({ cls := "PipelineBelt$Belts", name := "keep", desc := "(I)Z" } : Jvm.MethodName)) ∈ lw_g := lw_gm (List.mem_append_right _ (List.mem_of_getElem? (i := 698) (by decide +kernel))) rfl
theorem k_699 : (Jvm.Cond.instanceMethod ({ cls := "PipelineBelt$Belts", name := "keep", desc := "(I)Z" } : Jvm.MethodName)) ∈ lw_g := lw_gm (List.mem_append_right _ (List.mem_of_getElem? (i := 699) (by decide +kernel))) rfl
theorem k_700 : (Jvm.Cond.selects "PipelineBelt$Belts" ({ cls := "PipelineBelt$Belts", name := "keep", desc := "(I)Z" } : Jvm.MethodName) ({ cls := "PipelineBelt$Belts", name := "keep", desc := "(I)Z" } : Jvm.MethodName)) ∈ lw_g := lw_gm (List.mem_append_right _ (List.mem_of_getElem? (i := 700) (by decide +kernel))) rfl
abbrev b_SH_project : ByteArray := prog_8_method_2_code
def y_SH_project : MethodName := ⟨R_SH, "project", "(I)I"⟩
theorem kc_SH_project : Cond.code y_SH_project b_SH_project 4 (some .int) ∈ lw_g := lw_gm (List.mem_append_right _ (List.mem_of_getElem? (i := 549) (by decide +kernel))) rfl
abbrev mw_SH_project : List Cond := Cond.code y_SH_project b_SH_project 4 (some .int) :: lw_g
theorem hd_SH_project : y_SH_project.cls = R_SH ∧ y_SH_project.cls ≠ "java/lang/invoke/MethodHandle" ∧ y_SH_project.cls ≠ "java/lang/invoke/VarHandle" ∧ (parseMethodDescriptor y_SH_project.desc).map (fun d => d.parameters.length) = some 1 := by decide +kernel
theorem d_SH_project_0 : decode b_SH_project 0 = .ok (.aload_n 0, 1) := by decide +kernel
theorem d_SH_project_1 : decode b_SH_project 1 = .ok (.iload_n 1, 1) := by decide +kernel
theorem d_SH_project_2 : decode b_SH_project 2 = .ok (.invokevirtual 23, 3) := by decide +kernel
theorem d_SH_project_5 : decode b_SH_project 5 = .ok (.istore_n 2, 1) := by decide +kernel
theorem d_SH_project_6 : decode b_SH_project 6 = .ok (.iconst 0, 1) := by decide +kernel
theorem d_SH_project_7 : decode b_SH_project 7 = .ok (.istore_n 3, 1) := by decide +kernel
theorem d_SH_project_8 : decode b_SH_project 8 = .ok (.iload_n 2, 1) := by decide +kernel
theorem d_SH_project_9 : decode b_SH_project 9 = .ok (.ifCond .ne 52, 3) := by decide +kernel
theorem d_SH_project_12 : decode b_SH_project 12 = .ok (.iload_n 3, 1) := by decide +kernel
theorem d_SH_project_13 : decode b_SH_project 13 = .ok (.aload_n 0, 1) := by decide +kernel
theorem d_SH_project_14 : decode b_SH_project 14 = .ok (.getfield 15, 3) := by decide +kernel
theorem d_SH_project_17 : decode b_SH_project 17 = .ok (.getfield 27, 3) := by decide +kernel
theorem d_SH_project_20 : decode b_SH_project 20 = .ok (.getfield 33, 3) := by decide +kernel
theorem d_SH_project_23 : decode b_SH_project 23 = .ok (.if_icmp .ge 38, 3) := by decide +kernel
theorem d_SH_project_26 : decode b_SH_project 26 = .ok (.aload_n 0, 1) := by decide +kernel
theorem d_SH_project_27 : decode b_SH_project 27 = .ok (.iload_n 1, 1) := by decide +kernel
theorem d_SH_project_28 : decode b_SH_project 28 = .ok (.aload_n 0, 1) := by decide +kernel
theorem d_SH_project_29 : decode b_SH_project 29 = .ok (.getfield 15, 3) := by decide +kernel
theorem d_SH_project_32 : decode b_SH_project 32 = .ok (.iload_n 3, 1) := by decide +kernel
theorem d_SH_project_33 : decode b_SH_project 33 = .ok (.invokevirtual 39, 3) := by decide +kernel
theorem d_SH_project_36 : decode b_SH_project 36 = .ok (.invokevirtual 42, 3) := by decide +kernel
theorem d_SH_project_39 : decode b_SH_project 39 = .ok (.aload_n 0, 1) := by decide +kernel
theorem d_SH_project_40 : decode b_SH_project 40 = .ok (.getfield 15, 3) := by decide +kernel
theorem d_SH_project_43 : decode b_SH_project 43 = .ok (.invokevirtual 46, 3) := by decide +kernel
theorem d_SH_project_46 : decode b_SH_project 46 = .ok (.ifCond .eq 7, 3) := by decide +kernel
theorem d_SH_project_49 : decode b_SH_project 49 = .ok (.iconst 0, 1) := by decide +kernel
theorem d_SH_project_50 : decode b_SH_project 50 = .ok (.goto 4, 3) := by decide +kernel
theorem d_SH_project_53 : decode b_SH_project 53 = .ok (.iconst 5, 1) := by decide +kernel
theorem d_SH_project_54 : decode b_SH_project 54 = .ok (.istore_n 2, 1) := by decide +kernel
theorem d_SH_project_55 : decode b_SH_project 55 = .ok (.iinc 3 1, 3) := by decide +kernel
theorem d_SH_project_58 : decode b_SH_project 58 = .ok (.goto (-50), 3) := by decide +kernel
theorem d_SH_project_61 : decode b_SH_project 61 = .ok (.iload_n 2, 1) := by decide +kernel
theorem d_SH_project_62 : decode b_SH_project 62 = .ok (.ireturn, 1) := by decide +kernel
abbrev b_SH_writeUnwound : ByteArray := prog_8_method_8_code
def y_SH_writeUnwound : MethodName := ⟨R_SH, "writeUnwound", "(III)V"⟩
theorem kc_SH_writeUnwound : Cond.code y_SH_writeUnwound b_SH_writeUnwound 11 none ∈ lw_g := lw_gm (List.mem_append_right _ (List.mem_of_getElem? (i := 689) (by decide +kernel))) rfl
abbrev mw_SH_writeUnwound : List Cond := Cond.code y_SH_writeUnwound b_SH_writeUnwound 11 none :: lw_g
theorem hd_SH_writeUnwound : y_SH_writeUnwound.cls = R_SH ∧ y_SH_writeUnwound.cls ≠ "java/lang/invoke/MethodHandle" ∧ y_SH_writeUnwound.cls ≠ "java/lang/invoke/VarHandle" ∧ (parseMethodDescriptor y_SH_writeUnwound.desc).map (fun d => d.parameters.length) = some 3 := by decide +kernel
theorem kp_SH_writeUnwound : Cond.selects R_SH y_SH_writeUnwound y_SH_writeUnwound ∈ lw_g := lw_gm (List.mem_append_left _ (by decide +kernel)) rfl
theorem d_SH_writeUnwound_0 : decode b_SH_writeUnwound 0 = .ok (.aload_n 0, 1) := by decide +kernel
theorem d_SH_writeUnwound_1 : decode b_SH_writeUnwound 1 = .ok (.getfield 15, 3) := by decide +kernel
theorem d_SH_writeUnwound_4 : decode b_SH_writeUnwound 4 = .ok (.invokevirtual 77, 3) := by decide +kernel
theorem d_SH_writeUnwound_7 : decode b_SH_writeUnwound 7 = .ok (.astore 4, 2) := by decide +kernel
theorem d_SH_writeUnwound_9 : decode b_SH_writeUnwound 9 = .ok (.aload_n 0, 1) := by decide +kernel
theorem d_SH_writeUnwound_10 : decode b_SH_writeUnwound 10 = .ok (.getfield 15, 3) := by decide +kernel
theorem d_SH_writeUnwound_13 : decode b_SH_writeUnwound 13 = .ok (.getfield 27, 3) := by decide +kernel
theorem d_SH_writeUnwound_16 : decode b_SH_writeUnwound 16 = .ok (.iload_n 1, 1) := by decide +kernel
theorem d_SH_writeUnwound_17 : decode b_SH_writeUnwound 17 = .ok (.invokevirtual 135, 3) := by decide +kernel
theorem d_SH_writeUnwound_20 : decode b_SH_writeUnwound 20 = .ok (.istore 5, 2) := by decide +kernel
theorem d_SH_writeUnwound_22 : decode b_SH_writeUnwound 22 = .ok (.aload 4, 2) := by decide +kernel
theorem d_SH_writeUnwound_24 : decode b_SH_writeUnwound 24 = .ok (.getfield 138, 3) := by decide +kernel
theorem d_SH_writeUnwound_27 : decode b_SH_writeUnwound 27 = .ok (.istore 6, 2) := by decide +kernel
theorem d_SH_writeUnwound_29 : decode b_SH_writeUnwound 29 = .ok (.iload_n 2, 1) := by decide +kernel
theorem d_SH_writeUnwound_30 : decode b_SH_writeUnwound 30 = .ok (.invokestatic 61, 3) := by decide +kernel
theorem d_SH_writeUnwound_33 : decode b_SH_writeUnwound 33 = .ok (.aload_n 0, 1) := by decide +kernel
theorem d_SH_writeUnwound_34 : decode b_SH_writeUnwound 34 = .ok (.getfield 19, 3) := by decide +kernel
theorem d_SH_writeUnwound_37 : decode b_SH_writeUnwound 37 = .ok (.invokevirtual 141, 3) := by decide +kernel
theorem d_SH_writeUnwound_40 : decode b_SH_writeUnwound 40 = .ok (.isub, 1) := by decide +kernel
theorem d_SH_writeUnwound_41 : decode b_SH_writeUnwound 41 = .ok (.iconst 2, 1) := by decide +kernel
theorem d_SH_writeUnwound_42 : decode b_SH_writeUnwound 42 = .ok (.isub, 1) := by decide +kernel
theorem d_SH_writeUnwound_43 : decode b_SH_writeUnwound 43 = .ok (.istore 7, 2) := by decide +kernel
theorem d_SH_writeUnwound_45 : decode b_SH_writeUnwound 45 = .ok (.aload_n 0, 1) := by decide +kernel
theorem d_SH_writeUnwound_46 : decode b_SH_writeUnwound 46 = .ok (.getfield 9, 3) := by decide +kernel
theorem d_SH_writeUnwound_49 : decode b_SH_writeUnwound 49 = .ok (.iload_n 2, 1) := by decide +kernel
theorem d_SH_writeUnwound_50 : decode b_SH_writeUnwound 50 = .ok (.invokevirtual 58, 3) := by decide +kernel
theorem d_SH_writeUnwound_53 : decode b_SH_writeUnwound 53 = .ok (.iload_n 2, 1) := by decide +kernel
theorem d_SH_writeUnwound_54 : decode b_SH_writeUnwound 54 = .ok (.invokestatic 61, 3) := by decide +kernel
theorem d_SH_writeUnwound_57 : decode b_SH_writeUnwound 57 = .ok (.isub, 1) := by decide +kernel
theorem d_SH_writeUnwound_58 : decode b_SH_writeUnwound 58 = .ok (.aload_n 0, 1) := by decide +kernel
theorem d_SH_writeUnwound_59 : decode b_SH_writeUnwound 59 = .ok (.getfield 9, 3) := by decide +kernel
theorem d_SH_writeUnwound_62 : decode b_SH_writeUnwound 62 = .ok (.iload_n 3, 1) := by decide +kernel
theorem d_SH_writeUnwound_63 : decode b_SH_writeUnwound 63 = .ok (.invokevirtual 58, 3) := by decide +kernel
theorem d_SH_writeUnwound_66 : decode b_SH_writeUnwound 66 = .ok (.isub, 1) := by decide +kernel
theorem d_SH_writeUnwound_67 : decode b_SH_writeUnwound 67 = .ok (.iload_n 3, 1) := by decide +kernel
theorem d_SH_writeUnwound_68 : decode b_SH_writeUnwound 68 = .ok (.invokestatic 61, 3) := by decide +kernel
theorem d_SH_writeUnwound_71 : decode b_SH_writeUnwound 71 = .ok (.iadd, 1) := by decide +kernel
theorem d_SH_writeUnwound_72 : decode b_SH_writeUnwound 72 = .ok (.istore 8, 2) := by decide +kernel
theorem d_SH_writeUnwound_74 : decode b_SH_writeUnwound 74 = .ok (.aload 4, 2) := by decide +kernel
theorem d_SH_writeUnwound_76 : decode b_SH_writeUnwound 76 = .ok (.iload 5, 2) := by decide +kernel
theorem d_SH_writeUnwound_78 : decode b_SH_writeUnwound 78 = .ok (.iload 7, 2) := by decide +kernel
theorem d_SH_writeUnwound_80 : decode b_SH_writeUnwound 80 = .ok (.invokevirtual 95, 3) := by decide +kernel
theorem d_SH_writeUnwound_83 : decode b_SH_writeUnwound 83 = .ok (.aload 4, 2) := by decide +kernel
theorem d_SH_writeUnwound_85 : decode b_SH_writeUnwound 85 = .ok (.iload_n 3, 1) := by decide +kernel
theorem d_SH_writeUnwound_86 : decode b_SH_writeUnwound 86 = .ok (.invokestatic 50, 3) := by decide +kernel
theorem d_SH_writeUnwound_89 : decode b_SH_writeUnwound 89 = .ok (.invokevirtual 144, 3) := by decide +kernel
theorem d_SH_writeUnwound_92 : decode b_SH_writeUnwound 92 = .ok (.aload 4, 2) := by decide +kernel
theorem d_SH_writeUnwound_94 : decode b_SH_writeUnwound 94 = .ok (.iload 7, 2) := by decide +kernel
theorem d_SH_writeUnwound_96 : decode b_SH_writeUnwound 96 = .ok (.iconst 1, 1) := by decide +kernel
theorem d_SH_writeUnwound_97 : decode b_SH_writeUnwound 97 = .ok (.iadd, 1) := by decide +kernel
theorem d_SH_writeUnwound_98 : decode b_SH_writeUnwound 98 = .ok (.iload_n 2, 1) := by decide +kernel
theorem d_SH_writeUnwound_99 : decode b_SH_writeUnwound 99 = .ok (.invokestatic 61, 3) := by decide +kernel
theorem d_SH_writeUnwound_102 : decode b_SH_writeUnwound 102 = .ok (.invokevirtual 95, 3) := by decide +kernel
theorem d_SH_writeUnwound_105 : decode b_SH_writeUnwound 105 = .ok (.aload 4, 2) := by decide +kernel
theorem d_SH_writeUnwound_107 : decode b_SH_writeUnwound 107 = .ok (.iload_n 3, 1) := by decide +kernel
theorem d_SH_writeUnwound_108 : decode b_SH_writeUnwound 108 = .ok (.invokestatic 61, 3) := by decide +kernel
theorem d_SH_writeUnwound_111 : decode b_SH_writeUnwound 111 = .ok (.aload_n 0, 1) := by decide +kernel
theorem d_SH_writeUnwound_112 : decode b_SH_writeUnwound 112 = .ok (.getfield 9, 3) := by decide +kernel
theorem d_SH_writeUnwound_115 : decode b_SH_writeUnwound 115 = .ok (.iload_n 3, 1) := by decide +kernel
theorem d_SH_writeUnwound_116 : decode b_SH_writeUnwound 116 = .ok (.invokevirtual 58, 3) := by decide +kernel
theorem d_SH_writeUnwound_119 : decode b_SH_writeUnwound 119 = .ok (.invokevirtual 95, 3) := by decide +kernel
theorem d_SH_writeUnwound_122 : decode b_SH_writeUnwound 122 = .ok (.aload 4, 2) := by decide +kernel
theorem d_SH_writeUnwound_124 : decode b_SH_writeUnwound 124 = .ok (.aload_n 0, 1) := by decide +kernel
theorem d_SH_writeUnwound_125 : decode b_SH_writeUnwound 125 = .ok (.getfield 9, 3) := by decide +kernel
theorem d_SH_writeUnwound_128 : decode b_SH_writeUnwound 128 = .ok (.iload_n 2, 1) := by decide +kernel
theorem d_SH_writeUnwound_129 : decode b_SH_writeUnwound 129 = .ok (.invokevirtual 58, 3) := by decide +kernel
theorem d_SH_writeUnwound_132 : decode b_SH_writeUnwound 132 = .ok (.aload_n 0, 1) := by decide +kernel
theorem d_SH_writeUnwound_133 : decode b_SH_writeUnwound 133 = .ok (.getfield 15, 3) := by decide +kernel
theorem d_SH_writeUnwound_136 : decode b_SH_writeUnwound 136 = .ok (.getfield 27, 3) := by decide +kernel
theorem d_SH_writeUnwound_139 : decode b_SH_writeUnwound 139 = .ok (.iload_n 1, 1) := by decide +kernel
theorem d_SH_writeUnwound_140 : decode b_SH_writeUnwound 140 = .ok (.iconst 1, 1) := by decide +kernel
theorem d_SH_writeUnwound_141 : decode b_SH_writeUnwound 141 = .ok (.iadd, 1) := by decide +kernel
theorem d_SH_writeUnwound_142 : decode b_SH_writeUnwound 142 = .ok (.invokevirtual 135, 3) := by decide +kernel
theorem d_SH_writeUnwound_145 : decode b_SH_writeUnwound 145 = .ok (.invokevirtual 95, 3) := by decide +kernel
theorem d_SH_writeUnwound_148 : decode b_SH_writeUnwound 148 = .ok (.iconst 0, 1) := by decide +kernel
theorem d_SH_writeUnwound_149 : decode b_SH_writeUnwound 149 = .ok (.istore 9, 2) := by decide +kernel
theorem d_SH_writeUnwound_151 : decode b_SH_writeUnwound 151 = .ok (.iload 9, 2) := by decide +kernel
theorem d_SH_writeUnwound_153 : decode b_SH_writeUnwound 153 = .ok (.aload_n 0, 1) := by decide +kernel
theorem d_SH_writeUnwound_154 : decode b_SH_writeUnwound 154 = .ok (.getfield 19, 3) := by decide +kernel
theorem d_SH_writeUnwound_157 : decode b_SH_writeUnwound 157 = .ok (.getfield 147, 3) := by decide +kernel
theorem d_SH_writeUnwound_160 : decode b_SH_writeUnwound 160 = .ok (.if_icmp .ge 53, 3) := by decide +kernel
theorem d_SH_writeUnwound_163 : decode b_SH_writeUnwound 163 = .ok (.iload 9, 2) := by decide +kernel
theorem d_SH_writeUnwound_165 : decode b_SH_writeUnwound 165 = .ok (.bipush 8, 2) := by decide +kernel
theorem d_SH_writeUnwound_167 : decode b_SH_writeUnwound 167 = .ok (.if_icmp .ge 46, 3) := by decide +kernel
theorem d_SH_writeUnwound_170 : decode b_SH_writeUnwound 170 = .ok (.aload_n 0, 1) := by decide +kernel
theorem d_SH_writeUnwound_171 : decode b_SH_writeUnwound 171 = .ok (.getfield 19, 3) := by decide +kernel
theorem d_SH_writeUnwound_174 : decode b_SH_writeUnwound 174 = .ok (.getfield 148, 3) := by decide +kernel
theorem d_SH_writeUnwound_177 : decode b_SH_writeUnwound 177 = .ok (.iload 9, 2) := by decide +kernel
theorem d_SH_writeUnwound_179 : decode b_SH_writeUnwound 179 = .ok (.iaload, 1) := by decide +kernel
theorem d_SH_writeUnwound_180 : decode b_SH_writeUnwound 180 = .ok (.istore 10, 2) := by decide +kernel
theorem d_SH_writeUnwound_182 : decode b_SH_writeUnwound 182 = .ok (.aload 4, 2) := by decide +kernel
theorem d_SH_writeUnwound_184 : decode b_SH_writeUnwound 184 = .ok (.iload 6, 2) := by decide +kernel
theorem d_SH_writeUnwound_186 : decode b_SH_writeUnwound 186 = .ok (.iload 10, 2) := by decide +kernel
theorem d_SH_writeUnwound_188 : decode b_SH_writeUnwound 188 = .ok (.iadd, 1) := by decide +kernel
theorem d_SH_writeUnwound_189 : decode b_SH_writeUnwound 189 = .ok (.iload 5, 2) := by decide +kernel
theorem d_SH_writeUnwound_191 : decode b_SH_writeUnwound 191 = .ok (.isub, 1) := by decide +kernel
theorem d_SH_writeUnwound_192 : decode b_SH_writeUnwound 192 = .ok (.aload_n 0, 1) := by decide +kernel
theorem d_SH_writeUnwound_193 : decode b_SH_writeUnwound 193 = .ok (.getfield 9, 3) := by decide +kernel
theorem d_SH_writeUnwound_196 : decode b_SH_writeUnwound 196 = .ok (.iload 10, 2) := by decide +kernel
theorem d_SH_writeUnwound_198 : decode b_SH_writeUnwound 198 = .ok (.invokevirtual 152, 3) := by decide +kernel
theorem d_SH_writeUnwound_201 : decode b_SH_writeUnwound 201 = .ok (.iload 8, 2) := by decide +kernel
theorem d_SH_writeUnwound_203 : decode b_SH_writeUnwound 203 = .ok (.isub, 1) := by decide +kernel
theorem d_SH_writeUnwound_204 : decode b_SH_writeUnwound 204 = .ok (.invokevirtual 155, 3) := by decide +kernel
theorem d_SH_writeUnwound_207 : decode b_SH_writeUnwound 207 = .ok (.iinc 9 1, 3) := by decide +kernel
theorem d_SH_writeUnwound_210 : decode b_SH_writeUnwound 210 = .ok (.goto (-59), 3) := by decide +kernel
theorem d_SH_writeUnwound_213 : decode b_SH_writeUnwound 213 = .ok (.return_, 1) := by decide +kernel
abbrev b_SH_unwindRow : ByteArray := prog_8_method_7_code
def y_SH_unwindRow : MethodName := ⟨R_SH, "unwindRow", "(II)Z"⟩
theorem kc_SH_unwindRow : Cond.code y_SH_unwindRow b_SH_unwindRow 7 (some .boolean) ∈ lw_g := lw_gm (List.mem_append_right _ (List.mem_of_getElem? (i := 685) (by decide +kernel))) rfl
abbrev mw_SH_unwindRow : List Cond := Cond.code y_SH_unwindRow b_SH_unwindRow 7 (some .boolean) :: lw_g
theorem hd_SH_unwindRow : y_SH_unwindRow.cls = R_SH ∧ y_SH_unwindRow.cls ≠ "java/lang/invoke/MethodHandle" ∧ y_SH_unwindRow.cls ≠ "java/lang/invoke/VarHandle" ∧ (parseMethodDescriptor y_SH_unwindRow.desc).map (fun d => d.parameters.length) = some 2 := by decide +kernel
theorem kp_SH_unwindRow : Cond.selects R_SH y_SH_unwindRow y_SH_unwindRow ∈ lw_g := lw_gm (List.mem_append_left _ (by decide +kernel)) rfl
theorem d_SH_unwindRow_0 : decode b_SH_unwindRow 0 = .ok (.aload_n 0, 1) := by decide +kernel
theorem d_SH_unwindRow_1 : decode b_SH_unwindRow 1 = .ok (.getfield 9, 3) := by decide +kernel
theorem d_SH_unwindRow_4 : decode b_SH_unwindRow 4 = .ok (.iload_n 2, 1) := by decide +kernel
theorem d_SH_unwindRow_5 : decode b_SH_unwindRow 5 = .ok (.invokevirtual 58, 3) := by decide +kernel
theorem d_SH_unwindRow_8 : decode b_SH_unwindRow 8 = .ok (.iconst 1, 1) := by decide +kernel
theorem d_SH_unwindRow_9 : decode b_SH_unwindRow 9 = .ok (.isub, 1) := by decide +kernel
theorem d_SH_unwindRow_10 : decode b_SH_unwindRow 10 = .ok (.istore_n 3, 1) := by decide +kernel
theorem d_SH_unwindRow_11 : decode b_SH_unwindRow 11 = .ok (.iload_n 2, 1) := by decide +kernel
theorem d_SH_unwindRow_12 : decode b_SH_unwindRow 12 = .ok (.invokestatic 61, 3) := by decide +kernel
theorem d_SH_unwindRow_15 : decode b_SH_unwindRow 15 = .ok (.iconst 4, 1) := by decide +kernel
theorem d_SH_unwindRow_16 : decode b_SH_unwindRow 16 = .ok (.iadd, 1) := by decide +kernel
theorem d_SH_unwindRow_17 : decode b_SH_unwindRow 17 = .ok (.istore 4, 2) := by decide +kernel
theorem d_SH_unwindRow_19 : decode b_SH_unwindRow 19 = .ok (.iconst 0, 1) := by decide +kernel
theorem d_SH_unwindRow_20 : decode b_SH_unwindRow 20 = .ok (.istore 5, 2) := by decide +kernel
theorem d_SH_unwindRow_22 : decode b_SH_unwindRow 22 = .ok (.iload 5, 2) := by decide +kernel
theorem d_SH_unwindRow_24 : decode b_SH_unwindRow 24 = .ok (.sipush 1000, 3) := by decide +kernel
theorem d_SH_unwindRow_27 : decode b_SH_unwindRow 27 = .ok (.if_icmp .ge 57, 3) := by decide +kernel
theorem d_SH_unwindRow_30 : decode b_SH_unwindRow 30 = .ok (.iload 4, 2) := by decide +kernel
theorem d_SH_unwindRow_32 : decode b_SH_unwindRow 32 = .ok (.iload_n 3, 1) := by decide +kernel
theorem d_SH_unwindRow_33 : decode b_SH_unwindRow 33 = .ok (.if_icmp .ge 51, 3) := by decide +kernel
theorem d_SH_unwindRow_36 : decode b_SH_unwindRow 36 = .ok (.aload_n 0, 1) := by decide +kernel
theorem d_SH_unwindRow_37 : decode b_SH_unwindRow 37 = .ok (.getfield 9, 3) := by decide +kernel
theorem d_SH_unwindRow_40 : decode b_SH_unwindRow 40 = .ok (.iload 4, 2) := by decide +kernel
theorem d_SH_unwindRow_42 : decode b_SH_unwindRow 42 = .ok (.invokevirtual 64, 3) := by decide +kernel
theorem d_SH_unwindRow_45 : decode b_SH_unwindRow 45 = .ok (.istore 6, 2) := by decide +kernel
theorem d_SH_unwindRow_47 : decode b_SH_unwindRow 47 = .ok (.aload_n 0, 1) := by decide +kernel
theorem d_SH_unwindRow_48 : decode b_SH_unwindRow 48 = .ok (.iload_n 1, 1) := by decide +kernel
theorem d_SH_unwindRow_49 : decode b_SH_unwindRow 49 = .ok (.iload_n 2, 1) := by decide +kernel
theorem d_SH_unwindRow_50 : decode b_SH_unwindRow 50 = .ok (.iload 6, 2) := by decide +kernel
theorem d_SH_unwindRow_52 : decode b_SH_unwindRow 52 = .ok (.invokevirtual 132, 3) := by decide +kernel
theorem d_SH_unwindRow_55 : decode b_SH_unwindRow 55 = .ok (.aload_n 0, 1) := by decide +kernel
theorem d_SH_unwindRow_56 : decode b_SH_unwindRow 56 = .ok (.getfield 15, 3) := by decide +kernel
theorem d_SH_unwindRow_59 : decode b_SH_unwindRow 59 = .ok (.invokevirtual 46, 3) := by decide +kernel
theorem d_SH_unwindRow_62 : decode b_SH_unwindRow 62 = .ok (.ifCond .ne 5, 3) := by decide +kernel
theorem d_SH_unwindRow_65 : decode b_SH_unwindRow 65 = .ok (.iconst 0, 1) := by decide +kernel
theorem d_SH_unwindRow_66 : decode b_SH_unwindRow 66 = .ok (.ireturn, 1) := by decide +kernel
theorem d_SH_unwindRow_67 : decode b_SH_unwindRow 67 = .ok (.aload_n 0, 1) := by decide +kernel
theorem d_SH_unwindRow_68 : decode b_SH_unwindRow 68 = .ok (.getfield 9, 3) := by decide +kernel
theorem d_SH_unwindRow_71 : decode b_SH_unwindRow 71 = .ok (.iload 6, 2) := by decide +kernel
theorem d_SH_unwindRow_73 : decode b_SH_unwindRow 73 = .ok (.invokevirtual 58, 3) := by decide +kernel
theorem d_SH_unwindRow_76 : decode b_SH_unwindRow 76 = .ok (.istore 4, 2) := by decide +kernel
theorem d_SH_unwindRow_78 : decode b_SH_unwindRow 78 = .ok (.iinc 5 1, 3) := by decide +kernel
theorem d_SH_unwindRow_81 : decode b_SH_unwindRow 81 = .ok (.goto (-59), 3) := by decide +kernel
theorem d_SH_unwindRow_84 : decode b_SH_unwindRow 84 = .ok (.iconst 1, 1) := by decide +kernel
theorem d_SH_unwindRow_85 : decode b_SH_unwindRow 85 = .ok (.ireturn, 1) := by decide +kernel
abbrev b_SH_unwind : ByteArray := prog_8_method_6_code
def y_SH_unwind : MethodName := ⟨R_SH, "unwind", "(I)I"⟩
theorem kc_SH_unwind : Cond.code y_SH_unwind b_SH_unwind 6 (some .int) ∈ lw_g := lw_gm (List.mem_append_right _ (List.mem_of_getElem? (i := 672) (by decide +kernel))) rfl
abbrev mw_SH_unwind : List Cond := Cond.code y_SH_unwind b_SH_unwind 6 (some .int) :: lw_g
theorem hd_SH_unwind : y_SH_unwind.cls = R_SH ∧ y_SH_unwind.cls ≠ "java/lang/invoke/MethodHandle" ∧ y_SH_unwind.cls ≠ "java/lang/invoke/VarHandle" ∧ (parseMethodDescriptor y_SH_unwind.desc).map (fun d => d.parameters.length) = some 1 := by decide +kernel
theorem d_SH_unwind_0 : decode b_SH_unwind 0 = .ok (.aload_n 0, 1) := by decide +kernel
theorem d_SH_unwind_1 : decode b_SH_unwind 1 = .ok (.getfield 19, 3) := by decide +kernel
theorem d_SH_unwind_4 : decode b_SH_unwind 4 = .ok (.iload_n 1, 1) := by decide +kernel
theorem d_SH_unwind_5 : decode b_SH_unwind 5 = .ok (.invokevirtual 117, 3) := by decide +kernel
theorem d_SH_unwind_8 : decode b_SH_unwind 8 = .ok (.ifCond .ne 5, 3) := by decide +kernel
theorem d_SH_unwind_11 : decode b_SH_unwind 11 = .ok (.iconst 2, 1) := by decide +kernel
theorem d_SH_unwind_12 : decode b_SH_unwind 12 = .ok (.ireturn, 1) := by decide +kernel
theorem d_SH_unwind_13 : decode b_SH_unwind 13 = .ok (.aload_n 0, 1) := by decide +kernel
theorem d_SH_unwind_14 : decode b_SH_unwind 14 = .ok (.getfield 19, 3) := by decide +kernel
theorem d_SH_unwind_17 : decode b_SH_unwind 17 = .ok (.iload_n 1, 1) := by decide +kernel
theorem d_SH_unwind_18 : decode b_SH_unwind 18 = .ok (.invokevirtual 120, 3) := by decide +kernel
theorem d_SH_unwind_21 : decode b_SH_unwind 21 = .ok (.ifCond .ne 5, 3) := by decide +kernel
theorem d_SH_unwind_24 : decode b_SH_unwind 24 = .ok (.iconst 3, 1) := by decide +kernel
theorem d_SH_unwind_25 : decode b_SH_unwind 25 = .ok (.ireturn, 1) := by decide +kernel
theorem d_SH_unwind_26 : decode b_SH_unwind 26 = .ok (.iconst 0, 1) := by decide +kernel
theorem d_SH_unwind_27 : decode b_SH_unwind 27 = .ok (.istore_n 2, 1) := by decide +kernel
theorem d_SH_unwind_28 : decode b_SH_unwind 28 = .ok (.iload_n 2, 1) := by decide +kernel
theorem d_SH_unwind_29 : decode b_SH_unwind 29 = .ok (.aload_n 0, 1) := by decide +kernel
theorem d_SH_unwind_30 : decode b_SH_unwind 30 = .ok (.getfield 15, 3) := by decide +kernel
theorem d_SH_unwind_33 : decode b_SH_unwind 33 = .ok (.getfield 27, 3) := by decide +kernel
theorem d_SH_unwind_36 : decode b_SH_unwind 36 = .ok (.getfield 33, 3) := by decide +kernel
theorem d_SH_unwind_39 : decode b_SH_unwind 39 = .ok (.if_icmp .ge 80, 3) := by decide +kernel
theorem d_SH_unwind_42 : decode b_SH_unwind 42 = .ok (.aload_n 0, 1) := by decide +kernel
theorem d_SH_unwind_43 : decode b_SH_unwind 43 = .ok (.getfield 19, 3) := by decide +kernel
theorem d_SH_unwind_46 : decode b_SH_unwind 46 = .ok (.aload_n 0, 1) := by decide +kernel
theorem d_SH_unwind_47 : decode b_SH_unwind 47 = .ok (.getfield 15, 3) := by decide +kernel
theorem d_SH_unwind_50 : decode b_SH_unwind 50 = .ok (.iload_n 2, 1) := by decide +kernel
theorem d_SH_unwind_51 : decode b_SH_unwind 51 = .ok (.invokevirtual 39, 3) := by decide +kernel
theorem d_SH_unwind_54 : decode b_SH_unwind 54 = .ok (.invokevirtual 123, 3) := by decide +kernel
theorem d_SH_unwind_57 : decode b_SH_unwind 57 = .ok (.istore_n 3, 1) := by decide +kernel
theorem d_SH_unwind_58 : decode b_SH_unwind 58 = .ok (.iload_n 3, 1) := by decide +kernel
theorem d_SH_unwind_59 : decode b_SH_unwind 59 = .ok (.invokestatic 50, 3) := by decide +kernel
theorem d_SH_unwind_62 : decode b_SH_unwind 62 = .ok (.istore 4, 2) := by decide +kernel
theorem d_SH_unwind_64 : decode b_SH_unwind 64 = .ok (.iconst 1, 1) := by decide +kernel
theorem d_SH_unwind_65 : decode b_SH_unwind 65 = .ok (.istore 5, 2) := by decide +kernel
theorem d_SH_unwind_67 : decode b_SH_unwind 67 = .ok (.iload 4, 2) := by decide +kernel
theorem d_SH_unwind_69 : decode b_SH_unwind 69 = .ok (.iconst 4, 1) := by decide +kernel
theorem d_SH_unwind_70 : decode b_SH_unwind 70 = .ok (.if_icmp .ne 14, 3) := by decide +kernel
theorem d_SH_unwind_73 : decode b_SH_unwind 73 = .ok (.aload_n 0, 1) := by decide +kernel
theorem d_SH_unwind_74 : decode b_SH_unwind 74 = .ok (.iload_n 2, 1) := by decide +kernel
theorem d_SH_unwind_75 : decode b_SH_unwind 75 = .ok (.iload_n 3, 1) := by decide +kernel
theorem d_SH_unwind_76 : decode b_SH_unwind 76 = .ok (.invokevirtual 126, 3) := by decide +kernel
theorem d_SH_unwind_79 : decode b_SH_unwind 79 = .ok (.istore 5, 2) := by decide +kernel
theorem d_SH_unwind_81 : decode b_SH_unwind 81 = .ok (.goto 25, 3) := by decide +kernel
theorem d_SH_unwind_84 : decode b_SH_unwind 84 = .ok (.iload 4, 2) := by decide +kernel
theorem d_SH_unwind_86 : decode b_SH_unwind 86 = .ok (.ifCond .eq 20, 3) := by decide +kernel
theorem d_SH_unwind_89 : decode b_SH_unwind 89 = .ok (.iload 4, 2) := by decide +kernel
theorem d_SH_unwind_91 : decode b_SH_unwind 91 = .ok (.bipush 10, 2) := by decide +kernel
theorem d_SH_unwind_93 : decode b_SH_unwind 93 = .ok (.if_icmp .eq 13, 3) := by decide +kernel
theorem d_SH_unwind_96 : decode b_SH_unwind 96 = .ok (.aload_n 0, 1) := by decide +kernel
theorem d_SH_unwind_97 : decode b_SH_unwind 97 = .ok (.getfield 15, 3) := by decide +kernel
theorem d_SH_unwind_100 : decode b_SH_unwind 100 = .ok (.iload_n 2, 1) := by decide +kernel
theorem d_SH_unwind_101 : decode b_SH_unwind 101 = .ok (.invokevirtual 129, 3) := by decide +kernel
theorem d_SH_unwind_104 : decode b_SH_unwind 104 = .ok (.istore 5, 2) := by decide +kernel
theorem d_SH_unwind_106 : decode b_SH_unwind 106 = .ok (.iload 5, 2) := by decide +kernel
theorem d_SH_unwind_108 : decode b_SH_unwind 108 = .ok (.ifCond .ne 5, 3) := by decide +kernel
theorem d_SH_unwind_111 : decode b_SH_unwind 111 = .ok (.iconst 5, 1) := by decide +kernel
theorem d_SH_unwind_112 : decode b_SH_unwind 112 = .ok (.ireturn, 1) := by decide +kernel
theorem d_SH_unwind_113 : decode b_SH_unwind 113 = .ok (.iinc 2 1, 3) := by decide +kernel
theorem d_SH_unwind_116 : decode b_SH_unwind 116 = .ok (.goto (-88), 3) := by decide +kernel
theorem d_SH_unwind_119 : decode b_SH_unwind 119 = .ok (.iconst 0, 1) := by decide +kernel
theorem d_SH_unwind_120 : decode b_SH_unwind 120 = .ok (.ireturn, 1) := by decide +kernel
theorem le30 {x : Int32} (h : x.toInt ≤ 202000) : x.toInt ≤ 1073741824 := by omega
theorem le_m1 {x : Int32} (h : 0 ≤ x.toInt) : -1 ≤ x.toInt := by omega

abbrev wd_SH_project (aH aS aY aP aW aF aK aN aB aNs aV aPs aPe aPi aPh aPl aPn aFs : Nat) (cB cI : ClassId) (nbase : Int32) (fbase : Int32) (plc : Int32) (psr : Int32) (pbs : Int32) (pms : Bool) (fcnt : Int32) (fsts : Nat → Int32) (place : Int32) (limit : Int32) (full : Bool) (b : Nat → UInt8) (ncnt : Int32) (nsts : Nat → Int32) (pcnt : Int32) (pfix : Bool) (pown : Int32) (vplace : Int32) (vlimit : Int32) (vfull : Bool) (pst : Nat → Int32) (pen : Nat → Int32) (pix : Nat → Int32) : va_W := [(aH, .inr (6, [.ref aS, .ref aY, .ref aP])), (aY, .inr (3, [.ref aS, .ref aW, .ref aF, .ref aK, .ref aN])), (aW, .inr (1, [.ref aS, .int place, .int limit, .int (b2i full)])), (aS, .inr (0, [.ref aB])), (aB, .inl (cB, 202000, .inl (by_ b))), (aN, .inr (2, [.int nbase, .ref aNs, .int ncnt])), (aNs, .inl (cI, 201, .inl nsts)), (aP, .inr (5, [.ref aS, .ref aV, .ref aPs, .ref aPe, .ref aPi, .ref aPh, .int pcnt, .int (b2i pfix), .int pown, .ref aPl, .ref aPn, .int plc, .int psr, .int pbs, .int (b2i pms)])), (aV, .inr (1, [.ref aS, .int vplace, .int vlimit, .int (b2i vfull)])), (aPs, .inl (cI, 8, .inl pst)), (aPe, .inl (cI, 8, .inl pen)), (aPi, .inl (cI, 8, .inl pix)), (aF, .inr (2, [.int fbase, .ref aFs, .int fcnt])), (aFs, .inl (cI, 201, .inl fsts))]
set_option maxHeartbeats 4000000 in
set_option maxRecDepth 100000 in
theorem l_SH_project_h8 {p : Program} {e : Env} {s : State} {m : MethodId} {args : Array Value} {below : List Frame} {meth : Method} {c : Code} {V : Int32 × Int32 × Int32 × Bool × (Nat → UInt8) × Int32 × (Nat → Int32) × Int32 × Bool × Int32 × Int32 × Int32 × Bool × (Nat → Int32) × (Nat → Int32) × (Nat → Int32)} (C0 : lc_C p s m meth c args b_SH_project 4 (some .int) R_SH lw_g) (l : Launch) (D : va_G) (cB cI : ClassId) (aH aS aY aP aW aF aK aN aB aNs aV aPs aPe aPi aPh aPl aPn aFs : Nat) (nbase : Int32) (fbase : Int32) (plc : Int32) (psr : Int32) (pbs : Int32) (pms : Bool) (fcnt : Int32) (fsts : Nat → Int32) {A : Nat → Prop} (hk : hk_ D cB cI s) (hA : ∀ q : Nat, s.heap.size ≤ q → A q) (p0 : Int32) : ∀ (n : Nat) (x2 : Int32) (x3 : Int32) (place : Int32) (limit : Int32) (full : Bool) (b : Nat → UInt8) (ncnt : Int32) (nsts : Nat → Int32) (pcnt : Int32) (pfix : Bool) (pown : Int32) (vplace : Int32) (vlimit : Int32) (vfull : Bool) (pst : Nat → Int32) (pen : Nat → Int32) (pix : Nat → Int32), (fcnt.toInt - x3.toInt).toNat < n → be_ok nbase ncnt nsts → V = tw_SH_project_h8 nbase fbase fcnt fsts p0 n x2 x3 place limit full b ncnt nsts pcnt pfix pown vplace vlimit vfull pst pen pix → ∀ (H : Heap) (locs : List Loc), va_P D vwCl [(aH, .inr (6, [.ref aS, .ref aY, .ref aP])), (aY, .inr (3, [.ref aS, .ref aW, .ref aF, .ref aK, .ref aN])), (aW, .inr (1, [.ref aS, .int place, .int limit, .int (b2i full)])), (aS, .inr (0, [.ref aB])), (aB, .inl (cB, 202000, .inl (by_ b))), (aN, .inr (2, [.int nbase, .ref aNs, .int ncnt])), (aNs, .inl (cI, 201, .inl nsts)), (aP, .inr (5, [.ref aS, .ref aV, .ref aPs, .ref aPe, .ref aPi, .ref aPh, .int pcnt, .int (b2i pfix), .int pown, .ref aPl, .ref aPn, .int plc, .int psr, .int pbs, .int (b2i pms)])), (aV, .inr (1, [.ref aS, .int vplace, .int vlimit, .int (b2i vfull)])), (aPs, .inl (cI, 8, .inl pst)), (aPe, .inl (cI, 8, .inl pen)), (aPi, .inl (cI, 8, .inl pix)), (aF, .inr (2, [.int fbase, .ref aFs, .int fcnt])), (aFs, .inl (cI, 201, .inl fsts))] H → va_D A [(aH, .inr (6, [.ref aS, .ref aY, .ref aP])), (aY, .inr (3, [.ref aS, .ref aW, .ref aF, .ref aK, .ref aN])), (aW, .inr (1, [.ref aS, .int place, .int limit, .int (b2i full)])), (aS, .inr (0, [.ref aB])), (aB, .inl (cB, 202000, .inl (by_ b))), (aN, .inr (2, [.int nbase, .ref aNs, .int ncnt])), (aNs, .inl (cI, 201, .inl nsts)), (aP, .inr (5, [.ref aS, .ref aV, .ref aPs, .ref aPe, .ref aPi, .ref aPh, .int pcnt, .int (b2i pfix), .int pown, .ref aPl, .ref aPn, .int plc, .int psr, .int pbs, .int (b2i pms)])), (aV, .inr (1, [.ref aS, .int vplace, .int vlimit, .int (b2i vfull)])), (aPs, .inl (cI, 8, .inl pst)), (aPe, .inl (cI, 8, .inl pen)), (aPi, .inl (cI, 8, .inl pix)), (aF, .inr (2, [.int fbase, .ref aFs, .int fcnt])), (aFs, .inl (cI, 201, .inl fsts))] → va_S A s.heap H locs → ∀ ls : Array Slot, lv_has ls 4 [(0, .ref aH), (1, .int p0), (2, .int x2), (3, .int x3)] → W p l e ({ frames := 88, cells := 0, slots := 0, locals := 2119 }) s m args below meth c H locs 0 0 (MQ below (va_Qi (fun (r : Int32) (u : Int32 × Int32 × Bool × (Nat → UInt8) × Int32 × (Nat → Int32) × Int32 × Bool × Int32 × Int32 × Int32 × Bool × (Nat → Int32) × (Nat → Int32) × (Nat → Int32)) => (r, u) = V ∧ be_ok nbase u.2.2.2.2.1 u.2.2.2.2.2.1) (mt_B D A (fun u => wd_SH_project aH aS aY aP aW aF aK aN aB aNs aV aPs aPe aPi aPh aPl aPn aFs cB cI nbase fbase plc psr pbs pms fcnt fsts u.1 u.2.1 u.2.2.1 u.2.2.2.1 u.2.2.2.2.1 u.2.2.2.2.2.1 u.2.2.2.2.2.2.1 u.2.2.2.2.2.2.2.1 u.2.2.2.2.2.2.2.2.1 u.2.2.2.2.2.2.2.2.2.1 u.2.2.2.2.2.2.2.2.2.2.1 u.2.2.2.2.2.2.2.2.2.2.2.1 u.2.2.2.2.2.2.2.2.2.2.2.2.1 u.2.2.2.2.2.2.2.2.2.2.2.2.2.1 u.2.2.2.2.2.2.2.2.2.2.2.2.2.2)) A) args s 0 0 A) (F0 m 8 ls []) := by
  obtain ⟨hx, hb, hml, hr, hown, hlocks, hT⟩ := id C0
  have hK := hk.1
  have hN := hk.2.1
  intro n
  induction n with
  | zero =>
    intro x2 x3 place limit full b ncnt nsts pcnt pfix pown vplace vlimit vfull pst pen pix hm
    exact absurd hm (Nat.not_lt_zero _)
  | succ n ih =>
    intro x2 x3 place limit full b ncnt nsts pcnt pfix pown vplace vlimit vfull pst pen pix hm hi hV H locs hP hD hS ls hl
    refine lv_iload_n hx hb d_SH_project_8 rfl (lv_at hl 2 rfl) ?_
    refine lv_if_ne (tgt := 61) hx hb d_SH_project_9 (by decide) (fun c_2 => ?_) (fun c_2 => ?_)
    · refine lv_iload_n hx hb d_SH_project_61 rfl (lv_at hl 2 rfl) ?_
      exact W.iret (v := x2) hx hb hr (fun t ht hW => ⟨⟨x2, (place, limit, full, b, ncnt, nsts, pcnt, pfix, pown, vplace, vlimit, vfull, pst, pen, pix), rfl, ⟨(by rw [hV, tw_SH_project_h8, if_neg c_2]; first | done | rfl), hi⟩, by rw [ht]; exact hP, hD⟩, hS.F ht⟩) hS.2.2 d_SH_project_62
    · refine lv_iload_n hx hb d_SH_project_12 rfl (lv_at hl 3 rfl) ?_
      refine lv_aload_n hx hb d_SH_project_13 rfl (lv_at hl 0 rfl) ?_
      refine va_get (D := D) (ci := 6) (v := .ref aY) (C := R_SH) (T := T_SH) (N := 3) hx hb hT u_SH hown hK hP 0 rfl rfl 1 (by decide) (hT _ k_197) (fun _ h9 => h9) rfl d_SH_project_14 ?_
      refine va_getN (D := D) (ci := 3) (v := .ref aF) (C := R_BS) (T := T_BS) (N := 5) hx hb hT u_BS hown hK hP 1 rfl rfl 2 (by decide) (va_Nw.use rfl (hN ("PipelineBelt$Shaper", 27, "PipelineBelt$Belts", "front", "LPipelineBelt$Belt;", "PipelineBelt") (by decide))) (fun _ h9 => h9) rfl d_SH_project_17 ?_
      refine va_getN (D := D) (ci := 2) (v := .int fcnt) (C := R_BE) (T := T_BE) (N := 3) hx hb hT u_BE hown hK hP 12 rfl rfl 2 (by decide) (va_Nw.use rfl (hN ("PipelineBelt$Shaper", 33, "PipelineBelt$Belt", "count", "I", "PipelineBelt") (by decide))) (fun _ h9 => h9) rfl d_SH_project_20 ?_
      refine lv_icmp_ge (tgt := 61) hx hb d_SH_project_23 (by decide) (fun c_3 => ?_) (fun c_3 => ?_)
      · refine lv_iload_n hx hb d_SH_project_61 rfl (lv_at hl 2 rfl) ?_
        exact W.iret (v := x2) hx hb hr (fun t ht hW => ⟨⟨x2, (place, limit, full, b, ncnt, nsts, pcnt, pfix, pown, vplace, vlimit, vfull, pst, pen, pix), rfl, ⟨(by rw [hV, tw_SH_project_h8, if_pos c_2, if_pos c_3]; first | done | rfl), hi⟩, by rw [ht]; exact hP, hD⟩, hS.F ht⟩) hS.2.2 d_SH_project_62
      · refine lv_aload_n hx hb d_SH_project_26 rfl (lv_at hl 0 rfl) ?_
        refine lv_iload_n hx hb d_SH_project_27 rfl (lv_at hl 1 rfl) ?_
        refine lv_aload_n hx hb d_SH_project_28 rfl (lv_at hl 0 rfl) ?_
        refine va_get (D := D) (ci := 6) (v := .ref aY) (C := R_SH) (T := T_SH) (N := 3) hx hb hT u_SH hown hK hP 0 rfl rfl 1 (by decide) (hT _ k_197) (fun _ h9 => h9) rfl d_SH_project_29 ?_
        refine lv_iload_n hx hb d_SH_project_32 rfl (lv_at hl 3 rfl) ?_
        refine rd_V (val := tw_BS_document fbase fcnt fsts x3) (As := [.int x3]) (rest := [.int p0, .ref aH]) ⟨hx, hb, hml, hown, hT⟩ (c_BS_document l D cB cI aY aS aW aF aK aN aFs fbase fcnt fsts x3) (cwV 1 hT (gV_of k_582 k_583 k_584 k_4 kc_BS_document) rfl rfl rfl hd_BS_document ⟨Nat.le_of_ble_eq_true rfl, Nat.le_of_ble_eq_true rfl⟩) hk (hP.sub (ws' := [(aY, .inr (3, [.ref aS, .ref aW, .ref aF, .ref aK, .ref aN])), (aF, .inr (2, [.int fbase, .ref aFs, .int fcnt])), (aFs, .inl (cI, 201, .inl fsts))]) [1, 12, 13] rfl) (q0 := 0) rfl rfl rfl rfl hl.1 rfl (Nat.le_of_ble_eq_true rfl) d_SH_project_33 ⟨Nat.zero_le _, Nat.zero_le _⟩ ?_
        refine mt_Vv (As := [.int p0, .int (tw_BS_document fbase fcnt fsts x3)]) (rest := []) (wr := [(aF, .inr (2, [.int fbase, .ref aFs, .int fcnt])), (aFs, .inl (cI, 201, .inl fsts))]) ⟨hx, hb, hml, hown, hT⟩ (c_SH_writeProjected l D cB cI aH aS aY aP aW aF aK aN aB aNs aV aPs aPe aPi aPh aPl aPn nbase ncnt nsts plc psr pbs pms _ place limit full b pcnt pfix pown vplace vlimit vfull pst pen pix p0 (tw_BS_document fbase fcnt fsts x3) (hi) (kd_doc)) (cwV 2 hT (gV_of k_588 k_590 kp_SH_writeProjected k_8 kc_SH_writeProjected) rfl rfl rfl hd_SH_writeProjected ⟨Nat.le_of_ble_eq_true rfl, Nat.le_of_ble_eq_true rfl⟩) hk hP hD hS hA [0, 1, 2, 3, 4, 5, 6, 7, 8, 9, 10, 11] [12, 13] rfl rfl rfl (by decide) (by decide) (by decide) (q0 := 0) rfl rfl rfl rfl hl.1 rfl (Nat.le_of_ble_eq_true rfl) d_SH_project_36 ⟨Nat.zero_le _, Nat.zero_le _⟩ (fun u_4 H locs hw_4 hP hD hS => ?_)
        obtain ⟨place_4, limit_4, full_4, b_4, pcnt_4, pfix_4, pown_4, vplace_4, vlimit_4, vfull_4, pst_4, pen_4, pix_4⟩ := u_4
        obtain ⟨hw_4, hi_4⟩ := hw_4
        have hP : va_P D vwCl [(aH, .inr (6, [.ref aS, .ref aY, .ref aP])), (aY, .inr (3, [.ref aS, .ref aW, .ref aF, .ref aK, .ref aN])), (aW, .inr (1, [.ref aS, .int place_4, .int limit_4, .int (b2i full_4)])), (aS, .inr (0, [.ref aB])), (aB, .inl (cB, 202000, .inl (by_ b_4))), (aN, .inr (2, [.int nbase, .ref aNs, .int ncnt])), (aNs, .inl (cI, 201, .inl nsts)), (aP, .inr (5, [.ref aS, .ref aV, .ref aPs, .ref aPe, .ref aPi, .ref aPh, .int pcnt_4, .int (b2i pfix_4), .int pown_4, .ref aPl, .ref aPn, .int plc, .int psr, .int pbs, .int (b2i pms)])), (aV, .inr (1, [.ref aS, .int vplace_4, .int vlimit_4, .int (b2i vfull_4)])), (aPs, .inl (cI, 8, .inl pst_4)), (aPe, .inl (cI, 8, .inl pen_4)), (aPi, .inl (cI, 8, .inl pix_4)), (aF, .inr (2, [.int fbase, .ref aFs, .int fcnt])), (aFs, .inl (cI, 201, .inl fsts))] H := hP.sub [2, 3, 4, 5, 6, 7, 8, 9, 10, 11, 12, 13, 0, 1] rfl
        have hD : va_D A [(aH, .inr (6, [.ref aS, .ref aY, .ref aP])), (aY, .inr (3, [.ref aS, .ref aW, .ref aF, .ref aK, .ref aN])), (aW, .inr (1, [.ref aS, .int place_4, .int limit_4, .int (b2i full_4)])), (aS, .inr (0, [.ref aB])), (aB, .inl (cB, 202000, .inl (by_ b_4))), (aN, .inr (2, [.int nbase, .ref aNs, .int ncnt])), (aNs, .inl (cI, 201, .inl nsts)), (aP, .inr (5, [.ref aS, .ref aV, .ref aPs, .ref aPe, .ref aPi, .ref aPh, .int pcnt_4, .int (b2i pfix_4), .int pown_4, .ref aPl, .ref aPn, .int plc, .int psr, .int pbs, .int (b2i pms)])), (aV, .inr (1, [.ref aS, .int vplace_4, .int vlimit_4, .int (b2i vfull_4)])), (aPs, .inl (cI, 8, .inl pst_4)), (aPe, .inl (cI, 8, .inl pen_4)), (aPi, .inl (cI, 8, .inl pix_4)), (aF, .inr (2, [.int fbase, .ref aFs, .int fcnt])), (aFs, .inl (cI, 201, .inl fsts))] := hD.sub [2, 3, 4, 5, 6, 7, 8, 9, 10, 11, 12, 13, 0, 1] (by decide) rfl
        refine lv_aload_n hx hb d_SH_project_39 rfl (lv_at hl 0 rfl) ?_
        refine va_get (D := D) (ci := 6) (v := .ref aY) (C := R_SH) (T := T_SH) (N := 3) hx hb hT u_SH hown hK hP 0 rfl rfl 1 (by decide) (hT _ k_197) (fun _ h9 => h9) rfl d_SH_project_40 ?_
        refine mt_Vi (As := []) (rest := []) (wr := [(aH, .inr (6, [.ref aS, .ref aY, .ref aP])), (aP, .inr (5, [.ref aS, .ref aV, .ref aPs, .ref aPe, .ref aPi, .ref aPh, .int pcnt_4, .int (b2i pfix_4), .int pown_4, .ref aPl, .ref aPn, .int plc, .int psr, .int pbs, .int (b2i pms)])), (aV, .inr (1, [.ref aS, .int vplace_4, .int vlimit_4, .int (b2i vfull_4)])), (aPs, .inl (cI, 8, .inl pst_4)), (aPe, .inl (cI, 8, .inl pen_4)), (aPi, .inl (cI, 8, .inl pix_4)), (aF, .inr (2, [.int fbase, .ref aFs, .int fcnt])), (aFs, .inl (cI, 201, .inl fsts))]) ⟨hx, hb, hml, hown, hT⟩ (c_BS_accept l D cB cI aY aS aW aF aK aN aB aNs nbase place_4 limit_4 full_4 b_4 _ ncnt nsts (hi_4) hi) (cwV 0 hT (gV_of k_659 k_660 k_661 k_4 kc_BS_accept) rfl rfl rfl hd_BS_accept ⟨Nat.le_of_ble_eq_true rfl, Nat.le_of_ble_eq_true rfl⟩) hk hP hD hS hA [1, 2, 3, 4, 5, 6] [0, 7, 8, 9, 10, 11, 12, 13] rfl rfl rfl (by decide) (by decide) (by decide) (q0 := 0) rfl rfl rfl rfl hl.1 rfl (Nat.le_of_ble_eq_true rfl) d_SH_project_43 ⟨Nat.zero_le _, Nat.zero_le _⟩ (fun r_5 u_5 H locs hw_5 hP hD hS => ?_)
        obtain ⟨ncnt_5, nsts_5⟩ := u_5
        obtain ⟨r_5, rfl, hw_5⟩ := hw_5
        obtain ⟨hw_5, hi_5⟩ := hw_5
        have hP : va_P D vwCl [(aH, .inr (6, [.ref aS, .ref aY, .ref aP])), (aY, .inr (3, [.ref aS, .ref aW, .ref aF, .ref aK, .ref aN])), (aW, .inr (1, [.ref aS, .int place_4, .int limit_4, .int (b2i full_4)])), (aS, .inr (0, [.ref aB])), (aB, .inl (cB, 202000, .inl (by_ b_4))), (aN, .inr (2, [.int nbase, .ref aNs, .int ncnt_5])), (aNs, .inl (cI, 201, .inl nsts_5)), (aP, .inr (5, [.ref aS, .ref aV, .ref aPs, .ref aPe, .ref aPi, .ref aPh, .int pcnt_4, .int (b2i pfix_4), .int pown_4, .ref aPl, .ref aPn, .int plc, .int psr, .int pbs, .int (b2i pms)])), (aV, .inr (1, [.ref aS, .int vplace_4, .int vlimit_4, .int (b2i vfull_4)])), (aPs, .inl (cI, 8, .inl pst_4)), (aPe, .inl (cI, 8, .inl pen_4)), (aPi, .inl (cI, 8, .inl pix_4)), (aF, .inr (2, [.int fbase, .ref aFs, .int fcnt])), (aFs, .inl (cI, 201, .inl fsts))] H := hP.sub [0, 8, 9, 10, 11, 12, 13, 1, 2, 3, 4, 5, 6, 7] rfl
        have hD : va_D A [(aH, .inr (6, [.ref aS, .ref aY, .ref aP])), (aY, .inr (3, [.ref aS, .ref aW, .ref aF, .ref aK, .ref aN])), (aW, .inr (1, [.ref aS, .int place_4, .int limit_4, .int (b2i full_4)])), (aS, .inr (0, [.ref aB])), (aB, .inl (cB, 202000, .inl (by_ b_4))), (aN, .inr (2, [.int nbase, .ref aNs, .int ncnt_5])), (aNs, .inl (cI, 201, .inl nsts_5)), (aP, .inr (5, [.ref aS, .ref aV, .ref aPs, .ref aPe, .ref aPi, .ref aPh, .int pcnt_4, .int (b2i pfix_4), .int pown_4, .ref aPl, .ref aPn, .int plc, .int psr, .int pbs, .int (b2i pms)])), (aV, .inr (1, [.ref aS, .int vplace_4, .int vlimit_4, .int (b2i vfull_4)])), (aPs, .inl (cI, 8, .inl pst_4)), (aPe, .inl (cI, 8, .inl pen_4)), (aPi, .inl (cI, 8, .inl pix_4)), (aF, .inr (2, [.int fbase, .ref aFs, .int fcnt])), (aFs, .inl (cI, 201, .inl fsts))] := hD.sub [0, 8, 9, 10, 11, 12, 13, 1, 2, 3, 4, 5, 6, 7] (by decide) rfl
        refine lv_if_eq (tgt := 53) hx hb d_SH_project_46 (by decide) (fun c_6 => ?_) (fun c_6 => ?_)
        · refine lv_iconst (v := 5) hx hb d_SH_project_53 (by decide) ?_
          refine lv_istore_n (lv' := [(2, .int 5), (0, .ref aH), (1, .int p0), (3, .int x3)]) hx hb d_SH_project_54 rfl hl (by decide) rfl (fun ls hl => ?_)
          refine lv_iinc (v := x3 + 1) (lv' := [(3, .int (x3 + 1)), (2, .int 5), (0, .ref aH), (1, .int p0)]) hx hb d_SH_project_55 hl (k := 3) rfl rfl (by decide) rfl (fun ls hl => ?_)
          refine lv_goto (tgt := 8) hx hb d_SH_project_58 (by decide) ?_
          exact ih 5 (x3 + 1) place_4 limit_4 full_4 b_4 ncnt_5 nsts_5 pcnt_4 pfix_4 pown_4 vplace_4 vlimit_4 vfull_4 pst_4 pen_4 pix_4 (lp_up hm c_3) (hi_5) (by rw [hV, tw_SH_project_h8, if_pos c_2, if_neg c_3, ← hw_4, tp13_mk, ← hw_5, tp3_mk, if_pos c_6]) _ _ hP hD hS ls (lv_sub hl [2, 3, 1, 0] rfl)
        · refine lv_iconst (v := 0) hx hb d_SH_project_49 (by decide) ?_
          refine lv_goto (tgt := 54) hx hb d_SH_project_50 (by decide) ?_
          refine lv_istore_n (lv' := [(2, .int 0), (0, .ref aH), (1, .int p0), (3, .int x3)]) hx hb d_SH_project_54 rfl hl (by decide) rfl (fun ls hl => ?_)
          refine lv_iinc (v := x3 + 1) (lv' := [(3, .int (x3 + 1)), (2, .int 0), (0, .ref aH), (1, .int p0)]) hx hb d_SH_project_55 hl (k := 3) rfl rfl (by decide) rfl (fun ls hl => ?_)
          refine lv_goto (tgt := 8) hx hb d_SH_project_58 (by decide) ?_
          exact ih 0 (x3 + 1) place_4 limit_4 full_4 b_4 ncnt_5 nsts_5 pcnt_4 pfix_4 pown_4 vplace_4 vlimit_4 vfull_4 pst_4 pen_4 pix_4 (lp_up hm c_3) (hi_5) (by rw [hV, tw_SH_project_h8, if_pos c_2, if_neg c_3, ← hw_4, tp13_mk, ← hw_5, tp3_mk, if_neg c_6]) _ _ hP hD hS ls (lv_sub hl [2, 3, 1, 0] rfl)
set_option maxHeartbeats 4000000 in
set_option maxRecDepth 100000 in
theorem c_SH_project (l : Launch) (D : va_G) (cB cI : ClassId) (aH aS aY aP aW aF aK aN aB aNs aV aPs aPe aPi aPh aPl aPn aFs : Nat) (nbase : Int32) (fbase : Int32) (plc : Int32) (psr : Int32) (pbs : Int32) (pms : Bool) (fcnt : Int32) (fsts : Nat → Int32) (sz : Nat) (place : Int32) (limit : Int32) (full : Bool) (b : Nat → UInt8) (ncnt : Int32) (nsts : Nat → Int32) (pcnt : Int32) (pfix : Bool) (pown : Int32) (vplace : Int32) (vlimit : Int32) (vfull : Bool) (pst : Nat → Int32) (pen : Nat → Int32) (pix : Nat → Int32) (p0 : Int32) (hi : be_ok nbase ncnt nsts) : Met l y_SH_project mw_SH_project { frames := 88, cells := 0, slots := 0, locals := 2119 } (va_Pc [.ref aH, .int p0] (mt_P D cB cI (wd_SH_project aH aS aY aP aW aF aK aN aB aNs aV aPs aPe aPi aPh aPl aPn aFs cB cI nbase fbase plc psr pbs pms fcnt fsts place limit full b ncnt nsts pcnt pfix pown vplace vlimit vfull pst pen pix) sz)) (va_Qi (fun (r : Int32) (u : Int32 × Int32 × Bool × (Nat → UInt8) × Int32 × (Nat → Int32) × Int32 × Bool × Int32 × Int32 × Int32 × Bool × (Nat → Int32) × (Nat → Int32) × (Nat → Int32)) => (r, u) = tw_SH_project nbase fbase fcnt fsts place limit full b ncnt nsts pcnt pfix pown vplace vlimit vfull pst pen pix p0 ∧ be_ok nbase u.2.2.2.2.1 u.2.2.2.2.2.1) (mt_B D (va_A (wd_SH_project aH aS aY aP aW aF aK aN aB aNs aV aPs aPe aPi aPh aPl aPn aFs cB cI nbase fbase plc psr pbs pms fcnt fsts place limit full b ncnt nsts pcnt pfix pown vplace vlimit vfull pst pen pix) sz) (fun u => wd_SH_project aH aS aY aP aW aF aK aN aB aNs aV aPs aPe aPi aPh aPl aPn aFs cB cI nbase fbase plc psr pbs pms fcnt fsts u.1 u.2.1 u.2.2.1 u.2.2.2.1 u.2.2.2.2.1 u.2.2.2.2.2.1 u.2.2.2.2.2.2.1 u.2.2.2.2.2.2.2.1 u.2.2.2.2.2.2.2.2.1 u.2.2.2.2.2.2.2.2.2.1 u.2.2.2.2.2.2.2.2.2.2.1 u.2.2.2.2.2.2.2.2.2.2.2.1 u.2.2.2.2.2.2.2.2.2.2.2.2.1 u.2.2.2.2.2.2.2.2.2.2.2.2.2.1 u.2.2.2.2.2.2.2.2.2.2.2.2.2.2)) (va_A (wd_SH_project aH aS aY aP aW aF aK aN aB aNs aV aPs aPe aPi aPh aPl aPn aFs cB cI nbase fbase plc psr pbs pms fcnt fsts place limit full b ncnt nsts pcnt pfix pown vplace vlimit vfull pst pen pix) sz)) 0 0 (va_A (wd_SH_project aH aS aY aP aW aF aK aN aB aNs aV aPs aPe aPi aPh aPl aPn aFs cB cI nbase fbase plc psr pbs pms fcnt fsts place limit full b ncnt nsts pcnt pfix pown vplace vlimit vfull pst pen pix) sz) := by
  refine Met.ofW (cc := b_SH_project) (maxL := 4) (ret := (some .int)) (by decide) rfl ?_
  intro p e s m args below meth c s₁ B0 hml hv
  obtain ⟨rfl, hsz, hP, hk, hD0⟩ := hv
  have hK := hk.1
  have hN := hk.2.1
  have hx := B0.exec
  have hb := B0.bytes
  have hr := B0.returns
  have hT : ∀ w ∈ lw_g, w.before _ s = true := fun w h => atoms_spec (ws := mw_SH_project) B0.pre w (List.mem_cons_of_mem _ h)
  have hown : s.vm.findClass R_SH = some m.cls := findClass_of_methodNamed B0.named
  have hlocks := B0.notSynchronized
  subst hsz
  have hD := hD0.self (sz := s.heap.size)
  generalize hAe : va_A [(aH, .inr (6, [.ref aS, .ref aY, .ref aP])), (aY, .inr (3, [.ref aS, .ref aW, .ref aF, .ref aK, .ref aN])), (aW, .inr (1, [.ref aS, .int place, .int limit, .int (b2i full)])), (aS, .inr (0, [.ref aB])), (aB, .inl (cB, 202000, .inl (by_ b))), (aN, .inr (2, [.int nbase, .ref aNs, .int ncnt])), (aNs, .inl (cI, 201, .inl nsts)), (aP, .inr (5, [.ref aS, .ref aV, .ref aPs, .ref aPe, .ref aPi, .ref aPh, .int pcnt, .int (b2i pfix), .int pown, .ref aPl, .ref aPn, .int plc, .int psr, .int pbs, .int (b2i pms)])), (aV, .inr (1, [.ref aS, .int vplace, .int vlimit, .int (b2i vfull)])), (aPs, .inl (cI, 8, .inl pst)), (aPe, .inl (cI, 8, .inl pen)), (aPi, .inl (cI, 8, .inl pix)), (aF, .inr (2, [.int fbase, .ref aFs, .int fcnt])), (aFs, .inl (cI, 201, .inl fsts))] s.heap.size = A at hD ⊢
  have hA : ∀ q : Nat, s.heap.size ≤ q → A q := fun q h => by rw [← hAe]; exact Or.inr h
  have hS : va_S A s.heap s.heap [] := va_S.rf
  have hl := lv_entry ([.ref aH, .int p0]) (n := 4) (Nat.le_of_ble_eq_true rfl)
  rw [lg_entry_eq]
  generalize (lg_sl ([.ref aH, .int p0]) ++ List.replicate (4 - (lg_sl ([.ref aH, .int p0])).length) Slot.unset).toArray = ls at hl ⊢
  have hl : lv_has ls 4 [(0, .ref aH), (1, .int p0)] := hl
  have C0 : lc_C p s m meth c _ b_SH_project 4 (some .int) R_SH lw_g := ⟨hx, hb, hml, hr, hown, hlocks, hT⟩
  refine lv_aload_n hx hb d_SH_project_0 rfl (lv_at hl 0 rfl) ?_
  refine lv_iload_n hx hb d_SH_project_1 rfl (lv_at hl 1 rfl) ?_
  refine mt_Vi (As := [.int p0]) (rest := []) (wr := [(aY, .inr (3, [.ref aS, .ref aW, .ref aF, .ref aK, .ref aN])), (aW, .inr (1, [.ref aS, .int place, .int limit, .int (b2i full)])), (aN, .inr (2, [.int nbase, .ref aNs, .int ncnt])), (aNs, .inl (cI, 201, .inl nsts)), (aV, .inr (1, [.ref aS, .int vplace, .int vlimit, .int (b2i vfull)])), (aF, .inr (2, [.int fbase, .ref aFs, .int fcnt])), (aFs, .inl (cI, 201, .inl fsts))]) ⟨hx, hb, hml, hown, hT⟩ (c_SH_faultOfProject l D cB cI aH aS aY aP aB aV aPs aPe aPi aPh aPl aPn b plc psr pbs pms _ pcnt pfix pown pst pen pix p0) (cwV 1 hT (gV_of k_550 k_552 kp_SH_faultOfProject k_8 kc_SH_faultOfProject) rfl rfl rfl hd_SH_faultOfProject ⟨Nat.le_of_ble_eq_true rfl, Nat.le_of_ble_eq_true rfl⟩) hk hP hD hS hA [0, 3, 4, 7, 9, 10, 11] [1, 2, 5, 6, 8, 12, 13] rfl rfl rfl (by decide) (by decide) (by decide) (q0 := 0) rfl rfl rfl rfl hl.1 rfl (Nat.le_of_ble_eq_true rfl) d_SH_project_2 ⟨Nat.zero_le _, Nat.zero_le _⟩ (fun r_1 u_1 H locs hw_1 hP hD hS => ?_)
  obtain ⟨pcnt_1, pfix_1, pown_1, pst_1, pen_1, pix_1⟩ := u_1
  have hP : va_P D vwCl [(aH, .inr (6, [.ref aS, .ref aY, .ref aP])), (aY, .inr (3, [.ref aS, .ref aW, .ref aF, .ref aK, .ref aN])), (aW, .inr (1, [.ref aS, .int place, .int limit, .int (b2i full)])), (aS, .inr (0, [.ref aB])), (aB, .inl (cB, 202000, .inl (by_ b))), (aN, .inr (2, [.int nbase, .ref aNs, .int ncnt])), (aNs, .inl (cI, 201, .inl nsts)), (aP, .inr (5, [.ref aS, .ref aV, .ref aPs, .ref aPe, .ref aPi, .ref aPh, .int pcnt_1, .int (b2i pfix_1), .int pown_1, .ref aPl, .ref aPn, .int plc, .int psr, .int pbs, .int (b2i pms)])), (aV, .inr (1, [.ref aS, .int vplace, .int vlimit, .int (b2i vfull)])), (aPs, .inl (cI, 8, .inl pst_1)), (aPe, .inl (cI, 8, .inl pen_1)), (aPi, .inl (cI, 8, .inl pix_1)), (aF, .inr (2, [.int fbase, .ref aFs, .int fcnt])), (aFs, .inl (cI, 201, .inl fsts))] H := hP.sub [7, 0, 1, 8, 9, 2, 3, 10, 4, 11, 12, 13, 5, 6] rfl
  have hD : va_D A [(aH, .inr (6, [.ref aS, .ref aY, .ref aP])), (aY, .inr (3, [.ref aS, .ref aW, .ref aF, .ref aK, .ref aN])), (aW, .inr (1, [.ref aS, .int place, .int limit, .int (b2i full)])), (aS, .inr (0, [.ref aB])), (aB, .inl (cB, 202000, .inl (by_ b))), (aN, .inr (2, [.int nbase, .ref aNs, .int ncnt])), (aNs, .inl (cI, 201, .inl nsts)), (aP, .inr (5, [.ref aS, .ref aV, .ref aPs, .ref aPe, .ref aPi, .ref aPh, .int pcnt_1, .int (b2i pfix_1), .int pown_1, .ref aPl, .ref aPn, .int plc, .int psr, .int pbs, .int (b2i pms)])), (aV, .inr (1, [.ref aS, .int vplace, .int vlimit, .int (b2i vfull)])), (aPs, .inl (cI, 8, .inl pst_1)), (aPe, .inl (cI, 8, .inl pen_1)), (aPi, .inl (cI, 8, .inl pix_1)), (aF, .inr (2, [.int fbase, .ref aFs, .int fcnt])), (aFs, .inl (cI, 201, .inl fsts))] := hD.sub [7, 0, 1, 8, 9, 2, 3, 10, 4, 11, 12, 13, 5, 6] (by decide) rfl
  refine lv_istore_n (lv' := [(2, .int r_1), (0, .ref aH), (1, .int p0)]) hx hb d_SH_project_5 rfl hl (by decide) rfl (fun ls hl => ?_)
  refine lv_iconst (v := 0) hx hb d_SH_project_6 (by decide) ?_
  refine lv_istore_n (lv' := [(3, .int 0), (2, .int r_1), (0, .ref aH), (1, .int p0)]) hx hb d_SH_project_7 rfl hl (by decide) rfl (fun ls hl => ?_)
  exact l_SH_project_h8 C0 l D cB cI aH aS aY aP aW aF aK aN aB aNs aV aPs aPe aPi aPh aPl aPn aFs nbase fbase plc psr pbs pms fcnt fsts hk hA p0  (((fcnt.toInt - (0 : Int32).toInt).toNat) + 1) r_1 0 place limit full b ncnt nsts pcnt_1 pfix_1 pown_1 vplace vlimit vfull pst_1 pen_1 pix_1 (Nat.lt_succ_self _) (hi) (by rw [tw_SH_project, ← hw_1, tp7_mk]) _ _ hP hD hS ls (lv_sub hl [2, 3, 1, 0] rfl)
abbrev wd_SH_writeUnwound (aH aS aY aP aW aF aK aN aB aFs aNs aV aPs aPe aPi aPh aPl aPn : Nat) (cB cI : ClassId) (fbase : Int32) (nbase : Int32) (fcnt : Int32) (fsts : Nat → Int32) (ncnt : Int32) (nsts : Nat → Int32) (pcnt : Int32) (pfix : Bool) (pown : Int32) (plc : Int32) (psr : Int32) (pbs : Int32) (pms : Bool) (pst : Nat → Int32) (pen : Nat → Int32) (pho : Nat → Int32) (place : Int32) (limit : Int32) (full : Bool) (b : Nat → UInt8) : va_W := [(aH, .inr (6, [.ref aS, .ref aY, .ref aP])), (aY, .inr (3, [.ref aS, .ref aW, .ref aF, .ref aK, .ref aN])), (aW, .inr (1, [.ref aS, .int place, .int limit, .int (b2i full)])), (aS, .inr (0, [.ref aB])), (aB, .inl (cB, 202000, .inl (by_ b))), (aF, .inr (2, [.int fbase, .ref aFs, .int fcnt])), (aFs, .inl (cI, 201, .inl fsts)), (aN, .inr (2, [.int nbase, .ref aNs, .int ncnt])), (aNs, .inl (cI, 201, .inl nsts)), (aP, .inr (5, [.ref aS, .ref aV, .ref aPs, .ref aPe, .ref aPi, .ref aPh, .int pcnt, .int (b2i pfix), .int pown, .ref aPl, .ref aPn, .int plc, .int psr, .int pbs, .int (b2i pms)])), (aPs, .inl (cI, 8, .inl pst)), (aPe, .inl (cI, 8, .inl pen)), (aPh, .inl (cI, 8, .inl pho))]
set_option maxHeartbeats 4000000 in
set_option maxRecDepth 100000 in
theorem l_SH_writeUnwound_h151 {p : Program} {e : Env} {s : State} {m : MethodId} {args : Array Value} {below : List Frame} {meth : Method} {c : Code} {V : Int32 × Int32 × Bool × (Nat → UInt8)} (C0 : lc_C p s m meth c args b_SH_writeUnwound 11 none R_SH lw_g) (l : Launch) (D : va_G) (cB cI : ClassId) (aH aS aY aP aW aF aK aN aB aFs aNs aV aPs aPe aPi aPh aPl aPn : Nat) (fbase : Int32) (nbase : Int32) (fcnt : Int32) (fsts : Nat → Int32) (ncnt : Int32) (nsts : Nat → Int32) (pcnt : Int32) (pfix : Bool) (pown : Int32) (plc : Int32) (psr : Int32) (pbs : Int32) (pms : Bool) (pst : Nat → Int32) (pen : Nat → Int32) (pho : Nat → Int32) {A : Nat → Prop} (hk : hk_ D cB cI s) (hA : ∀ q : Nat, s.heap.size ≤ q → A q) (x5 : Int32) (x6 : Int32) (x8 : Int32) (L9 : Int32) (U9 : Bool) (A9 : Int32) (hA9 : tw_BE_end nbase ncnt nsts = A9) : ∀ (n : Nat) (x9 : Int32) (place : Int32) (limit : Int32) (full : Bool) (b : Nat → UInt8), ((8 : Int32).toInt - x9.toInt).toNat < n → w_okr L9 U9 A9 place limit full → ¬ x9 < 0 → V = tw_SH_writeUnwound_h151 fbase nbase fcnt fsts ncnt nsts pcnt pst pen pho x5 x6 x8 n x9 place limit full b → ∀ (H : Heap) (locs : List Loc), va_P D vwCl [(aH, .inr (6, [.ref aS, .ref aY, .ref aP])), (aY, .inr (3, [.ref aS, .ref aW, .ref aF, .ref aK, .ref aN])), (aW, .inr (1, [.ref aS, .int place, .int limit, .int (b2i full)])), (aS, .inr (0, [.ref aB])), (aB, .inl (cB, 202000, .inl (by_ b))), (aF, .inr (2, [.int fbase, .ref aFs, .int fcnt])), (aFs, .inl (cI, 201, .inl fsts)), (aN, .inr (2, [.int nbase, .ref aNs, .int ncnt])), (aNs, .inl (cI, 201, .inl nsts)), (aP, .inr (5, [.ref aS, .ref aV, .ref aPs, .ref aPe, .ref aPi, .ref aPh, .int pcnt, .int (b2i pfix), .int pown, .ref aPl, .ref aPn, .int plc, .int psr, .int pbs, .int (b2i pms)])), (aPs, .inl (cI, 8, .inl pst)), (aPe, .inl (cI, 8, .inl pen)), (aPh, .inl (cI, 8, .inl pho))] H → va_D A [(aH, .inr (6, [.ref aS, .ref aY, .ref aP])), (aY, .inr (3, [.ref aS, .ref aW, .ref aF, .ref aK, .ref aN])), (aW, .inr (1, [.ref aS, .int place, .int limit, .int (b2i full)])), (aS, .inr (0, [.ref aB])), (aB, .inl (cB, 202000, .inl (by_ b))), (aF, .inr (2, [.int fbase, .ref aFs, .int fcnt])), (aFs, .inl (cI, 201, .inl fsts)), (aN, .inr (2, [.int nbase, .ref aNs, .int ncnt])), (aNs, .inl (cI, 201, .inl nsts)), (aP, .inr (5, [.ref aS, .ref aV, .ref aPs, .ref aPe, .ref aPi, .ref aPh, .int pcnt, .int (b2i pfix), .int pown, .ref aPl, .ref aPn, .int plc, .int psr, .int pbs, .int (b2i pms)])), (aPs, .inl (cI, 8, .inl pst)), (aPe, .inl (cI, 8, .inl pen)), (aPh, .inl (cI, 8, .inl pho))] → va_S A s.heap H locs → ∀ ls : Array Slot, lv_has ls 11 [(0, .ref aH), (4, .ref aW), (5, .int x5), (6, .int x6), (8, .int x8), (9, .int x9)] → W p l e ({ frames := 3, cells := 0, slots := 0, locals := 83 }) s m args below meth c H locs 0 0 (MQ below (va_Qv (fun (u : Int32 × Int32 × Bool × (Nat → UInt8)) => u = V ∧ w_en nbase ncnt nsts u.1 u.2.2.1) (mt_B D A (fun u => wd_SH_writeUnwound aH aS aY aP aW aF aK aN aB aFs aNs aV aPs aPe aPi aPh aPl aPn cB cI fbase nbase fcnt fsts ncnt nsts pcnt pfix pown plc psr pbs pms pst pen pho u.1 u.2.1 u.2.2.1 u.2.2.2)) A) args s 0 0 A) (F0 m 151 ls []) := by
  obtain ⟨hx, hb, hml, hr, hown, hlocks, hT⟩ := id C0
  have hK := hk.1
  have hN := hk.2.1
  intro n
  induction n with
  | zero =>
    intro x9 place limit full b hm
    exact absurd hm (Nat.not_lt_zero _)
  | succ n ih =>
    intro x9 place limit full b hm hw9 hv1 hV H locs hP hD hS ls hl
    refine lv_iload hx hb d_SH_writeUnwound_151 (lv_at hl 5 rfl) ?_
    refine lv_aload_n hx hb d_SH_writeUnwound_153 rfl (lv_at hl 0 rfl) ?_
    refine va_get (D := D) (ci := 6) (v := .ref aP) (C := R_SH) (T := T_SH) (N := 3) hx hb hT u_SH hown hK hP 0 rfl rfl 2 (by decide) (hT _ k_198) (fun _ h9 => h9) rfl d_SH_writeUnwound_154 ?_
    refine va_getN (D := D) (ci := 5) (v := .int pcnt) (C := R_PA) (T := T_PA) (N := 15) hx hb hT u_PA hown hK hP 9 rfl rfl 6 (by decide) (va_Nw.use rfl (hN ("PipelineBelt$Shaper", 147, "PipelineBelt$Path", "count", "I", "PipelineBelt") (by decide))) (fun _ h9 => h9) rfl d_SH_writeUnwound_157 ?_
    refine lv_icmp_ge (tgt := 213) hx hb d_SH_writeUnwound_160 (by decide) (fun c_7 => ?_) (fun c_7 => ?_)
    · exact W.vret hx hb hr (fun t ht hW => ⟨⟨(place, limit, full, b), rfl, ⟨(by rw [hV, tw_SH_writeUnwound_h151, if_pos c_7]; first | done | rfl), (w_en_of hw9 hA9)⟩, by rw [ht]; exact hP, hD⟩, hS.F ht⟩) hS.2.2 d_SH_writeUnwound_213
    · refine lv_iload hx hb d_SH_writeUnwound_163 (lv_at hl 5 rfl) ?_
      refine lv_bipush (v := 8) hx hb d_SH_writeUnwound_165 (by decide) ?_
      refine lv_icmp_ge (tgt := 213) hx hb d_SH_writeUnwound_167 (by decide) (fun c_8 => ?_) (fun c_8 => ?_)
      · exact W.vret hx hb hr (fun t ht hW => ⟨⟨(place, limit, full, b), rfl, ⟨(by rw [hV, tw_SH_writeUnwound_h151, if_neg c_7, if_pos c_8]; first | done | rfl), (w_en_of hw9 hA9)⟩, by rw [ht]; exact hP, hD⟩, hS.F ht⟩) hS.2.2 d_SH_writeUnwound_213
      · refine lv_aload_n hx hb d_SH_writeUnwound_170 rfl (lv_at hl 0 rfl) ?_
        refine va_get (D := D) (ci := 6) (v := .ref aP) (C := R_SH) (T := T_SH) (N := 3) hx hb hT u_SH hown hK hP 0 rfl rfl 2 (by decide) (hT _ k_198) (fun _ h9 => h9) rfl d_SH_writeUnwound_171 ?_
        refine va_getN (D := D) (ci := 5) (v := .ref aPh) (C := R_PA) (T := T_PA) (N := 15) hx hb hT u_PA hown hK hP 9 rfl rfl 5 (by decide) (va_Nw.use rfl (hN ("PipelineBelt$Shaper", 148, "PipelineBelt$Path", "holders", "[I", "PipelineBelt") (by decide))) (fun _ h9 => h9) rfl d_SH_writeUnwound_174 ?_
        refine lv_iload hx hb d_SH_writeUnwound_177 (lv_at hl 5 rfl) ?_
        refine va_iald hx hb hK hP 12 1 rfl rfl (in_nn hv1 c_8 rfl) d_SH_writeUnwound_179 ?_
        refine lv_istore (lv' := [(10, .int (pho x9.toNatClampNeg)), (0, .ref aH), (4, .ref aW), (5, .int x5), (6, .int x6), (8, .int x8), (9, .int x9)]) hx hb d_SH_writeUnwound_180 hl (by decide) rfl (fun ls hl => ?_)
        refine lv_aload hx hb d_SH_writeUnwound_182 (lv_at hl 2 rfl) ?_
        refine lv_iload hx hb d_SH_writeUnwound_184 (lv_at hl 4 rfl) ?_
        refine lv_iload hx hb d_SH_writeUnwound_186 (lv_at hl 0 rfl) ?_
        refine lv_iadd hx hb d_SH_writeUnwound_188 ?_
        refine lv_iload hx hb d_SH_writeUnwound_189 (lv_at hl 3 rfl) ?_
        refine lv_isub hx hb d_SH_writeUnwound_191 ?_
        refine lv_aload_n hx hb d_SH_writeUnwound_192 rfl (lv_at hl 1 rfl) ?_
        refine va_get (D := D) (ci := 6) (v := .ref aS) (C := R_SH) (T := T_SH) (N := 3) hx hb hT u_SH hown hK hP 0 rfl rfl 0 (by decide) (hT _ k_196) (fun _ h9 => h9) rfl d_SH_writeUnwound_193 ?_
        refine lv_iload hx hb d_SH_writeUnwound_196 (lv_at hl 0 rfl) ?_
        refine rd_V (val := tw_ST_int32 b (pho x9.toNatClampNeg)) (As := [.int (pho x9.toNatClampNeg)]) (rest := [.int ((x6 + (pho x9.toNatClampNeg)) - x5), .ref aW]) ⟨hx, hb, hml, hown, hT⟩ (c_ST_int32 l D cB cI aS aB b (pho x9.toNatClampNeg)) (cwV 1 hT (gV_of k_696 k_370 k_371 k_2 kc_ST_int32) rfl rfl rfl hd_ST_int32 ⟨Nat.le_of_ble_eq_true rfl, Nat.le_of_ble_eq_true rfl⟩) hk (hP.sub (ws' := [(aS, .inr (0, [.ref aB])), (aB, .inl (cB, 202000, .inl (by_ b)))]) [3, 4] rfl) (q0 := 0) rfl rfl rfl rfl hl.1 rfl (Nat.le_of_ble_eq_true rfl) d_SH_writeUnwound_198 ⟨Nat.zero_le _, Nat.zero_le _⟩ ?_
        refine lv_iload hx hb d_SH_writeUnwound_201 (lv_at hl 5 rfl) ?_
        refine lv_isub hx hb d_SH_writeUnwound_203 ?_
        refine mt_Vv (As := [.int ((x6 + (pho x9.toNatClampNeg)) - x5), .int ((tw_ST_int32 b (pho x9.toNatClampNeg)) - x8)]) (rest := []) (wr := [(aH, .inr (6, [.ref aS, .ref aY, .ref aP])), (aY, .inr (3, [.ref aS, .ref aW, .ref aF, .ref aK, .ref aN])), (aF, .inr (2, [.int fbase, .ref aFs, .int fcnt])), (aFs, .inl (cI, 201, .inl fsts)), (aN, .inr (2, [.int nbase, .ref aNs, .int ncnt])), (aNs, .inl (cI, 201, .inl nsts)), (aP, .inr (5, [.ref aS, .ref aV, .ref aPs, .ref aPe, .ref aPi, .ref aPh, .int pcnt, .int (b2i pfix), .int pown, .ref aPl, .ref aPn, .int plc, .int psr, .int pbs, .int (b2i pms)])), (aPs, .inl (cI, 8, .inl pst)), (aPe, .inl (cI, 8, .inl pen)), (aPh, .inl (cI, 8, .inl pho))]) ⟨hx, hb, hml, hown, hT⟩ (c_WR_resize l D cB cI aW aS aB L9 U9 A9 _ place limit full b ((x6 + (pho x9.toNatClampNeg)) - x5) ((tw_ST_int32 b (pho x9.toNatClampNeg)) - x8) hw9) (cwV 2 hT (gV_of k_697 k_647 k_648 k_5 kc_WR_resize) rfl rfl rfl hd_WR_resize ⟨Nat.le_of_ble_eq_true rfl, Nat.le_of_ble_eq_true rfl⟩) hk hP hD hS hA [2, 3, 4] [0, 1, 5, 6, 7, 8, 9, 10, 11, 12] rfl rfl rfl (by decide) (by decide) (by decide) (q0 := 0) rfl rfl rfl rfl hl.1 rfl (Nat.le_of_ble_eq_true rfl) d_SH_writeUnwound_204 ⟨Nat.zero_le _, Nat.zero_le _⟩ (fun u_9 H locs hw_9 hP hD hS => ?_)
        obtain ⟨place_9, limit_9, full_9, b_9⟩ := u_9
        obtain ⟨hw_9, hi_9⟩ := hw_9
        have hP : va_P D vwCl [(aH, .inr (6, [.ref aS, .ref aY, .ref aP])), (aY, .inr (3, [.ref aS, .ref aW, .ref aF, .ref aK, .ref aN])), (aW, .inr (1, [.ref aS, .int place_9, .int limit_9, .int (b2i full_9)])), (aS, .inr (0, [.ref aB])), (aB, .inl (cB, 202000, .inl (by_ b_9))), (aF, .inr (2, [.int fbase, .ref aFs, .int fcnt])), (aFs, .inl (cI, 201, .inl fsts)), (aN, .inr (2, [.int nbase, .ref aNs, .int ncnt])), (aNs, .inl (cI, 201, .inl nsts)), (aP, .inr (5, [.ref aS, .ref aV, .ref aPs, .ref aPe, .ref aPi, .ref aPh, .int pcnt, .int (b2i pfix), .int pown, .ref aPl, .ref aPn, .int plc, .int psr, .int pbs, .int (b2i pms)])), (aPs, .inl (cI, 8, .inl pst)), (aPe, .inl (cI, 8, .inl pen)), (aPh, .inl (cI, 8, .inl pho))] H := hP.sub [0, 1, 10, 11, 12, 2, 3, 4, 5, 6, 7, 8, 9] rfl
        have hD : va_D A [(aH, .inr (6, [.ref aS, .ref aY, .ref aP])), (aY, .inr (3, [.ref aS, .ref aW, .ref aF, .ref aK, .ref aN])), (aW, .inr (1, [.ref aS, .int place_9, .int limit_9, .int (b2i full_9)])), (aS, .inr (0, [.ref aB])), (aB, .inl (cB, 202000, .inl (by_ b_9))), (aF, .inr (2, [.int fbase, .ref aFs, .int fcnt])), (aFs, .inl (cI, 201, .inl fsts)), (aN, .inr (2, [.int nbase, .ref aNs, .int ncnt])), (aNs, .inl (cI, 201, .inl nsts)), (aP, .inr (5, [.ref aS, .ref aV, .ref aPs, .ref aPe, .ref aPi, .ref aPh, .int pcnt, .int (b2i pfix), .int pown, .ref aPl, .ref aPn, .int plc, .int psr, .int pbs, .int (b2i pms)])), (aPs, .inl (cI, 8, .inl pst)), (aPe, .inl (cI, 8, .inl pen)), (aPh, .inl (cI, 8, .inl pho))] := hD.sub [0, 1, 10, 11, 12, 2, 3, 4, 5, 6, 7, 8, 9] (by decide) rfl
        refine lv_iinc (v := x9 + 1) (lv' := [(9, .int (x9 + 1)), (10, .int (pho x9.toNatClampNeg)), (0, .ref aH), (4, .ref aW), (5, .int x5), (6, .int x6), (8, .int x8)]) hx hb d_SH_writeUnwound_207 hl (k := 6) rfl rfl (by decide) rfl (fun ls hl => ?_)
        refine lv_goto (tgt := 151) hx hb d_SH_writeUnwound_210 (by decide) ?_
        exact ih (x9 + 1) place_9 limit_9 full_9 b_9 (lp_up hm c_8) (hi_9) (i_upn hv1 c_8) (by rw [hV, tw_SH_writeUnwound_h151, if_neg c_7, if_neg c_8, ← hw_9, tp4_mk]) _ _ hP hD hS ls (lv_sub hl [2, 3, 4, 5, 6, 0] rfl)
set_option maxHeartbeats 4000000 in
set_option maxRecDepth 100000 in
theorem c_SH_writeUnwound (l : Launch) (D : va_G) (cB cI : ClassId) (aH aS aY aP aW aF aK aN aB aFs aNs aV aPs aPe aPi aPh aPl aPn : Nat) (fbase : Int32) (nbase : Int32) (fcnt : Int32) (fsts : Nat → Int32) (ncnt : Int32) (nsts : Nat → Int32) (pcnt : Int32) (pfix : Bool) (pown : Int32) (plc : Int32) (psr : Int32) (pbs : Int32) (pms : Bool) (pst : Nat → Int32) (pen : Nat → Int32) (pho : Nat → Int32) (sz : Nat) (place : Int32) (limit : Int32) (full : Bool) (b : Nat → UInt8) (p0 : Int32) (p1 : Int32) (p2 : Int32) (he : be_ok nbase ncnt nsts) (hfr : ∀ j : Int32, 0 ≤ (tw_BE_start fbase fcnt fsts j).toInt ∧ (tw_BE_start fbase fcnt fsts j).toInt ≤ 202000) : Met l y_SH_writeUnwound mw_SH_writeUnwound { frames := 3, cells := 0, slots := 0, locals := 83 } (va_Pc [.ref aH, .int p0, .int p1, .int p2] (mt_P D cB cI (wd_SH_writeUnwound aH aS aY aP aW aF aK aN aB aFs aNs aV aPs aPe aPi aPh aPl aPn cB cI fbase nbase fcnt fsts ncnt nsts pcnt pfix pown plc psr pbs pms pst pen pho place limit full b) sz)) (va_Qv (fun (u : Int32 × Int32 × Bool × (Nat → UInt8)) => u = tw_SH_writeUnwound fbase nbase fcnt fsts ncnt nsts pcnt pst pen pho place limit full b p0 p1 p2 ∧ w_en nbase ncnt nsts u.1 u.2.2.1) (mt_B D (va_A (wd_SH_writeUnwound aH aS aY aP aW aF aK aN aB aFs aNs aV aPs aPe aPi aPh aPl aPn cB cI fbase nbase fcnt fsts ncnt nsts pcnt pfix pown plc psr pbs pms pst pen pho place limit full b) sz) (fun u => wd_SH_writeUnwound aH aS aY aP aW aF aK aN aB aFs aNs aV aPs aPe aPi aPh aPl aPn cB cI fbase nbase fcnt fsts ncnt nsts pcnt pfix pown plc psr pbs pms pst pen pho u.1 u.2.1 u.2.2.1 u.2.2.2)) (va_A (wd_SH_writeUnwound aH aS aY aP aW aF aK aN aB aFs aNs aV aPs aPe aPi aPh aPl aPn cB cI fbase nbase fcnt fsts ncnt nsts pcnt pfix pown plc psr pbs pms pst pen pho place limit full b) sz)) 0 0 (va_A (wd_SH_writeUnwound aH aS aY aP aW aF aK aN aB aFs aNs aV aPs aPe aPi aPh aPl aPn cB cI fbase nbase fcnt fsts ncnt nsts pcnt pfix pown plc psr pbs pms pst pen pho place limit full b) sz) := by
  refine Met.ofW (cc := b_SH_writeUnwound) (maxL := 11) (ret := none) (by decide) rfl ?_
  intro p e s m args below meth c s₁ B0 hml hv
  obtain ⟨rfl, hsz, hP, hk, hD0⟩ := hv
  have hK := hk.1
  have hN := hk.2.1
  have hx := B0.exec
  have hb := B0.bytes
  have hr := B0.returns
  have hT : ∀ w ∈ lw_g, w.before _ s = true := fun w h => atoms_spec (ws := mw_SH_writeUnwound) B0.pre w (List.mem_cons_of_mem _ h)
  have hown : s.vm.findClass R_SH = some m.cls := findClass_of_methodNamed B0.named
  have hlocks := B0.notSynchronized
  subst hsz
  have hD := hD0.self (sz := s.heap.size)
  generalize hAe : va_A [(aH, .inr (6, [.ref aS, .ref aY, .ref aP])), (aY, .inr (3, [.ref aS, .ref aW, .ref aF, .ref aK, .ref aN])), (aW, .inr (1, [.ref aS, .int place, .int limit, .int (b2i full)])), (aS, .inr (0, [.ref aB])), (aB, .inl (cB, 202000, .inl (by_ b))), (aF, .inr (2, [.int fbase, .ref aFs, .int fcnt])), (aFs, .inl (cI, 201, .inl fsts)), (aN, .inr (2, [.int nbase, .ref aNs, .int ncnt])), (aNs, .inl (cI, 201, .inl nsts)), (aP, .inr (5, [.ref aS, .ref aV, .ref aPs, .ref aPe, .ref aPi, .ref aPh, .int pcnt, .int (b2i pfix), .int pown, .ref aPl, .ref aPn, .int plc, .int psr, .int pbs, .int (b2i pms)])), (aPs, .inl (cI, 8, .inl pst)), (aPe, .inl (cI, 8, .inl pen)), (aPh, .inl (cI, 8, .inl pho))] s.heap.size = A at hD ⊢
  have hA : ∀ q : Nat, s.heap.size ≤ q → A q := fun q h => by rw [← hAe]; exact Or.inr h
  have hS : va_S A s.heap s.heap [] := va_S.rf
  have hl := lv_entry ([.ref aH, .int p0, .int p1, .int p2]) (n := 11) (Nat.le_of_ble_eq_true rfl)
  rw [lg_entry_eq]
  generalize (lg_sl ([.ref aH, .int p0, .int p1, .int p2]) ++ List.replicate (11 - (lg_sl ([.ref aH, .int p0, .int p1, .int p2])).length) Slot.unset).toArray = ls at hl ⊢
  have hl : lv_has ls 11 [(0, .ref aH), (1, .int p0), (2, .int p1), (3, .int p2)] := hl
  have C0 : lc_C p s m meth c _ b_SH_writeUnwound 11 none R_SH lw_g := ⟨hx, hb, hml, hr, hown, hlocks, hT⟩
  refine lv_aload_n hx hb d_SH_writeUnwound_0 rfl (lv_at hl 0 rfl) ?_
  refine va_get (D := D) (ci := 6) (v := .ref aY) (C := R_SH) (T := T_SH) (N := 3) hx hb hT u_SH hown hK hP 0 rfl rfl 1 (by decide) (hT _ k_197) (fun _ h9 => h9) rfl d_SH_writeUnwound_1 ?_
  refine mt_Vr (As := []) (rest := []) (wr := [(aH, .inr (6, [.ref aS, .ref aY, .ref aP])), (aS, .inr (0, [.ref aB])), (aB, .inl (cB, 202000, .inl (by_ b))), (aF, .inr (2, [.int fbase, .ref aFs, .int fcnt])), (aFs, .inl (cI, 201, .inl fsts)), (aP, .inr (5, [.ref aS, .ref aV, .ref aPs, .ref aPe, .ref aPi, .ref aPh, .int pcnt, .int (b2i pfix), .int pown, .ref aPl, .ref aPn, .int plc, .int psr, .int pbs, .int (b2i pms)])), (aPs, .inl (cI, 8, .inl pst)), (aPe, .inl (cI, 8, .inl pen)), (aPh, .inl (cI, 8, .inl pho))]) ⟨hx, hb, hml, hown, hT⟩ (c_BS_next l D cB cI aY aS aW aF aK aN aNs nbase ncnt nsts _ place limit full (he)) (cwV 0 hT (gV_of k_592 k_593 k_594 k_4 kc_BS_next) rfl rfl rfl hd_BS_next ⟨Nat.le_of_ble_eq_true rfl, Nat.le_of_ble_eq_true rfl⟩) hk hP hD hS hA [1, 2, 7, 8] [0, 3, 4, 5, 6, 9, 10, 11, 12] rfl rfl rfl (by decide) (by decide) (by decide) (q0 := 0) rfl rfl rfl rfl hl.1 rfl (Nat.le_of_ble_eq_true rfl) d_SH_writeUnwound_4 ⟨Nat.zero_le _, Nat.zero_le _⟩ (fun u_1 H locs hw_1 hP hD hS => ?_)
  obtain ⟨place_1, limit_1, full_1⟩ := u_1
  obtain ⟨hw_1, hi_1⟩ := hw_1
  have hP : va_P D vwCl [(aH, .inr (6, [.ref aS, .ref aY, .ref aP])), (aY, .inr (3, [.ref aS, .ref aW, .ref aF, .ref aK, .ref aN])), (aW, .inr (1, [.ref aS, .int place_1, .int limit_1, .int (b2i full_1)])), (aS, .inr (0, [.ref aB])), (aB, .inl (cB, 202000, .inl (by_ b))), (aF, .inr (2, [.int fbase, .ref aFs, .int fcnt])), (aFs, .inl (cI, 201, .inl fsts)), (aN, .inr (2, [.int nbase, .ref aNs, .int ncnt])), (aNs, .inl (cI, 201, .inl nsts)), (aP, .inr (5, [.ref aS, .ref aV, .ref aPs, .ref aPe, .ref aPi, .ref aPh, .int pcnt, .int (b2i pfix), .int pown, .ref aPl, .ref aPn, .int plc, .int psr, .int pbs, .int (b2i pms)])), (aPs, .inl (cI, 8, .inl pst)), (aPe, .inl (cI, 8, .inl pen)), (aPh, .inl (cI, 8, .inl pho))] H := hP.sub [0, 9, 10, 1, 2, 3, 4, 11, 12, 5, 6, 7, 8] rfl
  have hD : va_D A [(aH, .inr (6, [.ref aS, .ref aY, .ref aP])), (aY, .inr (3, [.ref aS, .ref aW, .ref aF, .ref aK, .ref aN])), (aW, .inr (1, [.ref aS, .int place_1, .int limit_1, .int (b2i full_1)])), (aS, .inr (0, [.ref aB])), (aB, .inl (cB, 202000, .inl (by_ b))), (aF, .inr (2, [.int fbase, .ref aFs, .int fcnt])), (aFs, .inl (cI, 201, .inl fsts)), (aN, .inr (2, [.int nbase, .ref aNs, .int ncnt])), (aNs, .inl (cI, 201, .inl nsts)), (aP, .inr (5, [.ref aS, .ref aV, .ref aPs, .ref aPe, .ref aPi, .ref aPh, .int pcnt, .int (b2i pfix), .int pown, .ref aPl, .ref aPn, .int plc, .int psr, .int pbs, .int (b2i pms)])), (aPs, .inl (cI, 8, .inl pst)), (aPe, .inl (cI, 8, .inl pen)), (aPh, .inl (cI, 8, .inl pho))] := hD.sub [0, 9, 10, 1, 2, 3, 4, 11, 12, 5, 6, 7, 8] (by decide) rfl
  refine lv_astore (lv' := [(4, .ref aW), (0, .ref aH), (1, .int p0), (2, .int p1), (3, .int p2)]) hx hb d_SH_writeUnwound_7 hl (by decide) rfl (fun ls hl => ?_)
  refine lv_aload_n hx hb d_SH_writeUnwound_9 rfl (lv_at hl 1 rfl) ?_
  refine va_get (D := D) (ci := 6) (v := .ref aY) (C := R_SH) (T := T_SH) (N := 3) hx hb hT u_SH hown hK hP 0 rfl rfl 1 (by decide) (hT _ k_197) (fun _ h9 => h9) rfl d_SH_writeUnwound_10 ?_
  refine va_getN (D := D) (ci := 3) (v := .ref aF) (C := R_BS) (T := T_BS) (N := 5) hx hb hT u_BS hown hK hP 1 rfl rfl 2 (by decide) (va_Nw.use rfl (hN ("PipelineBelt$Shaper", 27, "PipelineBelt$Belts", "front", "LPipelineBelt$Belt;", "PipelineBelt") (by decide))) (fun _ h9 => h9) rfl d_SH_writeUnwound_13 ?_
  refine lv_iload_n hx hb d_SH_writeUnwound_16 rfl (lv_at hl 2 rfl) ?_
  refine rd_V (val := tw_BE_start fbase fcnt fsts p0) (As := [.int p0]) (rest := []) ⟨hx, hb, hml, hown, hT⟩ (c_BE_start l D cB cI aF aFs fbase fcnt fsts p0) (cwV 1 hT (gV_of k_690 k_440 k_441 k_6 kc_BE_start) rfl rfl rfl hd_BE_start ⟨Nat.le_of_ble_eq_true rfl, Nat.le_of_ble_eq_true rfl⟩) hk (hP.sub (ws' := [(aF, .inr (2, [.int fbase, .ref aFs, .int fcnt])), (aFs, .inl (cI, 201, .inl fsts))]) [5, 6] rfl) (q0 := 0) rfl rfl rfl rfl hl.1 rfl (Nat.le_of_ble_eq_true rfl) d_SH_writeUnwound_17 ⟨Nat.zero_le _, Nat.zero_le _⟩ ?_
  refine lv_istore (lv' := [(5, .int (tw_BE_start fbase fcnt fsts p0)), (4, .ref aW), (0, .ref aH), (1, .int p0), (2, .int p1), (3, .int p2)]) hx hb d_SH_writeUnwound_20 hl (by decide) rfl (fun ls hl => ?_)
  refine lv_aload hx hb d_SH_writeUnwound_22 (lv_at hl 1 rfl) ?_
  refine va_getN (D := D) (ci := 1) (v := .int place_1) (C := R_WR) (T := T_WR) (N := 4) hx hb hT u_WR hown hK hP 2 rfl rfl 1 (by decide) (va_Nw.use rfl (hN ("PipelineBelt$Shaper", 138, "PipelineBelt$Writer", "place", "I", "PipelineBelt") (by decide))) (fun _ h9 => h9) rfl d_SH_writeUnwound_24 ?_
  refine lv_istore (lv' := [(6, .int place_1), (5, .int (tw_BE_start fbase fcnt fsts p0)), (4, .ref aW), (0, .ref aH), (1, .int p0), (2, .int p1), (3, .int p2)]) hx hb d_SH_writeUnwound_27 hl (by decide) rfl (fun ls hl => ?_)
  refine lv_iload_n hx hb d_SH_writeUnwound_29 rfl (lv_at hl 5 rfl) ?_
  refine rd_S (val := tw_ST_placeOf p1) (As := [.int p1]) (rest := []) ⟨hx, hb, hml, hown, hT⟩ (c_ST_placeOf l D cB cI p1) (va_cwS 1 hT (gS_of k_559 k_403 k_2 kc_ST_placeOf) rfl rfl rfl hd_ST_placeOf ⟨Nat.le_of_ble_eq_true rfl, Nat.le_of_ble_eq_true rfl⟩) hk (va_P_nil) rfl hl.1 rfl (Nat.le_of_ble_eq_true rfl) d_SH_writeUnwound_30 ⟨Nat.zero_le _, Nat.zero_le _⟩ ?_
  refine lv_aload_n hx hb d_SH_writeUnwound_33 rfl (lv_at hl 3 rfl) ?_
  refine va_get (D := D) (ci := 6) (v := .ref aP) (C := R_SH) (T := T_SH) (N := 3) hx hb hT u_SH hown hK hP 0 rfl rfl 2 (by decide) (hT _ k_198) (fun _ h9 => h9) rfl d_SH_writeUnwound_34 ?_
  refine rd_V (val := tw_PA_lengthOfLastName pcnt pst pen) (As := []) (rest := [.int (tw_ST_placeOf p1)]) ⟨hx, hb, hml, hown, hT⟩ (c_PA_lengthOfLastName l D cB cI aP aS aV aPs aPe aPi aPh aPl aPn pcnt pfix pown plc psr pbs pms pst pen) (cwV 0 hT (gV_of k_691 k_692 k_693 k_7 kc_PA_lengthOfLastName) rfl rfl rfl hd_PA_lengthOfLastName ⟨Nat.le_of_ble_eq_true rfl, Nat.le_of_ble_eq_true rfl⟩) hk (hP.sub (ws' := [(aP, .inr (5, [.ref aS, .ref aV, .ref aPs, .ref aPe, .ref aPi, .ref aPh, .int pcnt, .int (b2i pfix), .int pown, .ref aPl, .ref aPn, .int plc, .int psr, .int pbs, .int (b2i pms)])), (aPs, .inl (cI, 8, .inl pst)), (aPe, .inl (cI, 8, .inl pen))]) [9, 10, 11] rfl) (q0 := 0) rfl rfl rfl rfl hl.1 rfl (Nat.le_of_ble_eq_true rfl) d_SH_writeUnwound_37 ⟨Nat.zero_le _, Nat.zero_le _⟩ ?_
  refine lv_isub hx hb d_SH_writeUnwound_40 ?_
  refine lv_iconst (v := 2) hx hb d_SH_writeUnwound_41 (by decide) ?_
  refine lv_isub hx hb d_SH_writeUnwound_42 ?_
  refine lv_istore (lv' := [(7, .int (((tw_ST_placeOf p1) - (tw_PA_lengthOfLastName pcnt pst pen)) - 2)), (6, .int place_1), (5, .int (tw_BE_start fbase fcnt fsts p0)), (4, .ref aW), (0, .ref aH), (1, .int p0), (2, .int p1), (3, .int p2)]) hx hb d_SH_writeUnwound_43 hl (by decide) rfl (fun ls hl => ?_)
  refine lv_aload_n hx hb d_SH_writeUnwound_45 rfl (lv_at hl 4 rfl) ?_
  refine va_get (D := D) (ci := 6) (v := .ref aS) (C := R_SH) (T := T_SH) (N := 3) hx hb hT u_SH hown hK hP 0 rfl rfl 0 (by decide) (hT _ k_196) (fun _ h9 => h9) rfl d_SH_writeUnwound_46 ?_
  refine lv_iload_n hx hb d_SH_writeUnwound_49 rfl (lv_at hl 6 rfl) ?_
  refine rd_V (val := tw_ST_endOf b p1) (As := [.int p1]) (rest := []) ⟨hx, hb, hml, hown, hT⟩ (c_ST_endOf l D cB cI aS aB b p1) (cwV 1 hT (gV_of k_558 k_416 k_417 k_2 kc_ST_endOf) rfl rfl rfl hd_ST_endOf ⟨Nat.le_of_ble_eq_true rfl, Nat.le_of_ble_eq_true rfl⟩) hk (hP.sub (ws' := [(aS, .inr (0, [.ref aB])), (aB, .inl (cB, 202000, .inl (by_ b)))]) [3, 4] rfl) (q0 := 0) rfl rfl rfl rfl hl.1 rfl (Nat.le_of_ble_eq_true rfl) d_SH_writeUnwound_50 ⟨Nat.zero_le _, Nat.zero_le _⟩ ?_
  refine lv_iload_n hx hb d_SH_writeUnwound_53 rfl (lv_at hl 6 rfl) ?_
  refine rd_S (val := tw_ST_placeOf p1) (As := [.int p1]) (rest := [.int (tw_ST_endOf b p1)]) ⟨hx, hb, hml, hown, hT⟩ (c_ST_placeOf l D cB cI p1) (va_cwS 1 hT (gS_of k_559 k_403 k_2 kc_ST_placeOf) rfl rfl rfl hd_ST_placeOf ⟨Nat.le_of_ble_eq_true rfl, Nat.le_of_ble_eq_true rfl⟩) hk (va_P_nil) rfl hl.1 rfl (Nat.le_of_ble_eq_true rfl) d_SH_writeUnwound_54 ⟨Nat.zero_le _, Nat.zero_le _⟩ ?_
  refine lv_isub hx hb d_SH_writeUnwound_57 ?_
  refine lv_aload_n hx hb d_SH_writeUnwound_58 rfl (lv_at hl 4 rfl) ?_
  refine va_get (D := D) (ci := 6) (v := .ref aS) (C := R_SH) (T := T_SH) (N := 3) hx hb hT u_SH hown hK hP 0 rfl rfl 0 (by decide) (hT _ k_196) (fun _ h9 => h9) rfl d_SH_writeUnwound_59 ?_
  refine lv_iload_n hx hb d_SH_writeUnwound_62 rfl (lv_at hl 7 rfl) ?_
  refine rd_V (val := tw_ST_endOf b p2) (As := [.int p2]) (rest := [.int ((tw_ST_endOf b p1) - (tw_ST_placeOf p1))]) ⟨hx, hb, hml, hown, hT⟩ (c_ST_endOf l D cB cI aS aB b p2) (cwV 1 hT (gV_of k_558 k_416 k_417 k_2 kc_ST_endOf) rfl rfl rfl hd_ST_endOf ⟨Nat.le_of_ble_eq_true rfl, Nat.le_of_ble_eq_true rfl⟩) hk (hP.sub (ws' := [(aS, .inr (0, [.ref aB])), (aB, .inl (cB, 202000, .inl (by_ b)))]) [3, 4] rfl) (q0 := 0) rfl rfl rfl rfl hl.1 rfl (Nat.le_of_ble_eq_true rfl) d_SH_writeUnwound_63 ⟨Nat.zero_le _, Nat.zero_le _⟩ ?_
  refine lv_isub hx hb d_SH_writeUnwound_66 ?_
  refine lv_iload_n hx hb d_SH_writeUnwound_67 rfl (lv_at hl 7 rfl) ?_
  refine rd_S (val := tw_ST_placeOf p2) (As := [.int p2]) (rest := [.int (((tw_ST_endOf b p1) - (tw_ST_placeOf p1)) - (tw_ST_endOf b p2))]) ⟨hx, hb, hml, hown, hT⟩ (c_ST_placeOf l D cB cI p2) (va_cwS 1 hT (gS_of k_559 k_403 k_2 kc_ST_placeOf) rfl rfl rfl hd_ST_placeOf ⟨Nat.le_of_ble_eq_true rfl, Nat.le_of_ble_eq_true rfl⟩) hk (va_P_nil) rfl hl.1 rfl (Nat.le_of_ble_eq_true rfl) d_SH_writeUnwound_68 ⟨Nat.zero_le _, Nat.zero_le _⟩ ?_
  refine lv_iadd hx hb d_SH_writeUnwound_71 ?_
  refine lv_istore (lv' := [(8, .int ((((tw_ST_endOf b p1) - (tw_ST_placeOf p1)) - (tw_ST_endOf b p2)) + (tw_ST_placeOf p2))), (7, .int (((tw_ST_placeOf p1) - (tw_PA_lengthOfLastName pcnt pst pen)) - 2)), (6, .int place_1), (5, .int (tw_BE_start fbase fcnt fsts p0)), (4, .ref aW), (0, .ref aH), (1, .int p0), (2, .int p1), (3, .int p2)]) hx hb d_SH_writeUnwound_72 hl (by decide) rfl (fun ls hl => ?_)
  refine lv_aload hx hb d_SH_writeUnwound_74 (lv_at hl 4 rfl) ?_
  refine lv_iload hx hb d_SH_writeUnwound_76 (lv_at hl 3 rfl) ?_
  refine lv_iload hx hb d_SH_writeUnwound_78 (lv_at hl 1 rfl) ?_
  refine mt_Vv (As := [.int (tw_BE_start fbase fcnt fsts p0), .int (((tw_ST_placeOf p1) - (tw_PA_lengthOfLastName pcnt pst pen)) - 2)]) (rest := []) (wr := [(aH, .inr (6, [.ref aS, .ref aY, .ref aP])), (aY, .inr (3, [.ref aS, .ref aW, .ref aF, .ref aK, .ref aN])), (aF, .inr (2, [.int fbase, .ref aFs, .int fcnt])), (aFs, .inl (cI, 201, .inl fsts)), (aN, .inr (2, [.int nbase, .ref aNs, .int ncnt])), (aNs, .inl (cI, 201, .inl nsts)), (aP, .inr (5, [.ref aS, .ref aV, .ref aPs, .ref aPe, .ref aPi, .ref aPh, .int pcnt, .int (b2i pfix), .int pown, .ref aPl, .ref aPn, .int plc, .int psr, .int pbs, .int (b2i pms)])), (aPs, .inl (cI, 8, .inl pst)), (aPe, .inl (cI, 8, .inl pen)), (aPh, .inl (cI, 8, .inl pho))]) ⟨hx, hb, hml, hown, hT⟩ (c_WR_copy l D cB cI aW aS aB limit_1 full_1 place_1 _ place_1 limit_1 full_1 b (tw_BE_start fbase fcnt fsts p0) (((tw_ST_placeOf p1) - (tw_PA_lengthOfLastName pcnt pst pen)) - 2) (Or.inl (le30 (hfr _).2)) (w_r hi_1.1)) (cwV 2 hT (gV_of k_657 k_451 k_452 k_5 kc_WR_copy) rfl rfl rfl hd_WR_copy ⟨Nat.le_of_ble_eq_true rfl, Nat.le_of_ble_eq_true rfl⟩) hk hP hD hS hA [2, 3, 4] [0, 1, 5, 6, 7, 8, 9, 10, 11, 12] rfl rfl rfl (by decide) (by decide) (by decide) (q0 := 0) rfl rfl rfl rfl hl.1 rfl (Nat.le_of_ble_eq_true rfl) d_SH_writeUnwound_80 ⟨Nat.zero_le _, Nat.zero_le _⟩ (fun u_2 H locs hw_2 hP hD hS => ?_)
  obtain ⟨place_2, limit_2, full_2, b_2⟩ := u_2
  obtain ⟨hw_2, hi_2⟩ := hw_2
  have hP : va_P D vwCl [(aH, .inr (6, [.ref aS, .ref aY, .ref aP])), (aY, .inr (3, [.ref aS, .ref aW, .ref aF, .ref aK, .ref aN])), (aW, .inr (1, [.ref aS, .int place_2, .int limit_2, .int (b2i full_2)])), (aS, .inr (0, [.ref aB])), (aB, .inl (cB, 202000, .inl (by_ b_2))), (aF, .inr (2, [.int fbase, .ref aFs, .int fcnt])), (aFs, .inl (cI, 201, .inl fsts)), (aN, .inr (2, [.int nbase, .ref aNs, .int ncnt])), (aNs, .inl (cI, 201, .inl nsts)), (aP, .inr (5, [.ref aS, .ref aV, .ref aPs, .ref aPe, .ref aPi, .ref aPh, .int pcnt, .int (b2i pfix), .int pown, .ref aPl, .ref aPn, .int plc, .int psr, .int pbs, .int (b2i pms)])), (aPs, .inl (cI, 8, .inl pst)), (aPe, .inl (cI, 8, .inl pen)), (aPh, .inl (cI, 8, .inl pho))] H := hP.sub [0, 1, 10, 11, 12, 2, 3, 4, 5, 6, 7, 8, 9] rfl
  have hD : va_D A [(aH, .inr (6, [.ref aS, .ref aY, .ref aP])), (aY, .inr (3, [.ref aS, .ref aW, .ref aF, .ref aK, .ref aN])), (aW, .inr (1, [.ref aS, .int place_2, .int limit_2, .int (b2i full_2)])), (aS, .inr (0, [.ref aB])), (aB, .inl (cB, 202000, .inl (by_ b_2))), (aF, .inr (2, [.int fbase, .ref aFs, .int fcnt])), (aFs, .inl (cI, 201, .inl fsts)), (aN, .inr (2, [.int nbase, .ref aNs, .int ncnt])), (aNs, .inl (cI, 201, .inl nsts)), (aP, .inr (5, [.ref aS, .ref aV, .ref aPs, .ref aPe, .ref aPi, .ref aPh, .int pcnt, .int (b2i pfix), .int pown, .ref aPl, .ref aPn, .int plc, .int psr, .int pbs, .int (b2i pms)])), (aPs, .inl (cI, 8, .inl pst)), (aPe, .inl (cI, 8, .inl pen)), (aPh, .inl (cI, 8, .inl pho))] := hD.sub [0, 1, 10, 11, 12, 2, 3, 4, 5, 6, 7, 8, 9] (by decide) rfl
  refine lv_aload hx hb d_SH_writeUnwound_83 (lv_at hl 4 rfl) ?_
  refine lv_iload_n hx hb d_SH_writeUnwound_85 rfl (lv_at hl 8 rfl) ?_
  refine rd_S (val := tw_ST_kindOf p2) (As := [.int p2]) (rest := [.ref aW]) ⟨hx, hb, hml, hown, hT⟩ (c_ST_kindOf l D cB cI p2) (va_cwS 1 hT (gS_of k_554 k_555 k_2 kc_ST_kindOf) rfl rfl rfl hd_ST_kindOf ⟨Nat.le_of_ble_eq_true rfl, Nat.le_of_ble_eq_true rfl⟩) hk (va_P_nil) rfl hl.1 rfl (Nat.le_of_ble_eq_true rfl) d_SH_writeUnwound_86 ⟨Nat.zero_le _, Nat.zero_le _⟩ ?_
  refine mt_Vv (As := [.int (tw_ST_kindOf p2)]) (rest := []) (wr := [(aH, .inr (6, [.ref aS, .ref aY, .ref aP])), (aY, .inr (3, [.ref aS, .ref aW, .ref aF, .ref aK, .ref aN])), (aF, .inr (2, [.int fbase, .ref aFs, .int fcnt])), (aFs, .inl (cI, 201, .inl fsts)), (aN, .inr (2, [.int nbase, .ref aNs, .int ncnt])), (aNs, .inl (cI, 201, .inl nsts)), (aP, .inr (5, [.ref aS, .ref aV, .ref aPs, .ref aPe, .ref aPi, .ref aPh, .int pcnt, .int (b2i pfix), .int pown, .ref aPl, .ref aPn, .int plc, .int psr, .int pbs, .int (b2i pms)])), (aPs, .inl (cI, 8, .inl pst)), (aPe, .inl (cI, 8, .inl pen)), (aPh, .inl (cI, 8, .inl pho))]) ⟨hx, hb, hml, hown, hT⟩ (c_WR_octet l D cB cI aW aS aB limit_1 full_1 place_1 _ place_2 limit_2 full_2 b_2 (tw_ST_kindOf p2) hi_2) (cwV 1 hT (gV_of k_695 k_602 k_603 k_5 kc_WR_octet) rfl rfl rfl hd_WR_octet ⟨Nat.le_of_ble_eq_true rfl, Nat.le_of_ble_eq_true rfl⟩) hk hP hD hS hA [2, 3, 4] [0, 1, 5, 6, 7, 8, 9, 10, 11, 12] rfl rfl rfl (by decide) (by decide) (by decide) (q0 := 0) rfl rfl rfl rfl hl.1 rfl (Nat.le_of_ble_eq_true rfl) d_SH_writeUnwound_89 ⟨Nat.zero_le _, Nat.zero_le _⟩ (fun u_3 H locs hw_3 hP hD hS => ?_)
  obtain ⟨place_3, limit_3, full_3, b_3⟩ := u_3
  obtain ⟨hw_3, hi_3⟩ := hw_3
  have hP : va_P D vwCl [(aH, .inr (6, [.ref aS, .ref aY, .ref aP])), (aY, .inr (3, [.ref aS, .ref aW, .ref aF, .ref aK, .ref aN])), (aW, .inr (1, [.ref aS, .int place_3, .int limit_3, .int (b2i full_3)])), (aS, .inr (0, [.ref aB])), (aB, .inl (cB, 202000, .inl (by_ b_3))), (aF, .inr (2, [.int fbase, .ref aFs, .int fcnt])), (aFs, .inl (cI, 201, .inl fsts)), (aN, .inr (2, [.int nbase, .ref aNs, .int ncnt])), (aNs, .inl (cI, 201, .inl nsts)), (aP, .inr (5, [.ref aS, .ref aV, .ref aPs, .ref aPe, .ref aPi, .ref aPh, .int pcnt, .int (b2i pfix), .int pown, .ref aPl, .ref aPn, .int plc, .int psr, .int pbs, .int (b2i pms)])), (aPs, .inl (cI, 8, .inl pst)), (aPe, .inl (cI, 8, .inl pen)), (aPh, .inl (cI, 8, .inl pho))] H := hP.sub [0, 1, 10, 11, 12, 2, 3, 4, 5, 6, 7, 8, 9] rfl
  have hD : va_D A [(aH, .inr (6, [.ref aS, .ref aY, .ref aP])), (aY, .inr (3, [.ref aS, .ref aW, .ref aF, .ref aK, .ref aN])), (aW, .inr (1, [.ref aS, .int place_3, .int limit_3, .int (b2i full_3)])), (aS, .inr (0, [.ref aB])), (aB, .inl (cB, 202000, .inl (by_ b_3))), (aF, .inr (2, [.int fbase, .ref aFs, .int fcnt])), (aFs, .inl (cI, 201, .inl fsts)), (aN, .inr (2, [.int nbase, .ref aNs, .int ncnt])), (aNs, .inl (cI, 201, .inl nsts)), (aP, .inr (5, [.ref aS, .ref aV, .ref aPs, .ref aPe, .ref aPi, .ref aPh, .int pcnt, .int (b2i pfix), .int pown, .ref aPl, .ref aPn, .int plc, .int psr, .int pbs, .int (b2i pms)])), (aPs, .inl (cI, 8, .inl pst)), (aPe, .inl (cI, 8, .inl pen)), (aPh, .inl (cI, 8, .inl pho))] := hD.sub [0, 1, 10, 11, 12, 2, 3, 4, 5, 6, 7, 8, 9] (by decide) rfl
  refine lv_aload hx hb d_SH_writeUnwound_92 (lv_at hl 4 rfl) ?_
  refine lv_iload hx hb d_SH_writeUnwound_94 (lv_at hl 1 rfl) ?_
  refine lv_iconst (v := 1) hx hb d_SH_writeUnwound_96 (by decide) ?_
  refine lv_iadd hx hb d_SH_writeUnwound_97 ?_
  refine lv_iload_n hx hb d_SH_writeUnwound_98 rfl (lv_at hl 7 rfl) ?_
  refine rd_S (val := tw_ST_placeOf p1) (As := [.int p1]) (rest := [.int ((((tw_ST_placeOf p1) - (tw_PA_lengthOfLastName pcnt pst pen)) - 2) + 1), .ref aW]) ⟨hx, hb, hml, hown, hT⟩ (c_ST_placeOf l D cB cI p1) (va_cwS 1 hT (gS_of k_559 k_403 k_2 kc_ST_placeOf) rfl rfl rfl hd_ST_placeOf ⟨Nat.le_of_ble_eq_true rfl, Nat.le_of_ble_eq_true rfl⟩) hk (va_P_nil) rfl hl.1 rfl (Nat.le_of_ble_eq_true rfl) d_SH_writeUnwound_99 ⟨Nat.zero_le _, Nat.zero_le _⟩ ?_
  refine mt_Vv (As := [.int ((((tw_ST_placeOf p1) - (tw_PA_lengthOfLastName pcnt pst pen)) - 2) + 1), .int (tw_ST_placeOf p1)]) (rest := []) (wr := [(aH, .inr (6, [.ref aS, .ref aY, .ref aP])), (aY, .inr (3, [.ref aS, .ref aW, .ref aF, .ref aK, .ref aN])), (aF, .inr (2, [.int fbase, .ref aFs, .int fcnt])), (aFs, .inl (cI, 201, .inl fsts)), (aN, .inr (2, [.int nbase, .ref aNs, .int ncnt])), (aNs, .inl (cI, 201, .inl nsts)), (aP, .inr (5, [.ref aS, .ref aV, .ref aPs, .ref aPe, .ref aPi, .ref aPh, .int pcnt, .int (b2i pfix), .int pown, .ref aPl, .ref aPn, .int plc, .int psr, .int pbs, .int (b2i pms)])), (aPs, .inl (cI, 8, .inl pst)), (aPe, .inl (cI, 8, .inl pen)), (aPh, .inl (cI, 8, .inl pho))]) ⟨hx, hb, hml, hown, hT⟩ (c_WR_copy l D cB cI aW aS aB limit_1 full_1 place_1 _ place_3 limit_3 full_3 b_3 ((((tw_ST_placeOf p1) - (tw_PA_lengthOfLastName pcnt pst pen)) - 2) + 1) (tw_ST_placeOf p1) (Or.inr (pm_le _)) hi_3) (cwV 2 hT (gV_of k_657 k_451 k_452 k_5 kc_WR_copy) rfl rfl rfl hd_WR_copy ⟨Nat.le_of_ble_eq_true rfl, Nat.le_of_ble_eq_true rfl⟩) hk hP hD hS hA [2, 3, 4] [0, 1, 5, 6, 7, 8, 9, 10, 11, 12] rfl rfl rfl (by decide) (by decide) (by decide) (q0 := 0) rfl rfl rfl rfl hl.1 rfl (Nat.le_of_ble_eq_true rfl) d_SH_writeUnwound_102 ⟨Nat.zero_le _, Nat.zero_le _⟩ (fun u_4 H locs hw_4 hP hD hS => ?_)
  obtain ⟨place_4, limit_4, full_4, b_4⟩ := u_4
  obtain ⟨hw_4, hi_4⟩ := hw_4
  have hP : va_P D vwCl [(aH, .inr (6, [.ref aS, .ref aY, .ref aP])), (aY, .inr (3, [.ref aS, .ref aW, .ref aF, .ref aK, .ref aN])), (aW, .inr (1, [.ref aS, .int place_4, .int limit_4, .int (b2i full_4)])), (aS, .inr (0, [.ref aB])), (aB, .inl (cB, 202000, .inl (by_ b_4))), (aF, .inr (2, [.int fbase, .ref aFs, .int fcnt])), (aFs, .inl (cI, 201, .inl fsts)), (aN, .inr (2, [.int nbase, .ref aNs, .int ncnt])), (aNs, .inl (cI, 201, .inl nsts)), (aP, .inr (5, [.ref aS, .ref aV, .ref aPs, .ref aPe, .ref aPi, .ref aPh, .int pcnt, .int (b2i pfix), .int pown, .ref aPl, .ref aPn, .int plc, .int psr, .int pbs, .int (b2i pms)])), (aPs, .inl (cI, 8, .inl pst)), (aPe, .inl (cI, 8, .inl pen)), (aPh, .inl (cI, 8, .inl pho))] H := hP.sub [0, 1, 10, 11, 12, 2, 3, 4, 5, 6, 7, 8, 9] rfl
  have hD : va_D A [(aH, .inr (6, [.ref aS, .ref aY, .ref aP])), (aY, .inr (3, [.ref aS, .ref aW, .ref aF, .ref aK, .ref aN])), (aW, .inr (1, [.ref aS, .int place_4, .int limit_4, .int (b2i full_4)])), (aS, .inr (0, [.ref aB])), (aB, .inl (cB, 202000, .inl (by_ b_4))), (aF, .inr (2, [.int fbase, .ref aFs, .int fcnt])), (aFs, .inl (cI, 201, .inl fsts)), (aN, .inr (2, [.int nbase, .ref aNs, .int ncnt])), (aNs, .inl (cI, 201, .inl nsts)), (aP, .inr (5, [.ref aS, .ref aV, .ref aPs, .ref aPe, .ref aPi, .ref aPh, .int pcnt, .int (b2i pfix), .int pown, .ref aPl, .ref aPn, .int plc, .int psr, .int pbs, .int (b2i pms)])), (aPs, .inl (cI, 8, .inl pst)), (aPe, .inl (cI, 8, .inl pen)), (aPh, .inl (cI, 8, .inl pho))] := hD.sub [0, 1, 10, 11, 12, 2, 3, 4, 5, 6, 7, 8, 9] (by decide) rfl
  refine lv_aload hx hb d_SH_writeUnwound_105 (lv_at hl 4 rfl) ?_
  refine lv_iload_n hx hb d_SH_writeUnwound_107 rfl (lv_at hl 8 rfl) ?_
  refine rd_S (val := tw_ST_placeOf p2) (As := [.int p2]) (rest := [.ref aW]) ⟨hx, hb, hml, hown, hT⟩ (c_ST_placeOf l D cB cI p2) (va_cwS 1 hT (gS_of k_559 k_403 k_2 kc_ST_placeOf) rfl rfl rfl hd_ST_placeOf ⟨Nat.le_of_ble_eq_true rfl, Nat.le_of_ble_eq_true rfl⟩) hk (va_P_nil) rfl hl.1 rfl (Nat.le_of_ble_eq_true rfl) d_SH_writeUnwound_108 ⟨Nat.zero_le _, Nat.zero_le _⟩ ?_
  refine lv_aload_n hx hb d_SH_writeUnwound_111 rfl (lv_at hl 5 rfl) ?_
  refine va_get (D := D) (ci := 6) (v := .ref aS) (C := R_SH) (T := T_SH) (N := 3) hx hb hT u_SH hown hK hP 0 rfl rfl 0 (by decide) (hT _ k_196) (fun _ h9 => h9) rfl d_SH_writeUnwound_112 ?_
  refine lv_iload_n hx hb d_SH_writeUnwound_115 rfl (lv_at hl 8 rfl) ?_
  refine rd_V (val := tw_ST_endOf b_4 p2) (As := [.int p2]) (rest := [.int (tw_ST_placeOf p2), .ref aW]) ⟨hx, hb, hml, hown, hT⟩ (c_ST_endOf l D cB cI aS aB b_4 p2) (cwV 1 hT (gV_of k_558 k_416 k_417 k_2 kc_ST_endOf) rfl rfl rfl hd_ST_endOf ⟨Nat.le_of_ble_eq_true rfl, Nat.le_of_ble_eq_true rfl⟩) hk (hP.sub (ws' := [(aS, .inr (0, [.ref aB])), (aB, .inl (cB, 202000, .inl (by_ b_4)))]) [3, 4] rfl) (q0 := 0) rfl rfl rfl rfl hl.1 rfl (Nat.le_of_ble_eq_true rfl) d_SH_writeUnwound_116 ⟨Nat.zero_le _, Nat.zero_le _⟩ ?_
  refine mt_Vv (As := [.int (tw_ST_placeOf p2), .int (tw_ST_endOf b_4 p2)]) (rest := []) (wr := [(aH, .inr (6, [.ref aS, .ref aY, .ref aP])), (aY, .inr (3, [.ref aS, .ref aW, .ref aF, .ref aK, .ref aN])), (aF, .inr (2, [.int fbase, .ref aFs, .int fcnt])), (aFs, .inl (cI, 201, .inl fsts)), (aN, .inr (2, [.int nbase, .ref aNs, .int ncnt])), (aNs, .inl (cI, 201, .inl nsts)), (aP, .inr (5, [.ref aS, .ref aV, .ref aPs, .ref aPe, .ref aPi, .ref aPh, .int pcnt, .int (b2i pfix), .int pown, .ref aPl, .ref aPn, .int plc, .int psr, .int pbs, .int (b2i pms)])), (aPs, .inl (cI, 8, .inl pst)), (aPe, .inl (cI, 8, .inl pen)), (aPh, .inl (cI, 8, .inl pho))]) ⟨hx, hb, hml, hown, hT⟩ (c_WR_copy l D cB cI aW aS aB limit_1 full_1 place_1 _ place_4 limit_4 full_4 b_4 (tw_ST_placeOf p2) (tw_ST_endOf b_4 p2) (Or.inl (pl_le _)) hi_4) (cwV 2 hT (gV_of k_657 k_451 k_452 k_5 kc_WR_copy) rfl rfl rfl hd_WR_copy ⟨Nat.le_of_ble_eq_true rfl, Nat.le_of_ble_eq_true rfl⟩) hk hP hD hS hA [2, 3, 4] [0, 1, 5, 6, 7, 8, 9, 10, 11, 12] rfl rfl rfl (by decide) (by decide) (by decide) (q0 := 0) rfl rfl rfl rfl hl.1 rfl (Nat.le_of_ble_eq_true rfl) d_SH_writeUnwound_119 ⟨Nat.zero_le _, Nat.zero_le _⟩ (fun u_5 H locs hw_5 hP hD hS => ?_)
  obtain ⟨place_5, limit_5, full_5, b_5⟩ := u_5
  obtain ⟨hw_5, hi_5⟩ := hw_5
  have hP : va_P D vwCl [(aH, .inr (6, [.ref aS, .ref aY, .ref aP])), (aY, .inr (3, [.ref aS, .ref aW, .ref aF, .ref aK, .ref aN])), (aW, .inr (1, [.ref aS, .int place_5, .int limit_5, .int (b2i full_5)])), (aS, .inr (0, [.ref aB])), (aB, .inl (cB, 202000, .inl (by_ b_5))), (aF, .inr (2, [.int fbase, .ref aFs, .int fcnt])), (aFs, .inl (cI, 201, .inl fsts)), (aN, .inr (2, [.int nbase, .ref aNs, .int ncnt])), (aNs, .inl (cI, 201, .inl nsts)), (aP, .inr (5, [.ref aS, .ref aV, .ref aPs, .ref aPe, .ref aPi, .ref aPh, .int pcnt, .int (b2i pfix), .int pown, .ref aPl, .ref aPn, .int plc, .int psr, .int pbs, .int (b2i pms)])), (aPs, .inl (cI, 8, .inl pst)), (aPe, .inl (cI, 8, .inl pen)), (aPh, .inl (cI, 8, .inl pho))] H := hP.sub [0, 1, 10, 11, 12, 2, 3, 4, 5, 6, 7, 8, 9] rfl
  have hD : va_D A [(aH, .inr (6, [.ref aS, .ref aY, .ref aP])), (aY, .inr (3, [.ref aS, .ref aW, .ref aF, .ref aK, .ref aN])), (aW, .inr (1, [.ref aS, .int place_5, .int limit_5, .int (b2i full_5)])), (aS, .inr (0, [.ref aB])), (aB, .inl (cB, 202000, .inl (by_ b_5))), (aF, .inr (2, [.int fbase, .ref aFs, .int fcnt])), (aFs, .inl (cI, 201, .inl fsts)), (aN, .inr (2, [.int nbase, .ref aNs, .int ncnt])), (aNs, .inl (cI, 201, .inl nsts)), (aP, .inr (5, [.ref aS, .ref aV, .ref aPs, .ref aPe, .ref aPi, .ref aPh, .int pcnt, .int (b2i pfix), .int pown, .ref aPl, .ref aPn, .int plc, .int psr, .int pbs, .int (b2i pms)])), (aPs, .inl (cI, 8, .inl pst)), (aPe, .inl (cI, 8, .inl pen)), (aPh, .inl (cI, 8, .inl pho))] := hD.sub [0, 1, 10, 11, 12, 2, 3, 4, 5, 6, 7, 8, 9] (by decide) rfl
  refine lv_aload hx hb d_SH_writeUnwound_122 (lv_at hl 4 rfl) ?_
  refine lv_aload_n hx hb d_SH_writeUnwound_124 rfl (lv_at hl 5 rfl) ?_
  refine va_get (D := D) (ci := 6) (v := .ref aS) (C := R_SH) (T := T_SH) (N := 3) hx hb hT u_SH hown hK hP 0 rfl rfl 0 (by decide) (hT _ k_196) (fun _ h9 => h9) rfl d_SH_writeUnwound_125 ?_
  refine lv_iload_n hx hb d_SH_writeUnwound_128 rfl (lv_at hl 7 rfl) ?_
  refine rd_V (val := tw_ST_endOf b_5 p1) (As := [.int p1]) (rest := [.ref aW]) ⟨hx, hb, hml, hown, hT⟩ (c_ST_endOf l D cB cI aS aB b_5 p1) (cwV 1 hT (gV_of k_558 k_416 k_417 k_2 kc_ST_endOf) rfl rfl rfl hd_ST_endOf ⟨Nat.le_of_ble_eq_true rfl, Nat.le_of_ble_eq_true rfl⟩) hk (hP.sub (ws' := [(aS, .inr (0, [.ref aB])), (aB, .inl (cB, 202000, .inl (by_ b_5)))]) [3, 4] rfl) (q0 := 0) rfl rfl rfl rfl hl.1 rfl (Nat.le_of_ble_eq_true rfl) d_SH_writeUnwound_129 ⟨Nat.zero_le _, Nat.zero_le _⟩ ?_
  refine lv_aload_n hx hb d_SH_writeUnwound_132 rfl (lv_at hl 5 rfl) ?_
  refine va_get (D := D) (ci := 6) (v := .ref aY) (C := R_SH) (T := T_SH) (N := 3) hx hb hT u_SH hown hK hP 0 rfl rfl 1 (by decide) (hT _ k_197) (fun _ h9 => h9) rfl d_SH_writeUnwound_133 ?_
  refine va_getN (D := D) (ci := 3) (v := .ref aF) (C := R_BS) (T := T_BS) (N := 5) hx hb hT u_BS hown hK hP 1 rfl rfl 2 (by decide) (va_Nw.use rfl (hN ("PipelineBelt$Shaper", 27, "PipelineBelt$Belts", "front", "LPipelineBelt$Belt;", "PipelineBelt") (by decide))) (fun _ h9 => h9) rfl d_SH_writeUnwound_136 ?_
  refine lv_iload_n hx hb d_SH_writeUnwound_139 rfl (lv_at hl 6 rfl) ?_
  refine lv_iconst (v := 1) hx hb d_SH_writeUnwound_140 (by decide) ?_
  refine lv_iadd hx hb d_SH_writeUnwound_141 ?_
  refine rd_V (val := tw_BE_start fbase fcnt fsts (p0 + 1)) (As := [.int (p0 + 1)]) (rest := [.int (tw_ST_endOf b_5 p1), .ref aW]) ⟨hx, hb, hml, hown, hT⟩ (c_BE_start l D cB cI aF aFs fbase fcnt fsts (p0 + 1)) (cwV 1 hT (gV_of k_690 k_440 k_441 k_6 kc_BE_start) rfl rfl rfl hd_BE_start ⟨Nat.le_of_ble_eq_true rfl, Nat.le_of_ble_eq_true rfl⟩) hk (hP.sub (ws' := [(aF, .inr (2, [.int fbase, .ref aFs, .int fcnt])), (aFs, .inl (cI, 201, .inl fsts))]) [5, 6] rfl) (q0 := 0) rfl rfl rfl rfl hl.1 rfl (Nat.le_of_ble_eq_true rfl) d_SH_writeUnwound_142 ⟨Nat.zero_le _, Nat.zero_le _⟩ ?_
  refine mt_Vv (As := [.int (tw_ST_endOf b_5 p1), .int (tw_BE_start fbase fcnt fsts (p0 + 1))]) (rest := []) (wr := [(aH, .inr (6, [.ref aS, .ref aY, .ref aP])), (aY, .inr (3, [.ref aS, .ref aW, .ref aF, .ref aK, .ref aN])), (aF, .inr (2, [.int fbase, .ref aFs, .int fcnt])), (aFs, .inl (cI, 201, .inl fsts)), (aN, .inr (2, [.int nbase, .ref aNs, .int ncnt])), (aNs, .inl (cI, 201, .inl nsts)), (aP, .inr (5, [.ref aS, .ref aV, .ref aPs, .ref aPe, .ref aPi, .ref aPh, .int pcnt, .int (b2i pfix), .int pown, .ref aPl, .ref aPn, .int plc, .int psr, .int pbs, .int (b2i pms)])), (aPs, .inl (cI, 8, .inl pst)), (aPe, .inl (cI, 8, .inl pen)), (aPh, .inl (cI, 8, .inl pho))]) ⟨hx, hb, hml, hown, hT⟩ (c_WR_copy l D cB cI aW aS aB limit_1 full_1 place_1 _ place_5 limit_5 full_5 b_5 (tw_ST_endOf b_5 p1) (tw_BE_start fbase fcnt fsts (p0 + 1)) (Or.inr (le_m1 (hfr _).1)) hi_5) (cwV 2 hT (gV_of k_657 k_451 k_452 k_5 kc_WR_copy) rfl rfl rfl hd_WR_copy ⟨Nat.le_of_ble_eq_true rfl, Nat.le_of_ble_eq_true rfl⟩) hk hP hD hS hA [2, 3, 4] [0, 1, 5, 6, 7, 8, 9, 10, 11, 12] rfl rfl rfl (by decide) (by decide) (by decide) (q0 := 0) rfl rfl rfl rfl hl.1 rfl (Nat.le_of_ble_eq_true rfl) d_SH_writeUnwound_145 ⟨Nat.zero_le _, Nat.zero_le _⟩ (fun u_6 H locs hw_6 hP hD hS => ?_)
  obtain ⟨place_6, limit_6, full_6, b_6⟩ := u_6
  obtain ⟨hw_6, hi_6⟩ := hw_6
  have hP : va_P D vwCl [(aH, .inr (6, [.ref aS, .ref aY, .ref aP])), (aY, .inr (3, [.ref aS, .ref aW, .ref aF, .ref aK, .ref aN])), (aW, .inr (1, [.ref aS, .int place_6, .int limit_6, .int (b2i full_6)])), (aS, .inr (0, [.ref aB])), (aB, .inl (cB, 202000, .inl (by_ b_6))), (aF, .inr (2, [.int fbase, .ref aFs, .int fcnt])), (aFs, .inl (cI, 201, .inl fsts)), (aN, .inr (2, [.int nbase, .ref aNs, .int ncnt])), (aNs, .inl (cI, 201, .inl nsts)), (aP, .inr (5, [.ref aS, .ref aV, .ref aPs, .ref aPe, .ref aPi, .ref aPh, .int pcnt, .int (b2i pfix), .int pown, .ref aPl, .ref aPn, .int plc, .int psr, .int pbs, .int (b2i pms)])), (aPs, .inl (cI, 8, .inl pst)), (aPe, .inl (cI, 8, .inl pen)), (aPh, .inl (cI, 8, .inl pho))] H := hP.sub [0, 1, 10, 11, 12, 2, 3, 4, 5, 6, 7, 8, 9] rfl
  have hD : va_D A [(aH, .inr (6, [.ref aS, .ref aY, .ref aP])), (aY, .inr (3, [.ref aS, .ref aW, .ref aF, .ref aK, .ref aN])), (aW, .inr (1, [.ref aS, .int place_6, .int limit_6, .int (b2i full_6)])), (aS, .inr (0, [.ref aB])), (aB, .inl (cB, 202000, .inl (by_ b_6))), (aF, .inr (2, [.int fbase, .ref aFs, .int fcnt])), (aFs, .inl (cI, 201, .inl fsts)), (aN, .inr (2, [.int nbase, .ref aNs, .int ncnt])), (aNs, .inl (cI, 201, .inl nsts)), (aP, .inr (5, [.ref aS, .ref aV, .ref aPs, .ref aPe, .ref aPi, .ref aPh, .int pcnt, .int (b2i pfix), .int pown, .ref aPl, .ref aPn, .int plc, .int psr, .int pbs, .int (b2i pms)])), (aPs, .inl (cI, 8, .inl pst)), (aPe, .inl (cI, 8, .inl pen)), (aPh, .inl (cI, 8, .inl pho))] := hD.sub [0, 1, 10, 11, 12, 2, 3, 4, 5, 6, 7, 8, 9] (by decide) rfl
  refine lv_iconst (v := 0) hx hb d_SH_writeUnwound_148 (by decide) ?_
  refine lv_istore (lv' := [(9, .int 0), (8, .int ((((tw_ST_endOf b p1) - (tw_ST_placeOf p1)) - (tw_ST_endOf b p2)) + (tw_ST_placeOf p2))), (7, .int (((tw_ST_placeOf p1) - (tw_PA_lengthOfLastName pcnt pst pen)) - 2)), (6, .int place_1), (5, .int (tw_BE_start fbase fcnt fsts p0)), (4, .ref aW), (0, .ref aH), (1, .int p0), (2, .int p1), (3, .int p2)]) hx hb d_SH_writeUnwound_149 hl (by decide) rfl (fun ls hl => ?_)
  exact l_SH_writeUnwound_h151 C0 l D cB cI aH aS aY aP aW aF aK aN aB aFs aNs aV aPs aPe aPi aPh aPl aPn fbase nbase fcnt fsts ncnt nsts pcnt pfix pown plc psr pbs pms pst pen pho hk hA (tw_BE_start fbase fcnt fsts p0) place_1 ((((tw_ST_endOf b p1) - (tw_ST_placeOf p1)) - (tw_ST_endOf b p2)) + (tw_ST_placeOf p2)) limit_1 full_1 place_1 (hi_1.2) ((((8 : Int32).toInt - (0 : Int32).toInt).toNat) + 1) 0 place_6 limit_6 full_6 b_6 (Nat.lt_succ_self _) (hi_6) (by decide) (by rw [tw_SH_writeUnwound, ← hw_1, tp3_mk, ← hw_2, tp4_mk, ← hw_3, tp4_mk, ← hw_4, tp4_mk, ← hw_5, tp4_mk, ← hw_6, tp4_mk]) _ _ hP hD hS ls (lv_sub hl [6, 5, 4, 3, 1, 0] rfl)
abbrev wd_SH_unwindRow (aH aS aY aP aW aF aK aN aB aFs aNs aV aPs aPe aPi aPh aPl aPn : Nat) (cB cI : ClassId) (fbase : Int32) (nbase : Int32) (fcnt : Int32) (fsts : Nat → Int32) (pcnt : Int32) (pfix : Bool) (pown : Int32) (plc : Int32) (psr : Int32) (pbs : Int32) (pms : Bool) (pst : Nat → Int32) (pen : Nat → Int32) (pho : Nat → Int32) (place : Int32) (limit : Int32) (full : Bool) (b : Nat → UInt8) (ncnt : Int32) (nsts : Nat → Int32) : va_W := [(aH, .inr (6, [.ref aS, .ref aY, .ref aP])), (aY, .inr (3, [.ref aS, .ref aW, .ref aF, .ref aK, .ref aN])), (aW, .inr (1, [.ref aS, .int place, .int limit, .int (b2i full)])), (aS, .inr (0, [.ref aB])), (aB, .inl (cB, 202000, .inl (by_ b))), (aF, .inr (2, [.int fbase, .ref aFs, .int fcnt])), (aFs, .inl (cI, 201, .inl fsts)), (aN, .inr (2, [.int nbase, .ref aNs, .int ncnt])), (aNs, .inl (cI, 201, .inl nsts)), (aP, .inr (5, [.ref aS, .ref aV, .ref aPs, .ref aPe, .ref aPi, .ref aPh, .int pcnt, .int (b2i pfix), .int pown, .ref aPl, .ref aPn, .int plc, .int psr, .int pbs, .int (b2i pms)])), (aPs, .inl (cI, 8, .inl pst)), (aPe, .inl (cI, 8, .inl pen)), (aPh, .inl (cI, 8, .inl pho))]
set_option maxHeartbeats 4000000 in
set_option maxRecDepth 100000 in
theorem l_SH_unwindRow_h22 {p : Program} {e : Env} {s : State} {m : MethodId} {args : Array Value} {below : List Frame} {meth : Method} {c : Code} {V : Bool × Int32 × Int32 × Bool × (Nat → UInt8) × Int32 × (Nat → Int32)} (C0 : lc_C p s m meth c args b_SH_unwindRow 7 (some .boolean) R_SH lw_g) (l : Launch) (D : va_G) (cB cI : ClassId) (aH aS aY aP aW aF aK aN aB aFs aNs aV aPs aPe aPi aPh aPl aPn : Nat) (fbase : Int32) (nbase : Int32) (fcnt : Int32) (fsts : Nat → Int32) (pcnt : Int32) (pfix : Bool) (pown : Int32) (plc : Int32) (psr : Int32) (pbs : Int32) (pms : Bool) (pst : Nat → Int32) (pen : Nat → Int32) (pho : Nat → Int32) {A : Nat → Prop} (hk : hk_ D cB cI s) (hA : ∀ q : Nat, s.heap.size ≤ q → A q) (p0 : Int32) (p1 : Int32) (x3 : Int32) (hfr : ∀ j : Int32, 0 ≤ (tw_BE_start fbase fcnt fsts j).toInt ∧ (tw_BE_start fbase fcnt fsts j).toInt ≤ 202000) : ∀ (n : Nat) (x4 : Int32) (x5 : Int32) (place : Int32) (limit : Int32) (full : Bool) (b : Nat → UInt8) (ncnt : Int32) (nsts : Nat → Int32), ((1000 : Int32).toInt - x5.toInt).toNat < n → be_ok nbase ncnt nsts → V = tw_SH_unwindRow_h22 fbase nbase fcnt fsts pcnt pst pen pho p0 p1 x3 n x4 x5 place limit full b ncnt nsts → ∀ (H : Heap) (locs : List Loc), va_P D vwCl [(aH, .inr (6, [.ref aS, .ref aY, .ref aP])), (aY, .inr (3, [.ref aS, .ref aW, .ref aF, .ref aK, .ref aN])), (aW, .inr (1, [.ref aS, .int place, .int limit, .int (b2i full)])), (aS, .inr (0, [.ref aB])), (aB, .inl (cB, 202000, .inl (by_ b))), (aF, .inr (2, [.int fbase, .ref aFs, .int fcnt])), (aFs, .inl (cI, 201, .inl fsts)), (aN, .inr (2, [.int nbase, .ref aNs, .int ncnt])), (aNs, .inl (cI, 201, .inl nsts)), (aP, .inr (5, [.ref aS, .ref aV, .ref aPs, .ref aPe, .ref aPi, .ref aPh, .int pcnt, .int (b2i pfix), .int pown, .ref aPl, .ref aPn, .int plc, .int psr, .int pbs, .int (b2i pms)])), (aPs, .inl (cI, 8, .inl pst)), (aPe, .inl (cI, 8, .inl pen)), (aPh, .inl (cI, 8, .inl pho))] H → va_D A [(aH, .inr (6, [.ref aS, .ref aY, .ref aP])), (aY, .inr (3, [.ref aS, .ref aW, .ref aF, .ref aK, .ref aN])), (aW, .inr (1, [.ref aS, .int place, .int limit, .int (b2i full)])), (aS, .inr (0, [.ref aB])), (aB, .inl (cB, 202000, .inl (by_ b))), (aF, .inr (2, [.int fbase, .ref aFs, .int fcnt])), (aFs, .inl (cI, 201, .inl fsts)), (aN, .inr (2, [.int nbase, .ref aNs, .int ncnt])), (aNs, .inl (cI, 201, .inl nsts)), (aP, .inr (5, [.ref aS, .ref aV, .ref aPs, .ref aPe, .ref aPi, .ref aPh, .int pcnt, .int (b2i pfix), .int pown, .ref aPl, .ref aPn, .int plc, .int psr, .int pbs, .int (b2i pms)])), (aPs, .inl (cI, 8, .inl pst)), (aPe, .inl (cI, 8, .inl pen)), (aPh, .inl (cI, 8, .inl pho))] → va_S A s.heap H locs → ∀ ls : Array Slot, lv_has ls 7 [(0, .ref aH), (1, .int p0), (2, .int p1), (3, .int x3), (4, .int x4), (5, .int x5)] → W p l e ({ frames := 87, cells := 0, slots := 0, locals := 2088 }) s m args below meth c H locs 0 0 (MQ below (va_Qi (fun (r : Int32) (u : Int32 × Int32 × Bool × (Nat → UInt8) × Int32 × (Nat → Int32)) => ∃ z9 : Bool, r = b2i z9 ∧ (z9, u) = V ∧ be_ok nbase u.2.2.2.2.1 u.2.2.2.2.2) (mt_B D A (fun u => wd_SH_unwindRow aH aS aY aP aW aF aK aN aB aFs aNs aV aPs aPe aPi aPh aPl aPn cB cI fbase nbase fcnt fsts pcnt pfix pown plc psr pbs pms pst pen pho u.1 u.2.1 u.2.2.1 u.2.2.2.1 u.2.2.2.2.1 u.2.2.2.2.2)) A) args s 0 0 A) (F0 m 22 ls []) := by
  obtain ⟨hx, hb, hml, hr, hown, hlocks, hT⟩ := id C0
  have hK := hk.1
  have hN := hk.2.1
  intro n
  induction n with
  | zero =>
    intro x4 x5 place limit full b ncnt nsts hm
    exact absurd hm (Nat.not_lt_zero _)
  | succ n ih =>
    intro x4 x5 place limit full b ncnt nsts hm hi hV H locs hP hD hS ls hl
    refine lv_iload hx hb d_SH_unwindRow_22 (lv_at hl 5 rfl) ?_
    refine lv_sipush (v := 1000) hx hb d_SH_unwindRow_24 (by decide) ?_
    refine lv_icmp_ge (tgt := 84) hx hb d_SH_unwindRow_27 (by decide) (fun c_1 => ?_) (fun c_1 => ?_)
    · refine lv_iconst (v := 1) hx hb d_SH_unwindRow_84 (by decide) ?_
      exact W.zret (v := 1) (ty := .boolean) hx hb hr (rfl) (fun t ht hW => ⟨⟨1, (place, limit, full, b, ncnt, nsts), rfl, ⟨true, rfl, (by rw [hV, tw_SH_unwindRow_h22, if_pos c_1]; first | done | rfl), hi⟩, by rw [ht]; exact hP, hD⟩, hS.F ht⟩) hS.2.2 d_SH_unwindRow_85
    · refine lv_iload hx hb d_SH_unwindRow_30 (lv_at hl 4 rfl) ?_
      refine lv_iload_n hx hb d_SH_unwindRow_32 rfl (lv_at hl 3 rfl) ?_
      refine lv_icmp_ge (tgt := 84) hx hb d_SH_unwindRow_33 (by decide) (fun c_2 => ?_) (fun c_2 => ?_)
      · refine lv_iconst (v := 1) hx hb d_SH_unwindRow_84 (by decide) ?_
        exact W.zret (v := 1) (ty := .boolean) hx hb hr (rfl) (fun t ht hW => ⟨⟨1, (place, limit, full, b, ncnt, nsts), rfl, ⟨true, rfl, (by rw [hV, tw_SH_unwindRow_h22, if_neg c_1, if_pos c_2]; first | done | rfl), hi⟩, by rw [ht]; exact hP, hD⟩, hS.F ht⟩) hS.2.2 d_SH_unwindRow_85
      · refine lv_aload_n hx hb d_SH_unwindRow_36 rfl (lv_at hl 0 rfl) ?_
        refine va_get (D := D) (ci := 6) (v := .ref aS) (C := R_SH) (T := T_SH) (N := 3) hx hb hT u_SH hown hK hP 0 rfl rfl 0 (by decide) (hT _ k_196) (fun _ h9 => h9) rfl d_SH_unwindRow_37 ?_
        refine lv_iload hx hb d_SH_unwindRow_40 (lv_at hl 4 rfl) ?_
        refine rd_V (val := tw_ST_valueOf b x4) (As := [.int x4]) (rest := []) ⟨hx, hb, hml, hown, hT⟩ (c_ST_valueOf l D cB cI aS aB b x4) (cwV 1 hT (gV_of k_560 k_399 k_400 k_2 kc_ST_valueOf) rfl rfl rfl hd_ST_valueOf ⟨Nat.le_of_ble_eq_true rfl, Nat.le_of_ble_eq_true rfl⟩) hk (hP.sub (ws' := [(aS, .inr (0, [.ref aB])), (aB, .inl (cB, 202000, .inl (by_ b)))]) [3, 4] rfl) (q0 := 0) rfl rfl rfl rfl hl.1 rfl (Nat.le_of_ble_eq_true rfl) d_SH_unwindRow_42 ⟨Nat.zero_le _, Nat.zero_le _⟩ ?_
        refine lv_istore (lv' := [(6, .int (tw_ST_valueOf b x4)), (0, .ref aH), (1, .int p0), (2, .int p1), (3, .int x3), (4, .int x4), (5, .int x5)]) hx hb d_SH_unwindRow_45 hl (by decide) rfl (fun ls hl => ?_)
        refine lv_aload_n hx hb d_SH_unwindRow_47 rfl (lv_at hl 1 rfl) ?_
        refine lv_iload_n hx hb d_SH_unwindRow_48 rfl (lv_at hl 2 rfl) ?_
        refine lv_iload_n hx hb d_SH_unwindRow_49 rfl (lv_at hl 3 rfl) ?_
        refine lv_iload hx hb d_SH_unwindRow_50 (lv_at hl 0 rfl) ?_
        refine mt_Vv (As := [.int p0, .int p1, .int (tw_ST_valueOf b x4)]) (rest := []) (wr := []) ⟨hx, hb, hml, hown, hT⟩ (c_SH_writeUnwound l D cB cI aH aS aY aP aW aF aK aN aB aFs aNs aV aPs aPe aPi aPh aPl aPn fbase nbase fcnt fsts ncnt nsts pcnt pfix pown plc psr pbs pms pst pen pho _ place limit full b p0 p1 (tw_ST_valueOf b x4) (hi) (hfr)) (cwV 3 hT (gV_of k_686 k_688 kp_SH_writeUnwound k_8 kc_SH_writeUnwound) rfl rfl rfl hd_SH_writeUnwound ⟨Nat.le_of_ble_eq_true rfl, Nat.le_of_ble_eq_true rfl⟩) hk hP hD hS hA [0, 1, 2, 3, 4, 5, 6, 7, 8, 9, 10, 11, 12] [] rfl rfl rfl (by decide) (by decide) (by decide) (q0 := 0) rfl rfl rfl rfl hl.1 rfl (Nat.le_of_ble_eq_true rfl) d_SH_unwindRow_52 ⟨Nat.zero_le _, Nat.zero_le _⟩ (fun u_3 H locs hw_3 hP hD hS => ?_)
        obtain ⟨place_3, limit_3, full_3, b_3⟩ := u_3
        obtain ⟨hw_3, hi_3⟩ := hw_3
        have hP : va_P D vwCl [(aH, .inr (6, [.ref aS, .ref aY, .ref aP])), (aY, .inr (3, [.ref aS, .ref aW, .ref aF, .ref aK, .ref aN])), (aW, .inr (1, [.ref aS, .int place_3, .int limit_3, .int (b2i full_3)])), (aS, .inr (0, [.ref aB])), (aB, .inl (cB, 202000, .inl (by_ b_3))), (aF, .inr (2, [.int fbase, .ref aFs, .int fcnt])), (aFs, .inl (cI, 201, .inl fsts)), (aN, .inr (2, [.int nbase, .ref aNs, .int ncnt])), (aNs, .inl (cI, 201, .inl nsts)), (aP, .inr (5, [.ref aS, .ref aV, .ref aPs, .ref aPe, .ref aPi, .ref aPh, .int pcnt, .int (b2i pfix), .int pown, .ref aPl, .ref aPn, .int plc, .int psr, .int pbs, .int (b2i pms)])), (aPs, .inl (cI, 8, .inl pst)), (aPe, .inl (cI, 8, .inl pen)), (aPh, .inl (cI, 8, .inl pho))] H := hP.sub [0, 1, 2, 3, 4, 5, 6, 7, 8, 9, 10, 11, 12] rfl
        have hD : va_D A [(aH, .inr (6, [.ref aS, .ref aY, .ref aP])), (aY, .inr (3, [.ref aS, .ref aW, .ref aF, .ref aK, .ref aN])), (aW, .inr (1, [.ref aS, .int place_3, .int limit_3, .int (b2i full_3)])), (aS, .inr (0, [.ref aB])), (aB, .inl (cB, 202000, .inl (by_ b_3))), (aF, .inr (2, [.int fbase, .ref aFs, .int fcnt])), (aFs, .inl (cI, 201, .inl fsts)), (aN, .inr (2, [.int nbase, .ref aNs, .int ncnt])), (aNs, .inl (cI, 201, .inl nsts)), (aP, .inr (5, [.ref aS, .ref aV, .ref aPs, .ref aPe, .ref aPi, .ref aPh, .int pcnt, .int (b2i pfix), .int pown, .ref aPl, .ref aPn, .int plc, .int psr, .int pbs, .int (b2i pms)])), (aPs, .inl (cI, 8, .inl pst)), (aPe, .inl (cI, 8, .inl pen)), (aPh, .inl (cI, 8, .inl pho))] := hD.sub [0, 1, 2, 3, 4, 5, 6, 7, 8, 9, 10, 11, 12] (by decide) rfl
        refine lv_aload_n hx hb d_SH_unwindRow_55 rfl (lv_at hl 1 rfl) ?_
        refine va_get (D := D) (ci := 6) (v := .ref aY) (C := R_SH) (T := T_SH) (N := 3) hx hb hT u_SH hown hK hP 0 rfl rfl 1 (by decide) (hT _ k_197) (fun _ h9 => h9) rfl d_SH_unwindRow_56 ?_
        refine mt_Vi (As := []) (rest := []) (wr := [(aH, .inr (6, [.ref aS, .ref aY, .ref aP])), (aF, .inr (2, [.int fbase, .ref aFs, .int fcnt])), (aFs, .inl (cI, 201, .inl fsts)), (aP, .inr (5, [.ref aS, .ref aV, .ref aPs, .ref aPe, .ref aPi, .ref aPh, .int pcnt, .int (b2i pfix), .int pown, .ref aPl, .ref aPn, .int plc, .int psr, .int pbs, .int (b2i pms)])), (aPs, .inl (cI, 8, .inl pst)), (aPe, .inl (cI, 8, .inl pen)), (aPh, .inl (cI, 8, .inl pho))]) ⟨hx, hb, hml, hown, hT⟩ (c_BS_accept l D cB cI aY aS aW aF aK aN aB aNs nbase place_3 limit_3 full_3 b_3 _ ncnt nsts (hi_3) hi) (cwV 0 hT (gV_of k_659 k_660 k_661 k_4 kc_BS_accept) rfl rfl rfl hd_BS_accept ⟨Nat.le_of_ble_eq_true rfl, Nat.le_of_ble_eq_true rfl⟩) hk hP hD hS hA [1, 2, 3, 4, 7, 8] [0, 5, 6, 9, 10, 11, 12] rfl rfl rfl (by decide) (by decide) (by decide) (q0 := 0) rfl rfl rfl rfl hl.1 rfl (Nat.le_of_ble_eq_true rfl) d_SH_unwindRow_59 ⟨Nat.zero_le _, Nat.zero_le _⟩ (fun r_4 u_4 H locs hw_4 hP hD hS => ?_)
        obtain ⟨ncnt_4, nsts_4⟩ := u_4
        obtain ⟨r_4, rfl, hw_4⟩ := hw_4
        obtain ⟨hw_4, hi_4⟩ := hw_4
        have hP : va_P D vwCl [(aH, .inr (6, [.ref aS, .ref aY, .ref aP])), (aY, .inr (3, [.ref aS, .ref aW, .ref aF, .ref aK, .ref aN])), (aW, .inr (1, [.ref aS, .int place_3, .int limit_3, .int (b2i full_3)])), (aS, .inr (0, [.ref aB])), (aB, .inl (cB, 202000, .inl (by_ b_3))), (aF, .inr (2, [.int fbase, .ref aFs, .int fcnt])), (aFs, .inl (cI, 201, .inl fsts)), (aN, .inr (2, [.int nbase, .ref aNs, .int ncnt_4])), (aNs, .inl (cI, 201, .inl nsts_4)), (aP, .inr (5, [.ref aS, .ref aV, .ref aPs, .ref aPe, .ref aPi, .ref aPh, .int pcnt, .int (b2i pfix), .int pown, .ref aPl, .ref aPn, .int plc, .int psr, .int pbs, .int (b2i pms)])), (aPs, .inl (cI, 8, .inl pst)), (aPe, .inl (cI, 8, .inl pen)), (aPh, .inl (cI, 8, .inl pho))] H := hP.sub [0, 7, 8, 9, 10, 1, 2, 11, 12, 3, 4, 5, 6] rfl
        have hD : va_D A [(aH, .inr (6, [.ref aS, .ref aY, .ref aP])), (aY, .inr (3, [.ref aS, .ref aW, .ref aF, .ref aK, .ref aN])), (aW, .inr (1, [.ref aS, .int place_3, .int limit_3, .int (b2i full_3)])), (aS, .inr (0, [.ref aB])), (aB, .inl (cB, 202000, .inl (by_ b_3))), (aF, .inr (2, [.int fbase, .ref aFs, .int fcnt])), (aFs, .inl (cI, 201, .inl fsts)), (aN, .inr (2, [.int nbase, .ref aNs, .int ncnt_4])), (aNs, .inl (cI, 201, .inl nsts_4)), (aP, .inr (5, [.ref aS, .ref aV, .ref aPs, .ref aPe, .ref aPi, .ref aPh, .int pcnt, .int (b2i pfix), .int pown, .ref aPl, .ref aPn, .int plc, .int psr, .int pbs, .int (b2i pms)])), (aPs, .inl (cI, 8, .inl pst)), (aPe, .inl (cI, 8, .inl pen)), (aPh, .inl (cI, 8, .inl pho))] := hD.sub [0, 7, 8, 9, 10, 1, 2, 11, 12, 3, 4, 5, 6] (by decide) rfl
        refine lv_if_ne (tgt := 67) hx hb d_SH_unwindRow_62 (by decide) (fun c_5 => ?_) (fun c_5 => ?_)
        · refine lv_aload_n hx hb d_SH_unwindRow_67 rfl (lv_at hl 1 rfl) ?_
          refine va_get (D := D) (ci := 6) (v := .ref aS) (C := R_SH) (T := T_SH) (N := 3) hx hb hT u_SH hown hK hP 0 rfl rfl 0 (by decide) (hT _ k_196) (fun _ h9 => h9) rfl d_SH_unwindRow_68 ?_
          refine lv_iload hx hb d_SH_unwindRow_71 (lv_at hl 0 rfl) ?_
          refine rd_V (val := tw_ST_endOf b_3 (tw_ST_valueOf b x4)) (As := [.int (tw_ST_valueOf b x4)]) (rest := []) ⟨hx, hb, hml, hown, hT⟩ (c_ST_endOf l D cB cI aS aB b_3 (tw_ST_valueOf b x4)) (cwV 1 hT (gV_of k_558 k_416 k_417 k_2 kc_ST_endOf) rfl rfl rfl hd_ST_endOf ⟨Nat.le_of_ble_eq_true rfl, Nat.le_of_ble_eq_true rfl⟩) hk (hP.sub (ws' := [(aS, .inr (0, [.ref aB])), (aB, .inl (cB, 202000, .inl (by_ b_3)))]) [3, 4] rfl) (q0 := 0) rfl rfl rfl rfl hl.1 rfl (Nat.le_of_ble_eq_true rfl) d_SH_unwindRow_73 ⟨Nat.zero_le _, Nat.zero_le _⟩ ?_
          refine lv_istore (lv' := [(4, .int (tw_ST_endOf b_3 (tw_ST_valueOf b x4))), (6, .int (tw_ST_valueOf b x4)), (0, .ref aH), (1, .int p0), (2, .int p1), (3, .int x3), (5, .int x5)]) hx hb d_SH_unwindRow_76 hl (by decide) rfl (fun ls hl => ?_)
          refine lv_iinc (v := x5 + 1) (lv' := [(5, .int (x5 + 1)), (4, .int (tw_ST_endOf b_3 (tw_ST_valueOf b x4))), (6, .int (tw_ST_valueOf b x4)), (0, .ref aH), (1, .int p0), (2, .int p1), (3, .int x3)]) hx hb d_SH_unwindRow_78 hl (k := 6) rfl rfl (by decide) rfl (fun ls hl => ?_)
          refine lv_goto (tgt := 22) hx hb d_SH_unwindRow_81 (by decide) ?_
          exact ih (tw_ST_endOf b_3 (tw_ST_valueOf b x4)) (x5 + 1) place_3 limit_3 full_3 b_3 ncnt_4 nsts_4 (lp_up hm c_1) (hi_4) (by rw [hV, tw_SH_unwindRow_h22, if_neg c_1, if_neg c_2, ← hw_3, tp4_mk, ← hw_4, tp3_mk, if_neg c_5]) _ _ hP hD hS ls (lv_sub hl [3, 4, 5, 6, 1, 0] rfl)
        · refine lv_iconst (v := 0) hx hb d_SH_unwindRow_65 (by decide) ?_
          exact W.zret (v := 0) (ty := .boolean) hx hb hr (rfl) (fun t ht hW => ⟨⟨0, (place_3, limit_3, full_3, b_3, ncnt_4, nsts_4), rfl, ⟨false, rfl, (by rw [hV, tw_SH_unwindRow_h22, if_neg c_1, if_neg c_2, ← hw_3, tp4_mk, ← hw_4, tp3_mk, if_pos c_5]; first | done | rfl), hi_4⟩, by rw [ht]; exact hP, hD⟩, hS.F ht⟩) hS.2.2 d_SH_unwindRow_66
set_option maxHeartbeats 4000000 in
set_option maxRecDepth 100000 in
theorem c_SH_unwindRow (l : Launch) (D : va_G) (cB cI : ClassId) (aH aS aY aP aW aF aK aN aB aFs aNs aV aPs aPe aPi aPh aPl aPn : Nat) (fbase : Int32) (nbase : Int32) (fcnt : Int32) (fsts : Nat → Int32) (pcnt : Int32) (pfix : Bool) (pown : Int32) (plc : Int32) (psr : Int32) (pbs : Int32) (pms : Bool) (pst : Nat → Int32) (pen : Nat → Int32) (pho : Nat → Int32) (sz : Nat) (place : Int32) (limit : Int32) (full : Bool) (b : Nat → UInt8) (ncnt : Int32) (nsts : Nat → Int32) (p0 : Int32) (p1 : Int32) (hfr : ∀ j : Int32, 0 ≤ (tw_BE_start fbase fcnt fsts j).toInt ∧ (tw_BE_start fbase fcnt fsts j).toInt ≤ 202000) (hi : be_ok nbase ncnt nsts) : Met l y_SH_unwindRow mw_SH_unwindRow { frames := 87, cells := 0, slots := 0, locals := 2088 } (va_Pc [.ref aH, .int p0, .int p1] (mt_P D cB cI (wd_SH_unwindRow aH aS aY aP aW aF aK aN aB aFs aNs aV aPs aPe aPi aPh aPl aPn cB cI fbase nbase fcnt fsts pcnt pfix pown plc psr pbs pms pst pen pho place limit full b ncnt nsts) sz)) (va_Qi (fun (r : Int32) (u : Int32 × Int32 × Bool × (Nat → UInt8) × Int32 × (Nat → Int32)) => ∃ z9 : Bool, r = b2i z9 ∧ (z9, u) = tw_SH_unwindRow fbase nbase fcnt fsts pcnt pst pen pho place limit full b ncnt nsts p0 p1 ∧ be_ok nbase u.2.2.2.2.1 u.2.2.2.2.2) (mt_B D (va_A (wd_SH_unwindRow aH aS aY aP aW aF aK aN aB aFs aNs aV aPs aPe aPi aPh aPl aPn cB cI fbase nbase fcnt fsts pcnt pfix pown plc psr pbs pms pst pen pho place limit full b ncnt nsts) sz) (fun u => wd_SH_unwindRow aH aS aY aP aW aF aK aN aB aFs aNs aV aPs aPe aPi aPh aPl aPn cB cI fbase nbase fcnt fsts pcnt pfix pown plc psr pbs pms pst pen pho u.1 u.2.1 u.2.2.1 u.2.2.2.1 u.2.2.2.2.1 u.2.2.2.2.2)) (va_A (wd_SH_unwindRow aH aS aY aP aW aF aK aN aB aFs aNs aV aPs aPe aPi aPh aPl aPn cB cI fbase nbase fcnt fsts pcnt pfix pown plc psr pbs pms pst pen pho place limit full b ncnt nsts) sz)) 0 0 (va_A (wd_SH_unwindRow aH aS aY aP aW aF aK aN aB aFs aNs aV aPs aPe aPi aPh aPl aPn cB cI fbase nbase fcnt fsts pcnt pfix pown plc psr pbs pms pst pen pho place limit full b ncnt nsts) sz) := by
  refine Met.ofW (cc := b_SH_unwindRow) (maxL := 7) (ret := (some .boolean)) (by decide) rfl ?_
  intro p e s m args below meth c s₁ B0 hml hv
  obtain ⟨rfl, hsz, hP, hk, hD0⟩ := hv
  have hK := hk.1
  have hN := hk.2.1
  have hx := B0.exec
  have hb := B0.bytes
  have hr := B0.returns
  have hT : ∀ w ∈ lw_g, w.before _ s = true := fun w h => atoms_spec (ws := mw_SH_unwindRow) B0.pre w (List.mem_cons_of_mem _ h)
  have hown : s.vm.findClass R_SH = some m.cls := findClass_of_methodNamed B0.named
  have hlocks := B0.notSynchronized
  subst hsz
  have hD := hD0.self (sz := s.heap.size)
  generalize hAe : va_A [(aH, .inr (6, [.ref aS, .ref aY, .ref aP])), (aY, .inr (3, [.ref aS, .ref aW, .ref aF, .ref aK, .ref aN])), (aW, .inr (1, [.ref aS, .int place, .int limit, .int (b2i full)])), (aS, .inr (0, [.ref aB])), (aB, .inl (cB, 202000, .inl (by_ b))), (aF, .inr (2, [.int fbase, .ref aFs, .int fcnt])), (aFs, .inl (cI, 201, .inl fsts)), (aN, .inr (2, [.int nbase, .ref aNs, .int ncnt])), (aNs, .inl (cI, 201, .inl nsts)), (aP, .inr (5, [.ref aS, .ref aV, .ref aPs, .ref aPe, .ref aPi, .ref aPh, .int pcnt, .int (b2i pfix), .int pown, .ref aPl, .ref aPn, .int plc, .int psr, .int pbs, .int (b2i pms)])), (aPs, .inl (cI, 8, .inl pst)), (aPe, .inl (cI, 8, .inl pen)), (aPh, .inl (cI, 8, .inl pho))] s.heap.size = A at hD ⊢
  have hA : ∀ q : Nat, s.heap.size ≤ q → A q := fun q h => by rw [← hAe]; exact Or.inr h
  have hS : va_S A s.heap s.heap [] := va_S.rf
  have hl := lv_entry ([.ref aH, .int p0, .int p1]) (n := 7) (Nat.le_of_ble_eq_true rfl)
  rw [lg_entry_eq]
  generalize (lg_sl ([.ref aH, .int p0, .int p1]) ++ List.replicate (7 - (lg_sl ([.ref aH, .int p0, .int p1])).length) Slot.unset).toArray = ls at hl ⊢
  have hl : lv_has ls 7 [(0, .ref aH), (1, .int p0), (2, .int p1)] := hl
  have C0 : lc_C p s m meth c _ b_SH_unwindRow 7 (some .boolean) R_SH lw_g := ⟨hx, hb, hml, hr, hown, hlocks, hT⟩
  refine lv_aload_n hx hb d_SH_unwindRow_0 rfl (lv_at hl 0 rfl) ?_
  refine va_get (D := D) (ci := 6) (v := .ref aS) (C := R_SH) (T := T_SH) (N := 3) hx hb hT u_SH hown hK hP 0 rfl rfl 0 (by decide) (hT _ k_196) (fun _ h9 => h9) rfl d_SH_unwindRow_1 ?_
  refine lv_iload_n hx hb d_SH_unwindRow_4 rfl (lv_at hl 2 rfl) ?_
  refine rd_V (val := tw_ST_endOf b p1) (As := [.int p1]) (rest := []) ⟨hx, hb, hml, hown, hT⟩ (c_ST_endOf l D cB cI aS aB b p1) (cwV 1 hT (gV_of k_558 k_416 k_417 k_2 kc_ST_endOf) rfl rfl rfl hd_ST_endOf ⟨Nat.le_of_ble_eq_true rfl, Nat.le_of_ble_eq_true rfl⟩) hk (hP.sub (ws' := [(aS, .inr (0, [.ref aB])), (aB, .inl (cB, 202000, .inl (by_ b)))]) [3, 4] rfl) (q0 := 0) rfl rfl rfl rfl hl.1 rfl (Nat.le_of_ble_eq_true rfl) d_SH_unwindRow_5 ⟨Nat.zero_le _, Nat.zero_le _⟩ ?_
  refine lv_iconst (v := 1) hx hb d_SH_unwindRow_8 (by decide) ?_
  refine lv_isub hx hb d_SH_unwindRow_9 ?_
  refine lv_istore_n (lv' := [(3, .int ((tw_ST_endOf b p1) - 1)), (0, .ref aH), (1, .int p0), (2, .int p1)]) hx hb d_SH_unwindRow_10 rfl hl (by decide) rfl (fun ls hl => ?_)
  refine lv_iload_n hx hb d_SH_unwindRow_11 rfl (lv_at hl 3 rfl) ?_
  refine rd_S (val := tw_ST_placeOf p1) (As := [.int p1]) (rest := []) ⟨hx, hb, hml, hown, hT⟩ (c_ST_placeOf l D cB cI p1) (va_cwS 1 hT (gS_of k_559 k_403 k_2 kc_ST_placeOf) rfl rfl rfl hd_ST_placeOf ⟨Nat.le_of_ble_eq_true rfl, Nat.le_of_ble_eq_true rfl⟩) hk (va_P_nil) rfl hl.1 rfl (Nat.le_of_ble_eq_true rfl) d_SH_unwindRow_12 ⟨Nat.zero_le _, Nat.zero_le _⟩ ?_
  refine lv_iconst (v := 4) hx hb d_SH_unwindRow_15 (by decide) ?_
  refine lv_iadd hx hb d_SH_unwindRow_16 ?_
  refine lv_istore (lv' := [(4, .int ((tw_ST_placeOf p1) + 4)), (3, .int ((tw_ST_endOf b p1) - 1)), (0, .ref aH), (1, .int p0), (2, .int p1)]) hx hb d_SH_unwindRow_17 hl (by decide) rfl (fun ls hl => ?_)
  refine lv_iconst (v := 0) hx hb d_SH_unwindRow_19 (by decide) ?_
  refine lv_istore (lv' := [(5, .int 0), (4, .int ((tw_ST_placeOf p1) + 4)), (3, .int ((tw_ST_endOf b p1) - 1)), (0, .ref aH), (1, .int p0), (2, .int p1)]) hx hb d_SH_unwindRow_20 hl (by decide) rfl (fun ls hl => ?_)
  exact l_SH_unwindRow_h22 C0 l D cB cI aH aS aY aP aW aF aK aN aB aFs aNs aV aPs aPe aPi aPh aPl aPn fbase nbase fcnt fsts pcnt pfix pown plc psr pbs pms pst pen pho hk hA p0 p1 ((tw_ST_endOf b p1) - 1) hfr ((((1000 : Int32).toInt - (0 : Int32).toInt).toNat) + 1) ((tw_ST_placeOf p1) + 4) 0 place limit full b ncnt nsts (Nat.lt_succ_self _) (hi) (by rw [tw_SH_unwindRow]) _ _ hP hD hS ls (lv_sub hl [3, 4, 5, 2, 1, 0] rfl)
abbrev wd_SH_unwind (aH aS aY aP aW aF aK aN aB aFs aNs aV aPs aPe aPi aPh aPl aPn : Nat) (cB cI : ClassId) (fbase : Int32) (nbase : Int32) (fcnt : Int32) (fsts : Nat → Int32) (pown : Int32) (plc : Int32) (psr : Int32) (pbs : Int32) (pms : Bool) (place : Int32) (limit : Int32) (full : Bool) (b : Nat → UInt8) (ncnt : Int32) (nsts : Nat → Int32) (pcnt : Int32) (pfix : Bool) (pst : Nat → Int32) (pen : Nat → Int32) (pix : Nat → Int32) (pho : Nat → Int32) : va_W := [(aH, .inr (6, [.ref aS, .ref aY, .ref aP])), (aY, .inr (3, [.ref aS, .ref aW, .ref aF, .ref aK, .ref aN])), (aW, .inr (1, [.ref aS, .int place, .int limit, .int (b2i full)])), (aS, .inr (0, [.ref aB])), (aB, .inl (cB, 202000, .inl (by_ b))), (aF, .inr (2, [.int fbase, .ref aFs, .int fcnt])), (aFs, .inl (cI, 201, .inl fsts)), (aN, .inr (2, [.int nbase, .ref aNs, .int ncnt])), (aNs, .inl (cI, 201, .inl nsts)), (aP, .inr (5, [.ref aS, .ref aV, .ref aPs, .ref aPe, .ref aPi, .ref aPh, .int pcnt, .int (b2i pfix), .int pown, .ref aPl, .ref aPn, .int plc, .int psr, .int pbs, .int (b2i pms)])), (aPs, .inl (cI, 8, .inl pst)), (aPe, .inl (cI, 8, .inl pen)), (aPi, .inl (cI, 8, .inl pix)), (aPh, .inl (cI, 8, .inl pho))]
set_option maxHeartbeats 4000000 in
set_option maxRecDepth 100000 in
theorem l_SH_unwind_h28 {p : Program} {e : Env} {s : State} {m : MethodId} {args : Array Value} {below : List Frame} {meth : Method} {c : Code} {V : Int32 × Int32 × Int32 × Bool × (Nat → UInt8) × Int32 × (Nat → Int32) × Int32 × Bool × (Nat → Int32) × (Nat → Int32) × (Nat → Int32) × (Nat → Int32)} (C0 : lc_C p s m meth c args b_SH_unwind 6 (some .int) R_SH lw_g) (l : Launch) (D : va_G) (cB cI : ClassId) (aH aS aY aP aW aF aK aN aB aFs aNs aV aPs aPe aPi aPh aPl aPn : Nat) (fbase : Int32) (nbase : Int32) (fcnt : Int32) (fsts : Nat → Int32) (pown : Int32) (plc : Int32) (psr : Int32) (pbs : Int32) (pms : Bool) {A : Nat → Prop} (hk : hk_ D cB cI s) (hA : ∀ q : Nat, s.heap.size ≤ q → A q)  (hfr : ∀ j : Int32, 0 ≤ (tw_BE_start fbase fcnt fsts j).toInt ∧ (tw_BE_start fbase fcnt fsts j).toInt ≤ 202000) : ∀ (n : Nat) (x2 : Int32) (place : Int32) (limit : Int32) (full : Bool) (b : Nat → UInt8) (ncnt : Int32) (nsts : Nat → Int32) (pcnt : Int32) (pfix : Bool) (pst : Nat → Int32) (pen : Nat → Int32) (pix : Nat → Int32) (pho : Nat → Int32), (fcnt.toInt - x2.toInt).toNat < n → be_ok nbase ncnt nsts → V = tw_SH_unwind_h28 fbase nbase fcnt fsts n x2 place limit full b ncnt nsts pcnt pfix pst pen pix pho → ∀ (H : Heap) (locs : List Loc), va_P D vwCl [(aH, .inr (6, [.ref aS, .ref aY, .ref aP])), (aY, .inr (3, [.ref aS, .ref aW, .ref aF, .ref aK, .ref aN])), (aW, .inr (1, [.ref aS, .int place, .int limit, .int (b2i full)])), (aS, .inr (0, [.ref aB])), (aB, .inl (cB, 202000, .inl (by_ b))), (aF, .inr (2, [.int fbase, .ref aFs, .int fcnt])), (aFs, .inl (cI, 201, .inl fsts)), (aN, .inr (2, [.int nbase, .ref aNs, .int ncnt])), (aNs, .inl (cI, 201, .inl nsts)), (aP, .inr (5, [.ref aS, .ref aV, .ref aPs, .ref aPe, .ref aPi, .ref aPh, .int pcnt, .int (b2i pfix), .int pown, .ref aPl, .ref aPn, .int plc, .int psr, .int pbs, .int (b2i pms)])), (aPs, .inl (cI, 8, .inl pst)), (aPe, .inl (cI, 8, .inl pen)), (aPi, .inl (cI, 8, .inl pix)), (aPh, .inl (cI, 8, .inl pho))] H → va_D A [(aH, .inr (6, [.ref aS, .ref aY, .ref aP])), (aY, .inr (3, [.ref aS, .ref aW, .ref aF, .ref aK, .ref aN])), (aW, .inr (1, [.ref aS, .int place, .int limit, .int (b2i full)])), (aS, .inr (0, [.ref aB])), (aB, .inl (cB, 202000, .inl (by_ b))), (aF, .inr (2, [.int fbase, .ref aFs, .int fcnt])), (aFs, .inl (cI, 201, .inl fsts)), (aN, .inr (2, [.int nbase, .ref aNs, .int ncnt])), (aNs, .inl (cI, 201, .inl nsts)), (aP, .inr (5, [.ref aS, .ref aV, .ref aPs, .ref aPe, .ref aPi, .ref aPh, .int pcnt, .int (b2i pfix), .int pown, .ref aPl, .ref aPn, .int plc, .int psr, .int pbs, .int (b2i pms)])), (aPs, .inl (cI, 8, .inl pst)), (aPe, .inl (cI, 8, .inl pen)), (aPi, .inl (cI, 8, .inl pix)), (aPh, .inl (cI, 8, .inl pho))] → va_S A s.heap H locs → ∀ ls : Array Slot, lv_has ls 6 [(0, .ref aH), (2, .int x2)] → W p l e ({ frames := 88, cells := 0, slots := 0, locals := 2114 }) s m args below meth c H locs 0 0 (MQ below (va_Qi (fun (r : Int32) (u : Int32 × Int32 × Bool × (Nat → UInt8) × Int32 × (Nat → Int32) × Int32 × Bool × (Nat → Int32) × (Nat → Int32) × (Nat → Int32) × (Nat → Int32)) => (r, u) = V ∧ be_ok nbase u.2.2.2.2.1 u.2.2.2.2.2.1) (mt_B D A (fun u => wd_SH_unwind aH aS aY aP aW aF aK aN aB aFs aNs aV aPs aPe aPi aPh aPl aPn cB cI fbase nbase fcnt fsts pown plc psr pbs pms u.1 u.2.1 u.2.2.1 u.2.2.2.1 u.2.2.2.2.1 u.2.2.2.2.2.1 u.2.2.2.2.2.2.1 u.2.2.2.2.2.2.2.1 u.2.2.2.2.2.2.2.2.1 u.2.2.2.2.2.2.2.2.2.1 u.2.2.2.2.2.2.2.2.2.2.1 u.2.2.2.2.2.2.2.2.2.2.2)) A) args s 0 0 A) (F0 m 28 ls []) := by
  obtain ⟨hx, hb, hml, hr, hown, hlocks, hT⟩ := id C0
  have hK := hk.1
  have hN := hk.2.1
  intro n
  induction n with
  | zero =>
    intro x2 place limit full b ncnt nsts pcnt pfix pst pen pix pho hm
    exact absurd hm (Nat.not_lt_zero _)
  | succ n ih =>
    intro x2 place limit full b ncnt nsts pcnt pfix pst pen pix pho hm hi hV H locs hP hD hS ls hl
    refine lv_iload_n hx hb d_SH_unwind_28 rfl (lv_at hl 1 rfl) ?_
    refine lv_aload_n hx hb d_SH_unwind_29 rfl (lv_at hl 0 rfl) ?_
    refine va_get (D := D) (ci := 6) (v := .ref aY) (C := R_SH) (T := T_SH) (N := 3) hx hb hT u_SH hown hK hP 0 rfl rfl 1 (by decide) (hT _ k_197) (fun _ h9 => h9) rfl d_SH_unwind_30 ?_
    refine va_getN (D := D) (ci := 3) (v := .ref aF) (C := R_BS) (T := T_BS) (N := 5) hx hb hT u_BS hown hK hP 1 rfl rfl 2 (by decide) (va_Nw.use rfl (hN ("PipelineBelt$Shaper", 27, "PipelineBelt$Belts", "front", "LPipelineBelt$Belt;", "PipelineBelt") (by decide))) (fun _ h9 => h9) rfl d_SH_unwind_33 ?_
    refine va_getN (D := D) (ci := 2) (v := .int fcnt) (C := R_BE) (T := T_BE) (N := 3) hx hb hT u_BE hown hK hP 5 rfl rfl 2 (by decide) (va_Nw.use rfl (hN ("PipelineBelt$Shaper", 33, "PipelineBelt$Belt", "count", "I", "PipelineBelt") (by decide))) (fun _ h9 => h9) rfl d_SH_unwind_36 ?_
    refine lv_icmp_ge (tgt := 119) hx hb d_SH_unwind_39 (by decide) (fun c_4 => ?_) (fun c_4 => ?_)
    · refine lv_iconst (v := 0) hx hb d_SH_unwind_119 (by decide) ?_
      exact W.iret (v := 0) hx hb hr (fun t ht hW => ⟨⟨0, (place, limit, full, b, ncnt, nsts, pcnt, pfix, pst, pen, pix, pho), rfl, ⟨(by rw [hV, tw_SH_unwind_h28, if_pos c_4]; first | done | rfl), hi⟩, by rw [ht]; exact hP, hD⟩, hS.F ht⟩) hS.2.2 d_SH_unwind_120
    · refine lv_aload_n hx hb d_SH_unwind_42 rfl (lv_at hl 0 rfl) ?_
      refine va_get (D := D) (ci := 6) (v := .ref aP) (C := R_SH) (T := T_SH) (N := 3) hx hb hT u_SH hown hK hP 0 rfl rfl 2 (by decide) (hT _ k_198) (fun _ h9 => h9) rfl d_SH_unwind_43 ?_
      refine lv_aload_n hx hb d_SH_unwind_46 rfl (lv_at hl 0 rfl) ?_
      refine va_get (D := D) (ci := 6) (v := .ref aY) (C := R_SH) (T := T_SH) (N := 3) hx hb hT u_SH hown hK hP 0 rfl rfl 1 (by decide) (hT _ k_197) (fun _ h9 => h9) rfl d_SH_unwind_47 ?_
      refine lv_iload_n hx hb d_SH_unwind_50 rfl (lv_at hl 1 rfl) ?_
      refine rd_V (val := tw_BS_document fbase fcnt fsts x2) (As := [.int x2]) (rest := [.ref aP]) ⟨hx, hb, hml, hown, hT⟩ (c_BS_document l D cB cI aY aS aW aF aK aN aFs fbase fcnt fsts x2) (cwV 1 hT (gV_of k_582 k_583 k_584 k_4 kc_BS_document) rfl rfl rfl hd_BS_document ⟨Nat.le_of_ble_eq_true rfl, Nat.le_of_ble_eq_true rfl⟩) hk (hP.sub (ws' := [(aY, .inr (3, [.ref aS, .ref aW, .ref aF, .ref aK, .ref aN])), (aF, .inr (2, [.int fbase, .ref aFs, .int fcnt])), (aFs, .inl (cI, 201, .inl fsts))]) [1, 5, 6] rfl) (q0 := 0) rfl rfl rfl rfl hl.1 rfl (Nat.le_of_ble_eq_true rfl) d_SH_unwind_51 ⟨Nat.zero_le _, Nat.zero_le _⟩ ?_
      refine mt_Vi (As := [.int (tw_BS_document fbase fcnt fsts x2)]) (rest := []) (wr := [(aH, .inr (6, [.ref aS, .ref aY, .ref aP])), (aY, .inr (3, [.ref aS, .ref aW, .ref aF, .ref aK, .ref aN])), (aW, .inr (1, [.ref aS, .int place, .int limit, .int (b2i full)])), (aF, .inr (2, [.int fbase, .ref aFs, .int fcnt])), (aFs, .inl (cI, 201, .inl fsts)), (aN, .inr (2, [.int nbase, .ref aNs, .int ncnt])), (aNs, .inl (cI, 201, .inl nsts)), (aPi, .inl (cI, 8, .inl pix))]) ⟨hx, hb, hml, hown, hT⟩ (c_PA_throughDocuments l D cB cI aP aS aV aPs aPe aPi aPh aPl aPn aB pcnt pfix pown plc psr pbs pms b pst pen _ pho (tw_BS_document fbase fcnt fsts x2)) (cwV 1 hT (gV_of k_678 k_679 k_680 k_7 kc_PA_throughDocuments) rfl rfl rfl hd_PA_throughDocuments ⟨Nat.le_of_ble_eq_true rfl, Nat.le_of_ble_eq_true rfl⟩) hk hP hD hS hA [9, 3, 4, 10, 11, 13] [0, 1, 2, 5, 6, 7, 8, 12] rfl rfl rfl (by decide) (by decide) (by decide) (q0 := 0) rfl rfl rfl rfl hl.1 rfl (Nat.le_of_ble_eq_true rfl) d_SH_unwind_54 ⟨Nat.zero_le _, Nat.zero_le _⟩ (fun r_5 u_5 H locs hw_5 hP hD hS => ?_)
      obtain ⟨pho_5, rfl⟩ : ∃ z, z = u_5 := ⟨_, rfl⟩
      have hP : va_P D vwCl [(aH, .inr (6, [.ref aS, .ref aY, .ref aP])), (aY, .inr (3, [.ref aS, .ref aW, .ref aF, .ref aK, .ref aN])), (aW, .inr (1, [.ref aS, .int place, .int limit, .int (b2i full)])), (aS, .inr (0, [.ref aB])), (aB, .inl (cB, 202000, .inl (by_ b))), (aF, .inr (2, [.int fbase, .ref aFs, .int fcnt])), (aFs, .inl (cI, 201, .inl fsts)), (aN, .inr (2, [.int nbase, .ref aNs, .int ncnt])), (aNs, .inl (cI, 201, .inl nsts)), (aP, .inr (5, [.ref aS, .ref aV, .ref aPs, .ref aPe, .ref aPi, .ref aPh, .int pcnt, .int (b2i pfix), .int pown, .ref aPl, .ref aPn, .int plc, .int psr, .int pbs, .int (b2i pms)])), (aPs, .inl (cI, 8, .inl pst)), (aPe, .inl (cI, 8, .inl pen)), (aPi, .inl (cI, 8, .inl pix)), (aPh, .inl (cI, 8, .inl pho_5))] H := hP.sub [0, 1, 2, 9, 10, 3, 4, 5, 6, 8, 11, 12, 7, 13] rfl
      have hD : va_D A [(aH, .inr (6, [.ref aS, .ref aY, .ref aP])), (aY, .inr (3, [.ref aS, .ref aW, .ref aF, .ref aK, .ref aN])), (aW, .inr (1, [.ref aS, .int place, .int limit, .int (b2i full)])), (aS, .inr (0, [.ref aB])), (aB, .inl (cB, 202000, .inl (by_ b))), (aF, .inr (2, [.int fbase, .ref aFs, .int fcnt])), (aFs, .inl (cI, 201, .inl fsts)), (aN, .inr (2, [.int nbase, .ref aNs, .int ncnt])), (aNs, .inl (cI, 201, .inl nsts)), (aP, .inr (5, [.ref aS, .ref aV, .ref aPs, .ref aPe, .ref aPi, .ref aPh, .int pcnt, .int (b2i pfix), .int pown, .ref aPl, .ref aPn, .int plc, .int psr, .int pbs, .int (b2i pms)])), (aPs, .inl (cI, 8, .inl pst)), (aPe, .inl (cI, 8, .inl pen)), (aPi, .inl (cI, 8, .inl pix)), (aPh, .inl (cI, 8, .inl pho_5))] := hD.sub [0, 1, 2, 9, 10, 3, 4, 5, 6, 8, 11, 12, 7, 13] (by decide) rfl
      refine lv_istore_n (lv' := [(3, .int r_5), (0, .ref aH), (2, .int x2)]) hx hb d_SH_unwind_57 rfl hl (by decide) rfl (fun ls hl => ?_)
      refine lv_iload_n hx hb d_SH_unwind_58 rfl (lv_at hl 0 rfl) ?_
      refine rd_S (val := tw_ST_kindOf r_5) (As := [.int r_5]) (rest := []) ⟨hx, hb, hml, hown, hT⟩ (c_ST_kindOf l D cB cI r_5) (va_cwS 1 hT (gS_of k_554 k_555 k_2 kc_ST_kindOf) rfl rfl rfl hd_ST_kindOf ⟨Nat.le_of_ble_eq_true rfl, Nat.le_of_ble_eq_true rfl⟩) hk (va_P_nil) rfl hl.1 rfl (Nat.le_of_ble_eq_true rfl) d_SH_unwind_59 ⟨Nat.zero_le _, Nat.zero_le _⟩ ?_
      refine lv_istore (lv' := [(4, .int (tw_ST_kindOf r_5)), (3, .int r_5), (0, .ref aH), (2, .int x2)]) hx hb d_SH_unwind_62 hl (by decide) rfl (fun ls hl => ?_)
      refine lv_iconst (v := 1) hx hb d_SH_unwind_64 (by decide) ?_
      refine lv_istore (lv' := [(5, .int 1), (4, .int (tw_ST_kindOf r_5)), (3, .int r_5), (0, .ref aH), (2, .int x2)]) hx hb d_SH_unwind_65 hl (by decide) rfl (fun ls hl => ?_)
      refine lv_iload hx hb d_SH_unwind_67 (lv_at hl 1 rfl) ?_
      refine lv_iconst (v := 4) hx hb d_SH_unwind_69 (by decide) ?_
      refine lv_icmp_ne (tgt := 84) hx hb d_SH_unwind_70 (by decide) (fun c_6 => ?_) (fun c_6 => ?_)
      · refine lv_iload hx hb d_SH_unwind_84 (lv_at hl 1 rfl) ?_
        refine lv_if_eq (tgt := 106) hx hb d_SH_unwind_86 (by decide) (fun c_7 => ?_) (fun c_7 => ?_)
        · refine lv_iload hx hb d_SH_unwind_106 (lv_at hl 0 rfl) ?_
          refine lv_if_ne (tgt := 113) hx hb d_SH_unwind_108 (by decide) (fun c_8 => ?_) (fun c_8 => ?_)
          · refine lv_iinc (v := x2 + 1) (lv' := [(2, .int (x2 + 1)), (5, .int 1), (4, .int (tw_ST_kindOf r_5)), (3, .int r_5), (0, .ref aH)]) hx hb d_SH_unwind_113 hl (k := 4) rfl rfl (by decide) rfl (fun ls hl => ?_)
            refine lv_goto (tgt := 28) hx hb d_SH_unwind_116 (by decide) ?_
            exact ih (x2 + 1) place limit full b ncnt nsts pcnt pfix pst pen pix pho_5 (lp_up hm c_4) (hi) (by rw [hV, tw_SH_unwind_h28, if_neg c_4, ← hw_5, tp2_mk, if_neg c_6, if_pos c_7]) _ _ hP hD hS ls (lv_sub hl [4, 0] rfl)
          · exact absurd c_8 (by decide)
        · refine lv_iload hx hb d_SH_unwind_89 (lv_at hl 1 rfl) ?_
          refine lv_bipush (v := 10) hx hb d_SH_unwind_91 (by decide) ?_
          refine lv_icmp_eq (tgt := 106) hx hb d_SH_unwind_93 (by decide) (fun c_9 => ?_) (fun c_9 => ?_)
          · refine lv_iload hx hb d_SH_unwind_106 (lv_at hl 0 rfl) ?_
            refine lv_if_ne (tgt := 113) hx hb d_SH_unwind_108 (by decide) (fun c_10 => ?_) (fun c_10 => ?_)
            · refine lv_iinc (v := x2 + 1) (lv' := [(2, .int (x2 + 1)), (5, .int 1), (4, .int (tw_ST_kindOf r_5)), (3, .int r_5), (0, .ref aH)]) hx hb d_SH_unwind_113 hl (k := 4) rfl rfl (by decide) rfl (fun ls hl => ?_)
              refine lv_goto (tgt := 28) hx hb d_SH_unwind_116 (by decide) ?_
              exact ih (x2 + 1) place limit full b ncnt nsts pcnt pfix pst pen pix pho_5 (lp_up hm c_4) (hi) (by rw [hV, tw_SH_unwind_h28, if_neg c_4, ← hw_5, tp2_mk, if_neg c_6, if_neg c_7, if_pos c_9]) _ _ hP hD hS ls (lv_sub hl [4, 0] rfl)
            · exact absurd c_10 (by decide)
          · refine lv_aload_n hx hb d_SH_unwind_96 rfl (lv_at hl 3 rfl) ?_
            refine va_get (D := D) (ci := 6) (v := .ref aY) (C := R_SH) (T := T_SH) (N := 3) hx hb hT u_SH hown hK hP 0 rfl rfl 1 (by decide) (hT _ k_197) (fun _ h9 => h9) rfl d_SH_unwind_97 ?_
            refine lv_iload_n hx hb d_SH_unwind_100 rfl (lv_at hl 4 rfl) ?_
            refine mt_Vi (As := [.int x2]) (rest := []) (wr := [(aH, .inr (6, [.ref aS, .ref aY, .ref aP])), (aP, .inr (5, [.ref aS, .ref aV, .ref aPs, .ref aPe, .ref aPi, .ref aPh, .int pcnt, .int (b2i pfix), .int pown, .ref aPl, .ref aPn, .int plc, .int psr, .int pbs, .int (b2i pms)])), (aPs, .inl (cI, 8, .inl pst)), (aPe, .inl (cI, 8, .inl pen)), (aPi, .inl (cI, 8, .inl pix)), (aPh, .inl (cI, 8, .inl pho_5))]) ⟨hx, hb, hml, hown, hT⟩ (c_BS_keep l D cB cI aY aS aW aF aK aN aB aFs aNs fbase nbase fcnt fsts _ place limit full b ncnt nsts x2 (le30 (hfr _).2) hi) (cwV 1 hT (gV_of k_698 k_699 k_700 k_4 kc_BS_keep) rfl rfl rfl hd_BS_keep ⟨Nat.le_of_ble_eq_true rfl, Nat.le_of_ble_eq_true rfl⟩) hk hP hD hS hA [1, 2, 3, 4, 5, 6, 7, 8] [0, 9, 10, 11, 12, 13] rfl rfl rfl (by decide) (by decide) (by decide) (q0 := 0) rfl rfl rfl rfl hl.1 rfl (Nat.le_of_ble_eq_true rfl) d_SH_unwind_101 ⟨Nat.zero_le _, Nat.zero_le _⟩ (fun r_11 u_11 H locs hw_11 hP hD hS => ?_)
            obtain ⟨place_11, limit_11, full_11, b_11, ncnt_11, nsts_11⟩ := u_11
            obtain ⟨r_11, rfl, hw_11⟩ := hw_11
            obtain ⟨hw_11, hi_11⟩ := hw_11
            have hP : va_P D vwCl [(aH, .inr (6, [.ref aS, .ref aY, .ref aP])), (aY, .inr (3, [.ref aS, .ref aW, .ref aF, .ref aK, .ref aN])), (aW, .inr (1, [.ref aS, .int place_11, .int limit_11, .int (b2i full_11)])), (aS, .inr (0, [.ref aB])), (aB, .inl (cB, 202000, .inl (by_ b_11))), (aF, .inr (2, [.int fbase, .ref aFs, .int fcnt])), (aFs, .inl (cI, 201, .inl fsts)), (aN, .inr (2, [.int nbase, .ref aNs, .int ncnt_11])), (aNs, .inl (cI, 201, .inl nsts_11)), (aP, .inr (5, [.ref aS, .ref aV, .ref aPs, .ref aPe, .ref aPi, .ref aPh, .int pcnt, .int (b2i pfix), .int pown, .ref aPl, .ref aPn, .int plc, .int psr, .int pbs, .int (b2i pms)])), (aPs, .inl (cI, 8, .inl pst)), (aPe, .inl (cI, 8, .inl pen)), (aPi, .inl (cI, 8, .inl pix)), (aPh, .inl (cI, 8, .inl pho_5))] H := hP.sub [0, 6, 7, 8, 9, 10, 11, 12, 13, 1, 2, 3, 4, 5] rfl
            have hD : va_D A [(aH, .inr (6, [.ref aS, .ref aY, .ref aP])), (aY, .inr (3, [.ref aS, .ref aW, .ref aF, .ref aK, .ref aN])), (aW, .inr (1, [.ref aS, .int place_11, .int limit_11, .int (b2i full_11)])), (aS, .inr (0, [.ref aB])), (aB, .inl (cB, 202000, .inl (by_ b_11))), (aF, .inr (2, [.int fbase, .ref aFs, .int fcnt])), (aFs, .inl (cI, 201, .inl fsts)), (aN, .inr (2, [.int nbase, .ref aNs, .int ncnt_11])), (aNs, .inl (cI, 201, .inl nsts_11)), (aP, .inr (5, [.ref aS, .ref aV, .ref aPs, .ref aPe, .ref aPi, .ref aPh, .int pcnt, .int (b2i pfix), .int pown, .ref aPl, .ref aPn, .int plc, .int psr, .int pbs, .int (b2i pms)])), (aPs, .inl (cI, 8, .inl pst)), (aPe, .inl (cI, 8, .inl pen)), (aPi, .inl (cI, 8, .inl pix)), (aPh, .inl (cI, 8, .inl pho_5))] := hD.sub [0, 6, 7, 8, 9, 10, 11, 12, 13, 1, 2, 3, 4, 5] (by decide) rfl
            refine lv_istore (lv' := [(5, .int (b2i r_11)), (4, .int (tw_ST_kindOf r_5)), (3, .int r_5), (0, .ref aH), (2, .int x2)]) hx hb d_SH_unwind_104 hl (by decide) rfl (fun ls hl => ?_)
            refine lv_iload hx hb d_SH_unwind_106 (lv_at hl 0 rfl) ?_
            refine lv_if_ne (tgt := 113) hx hb d_SH_unwind_108 (by decide) (fun c_12 => ?_) (fun c_12 => ?_)
            · refine lv_iinc (v := x2 + 1) (lv' := [(2, .int (x2 + 1)), (5, .int (b2i r_11)), (4, .int (tw_ST_kindOf r_5)), (3, .int r_5), (0, .ref aH)]) hx hb d_SH_unwind_113 hl (k := 4) rfl rfl (by decide) rfl (fun ls hl => ?_)
              refine lv_goto (tgt := 28) hx hb d_SH_unwind_116 (by decide) ?_
              exact ih (x2 + 1) place_11 limit_11 full_11 b_11 ncnt_11 nsts_11 pcnt pfix pst pen pix pho_5 (lp_up hm c_4) (hi_11) (by rw [hV, tw_SH_unwind_h28, if_neg c_4, ← hw_5, tp2_mk, if_neg c_6, if_neg c_7, if_neg c_9, ← hw_11, tp7_mk, if_neg c_12]) _ _ hP hD hS ls (lv_sub hl [4, 0] rfl)
            · refine lv_iconst (v := 5) hx hb d_SH_unwind_111 (by decide) ?_
              exact W.iret (v := 5) hx hb hr (fun t ht hW => ⟨⟨5, (place_11, limit_11, full_11, b_11, ncnt_11, nsts_11, pcnt, pfix, pst, pen, pix, pho_5), rfl, ⟨(by rw [hV, tw_SH_unwind_h28, if_neg c_4, ← hw_5, tp2_mk, if_neg c_6, if_neg c_7, if_neg c_9, ← hw_11, tp7_mk, if_pos c_12]; first | done | rfl), hi_11⟩, by rw [ht]; exact hP, hD⟩, hS.F ht⟩) hS.2.2 d_SH_unwind_112
      · refine lv_aload_n hx hb d_SH_unwind_73 rfl (lv_at hl 3 rfl) ?_
        refine lv_iload_n hx hb d_SH_unwind_74 rfl (lv_at hl 4 rfl) ?_
        refine lv_iload_n hx hb d_SH_unwind_75 rfl (lv_at hl 2 rfl) ?_
        refine mt_Vi (As := [.int x2, .int r_5]) (rest := []) (wr := [(aPi, .inl (cI, 8, .inl pix))]) ⟨hx, hb, hml, hown, hT⟩ (c_SH_unwindRow l D cB cI aH aS aY aP aW aF aK aN aB aFs aNs aV aPs aPe aPi aPh aPl aPn fbase nbase fcnt fsts pcnt pfix pown plc psr pbs pms pst pen pho_5 _ place limit full b ncnt nsts x2 r_5 (hfr) hi) (cwV 2 hT (gV_of k_682 k_684 kp_SH_unwindRow k_8 kc_SH_unwindRow) rfl rfl rfl hd_SH_unwindRow ⟨Nat.le_of_ble_eq_true rfl, Nat.le_of_ble_eq_true rfl⟩) hk hP hD hS hA [0, 1, 2, 3, 4, 5, 6, 7, 8, 9, 10, 11, 13] [12] rfl rfl rfl (by decide) (by decide) (by decide) (q0 := 0) rfl rfl rfl rfl hl.1 rfl (Nat.le_of_ble_eq_true rfl) d_SH_unwind_76 ⟨Nat.zero_le _, Nat.zero_le _⟩ (fun r_13 u_13 H locs hw_13 hP hD hS => ?_)
        obtain ⟨place_13, limit_13, full_13, b_13, ncnt_13, nsts_13⟩ := u_13
        obtain ⟨r_13, rfl, hw_13⟩ := hw_13
        obtain ⟨hw_13, hi_13⟩ := hw_13
        have hP : va_P D vwCl [(aH, .inr (6, [.ref aS, .ref aY, .ref aP])), (aY, .inr (3, [.ref aS, .ref aW, .ref aF, .ref aK, .ref aN])), (aW, .inr (1, [.ref aS, .int place_13, .int limit_13, .int (b2i full_13)])), (aS, .inr (0, [.ref aB])), (aB, .inl (cB, 202000, .inl (by_ b_13))), (aF, .inr (2, [.int fbase, .ref aFs, .int fcnt])), (aFs, .inl (cI, 201, .inl fsts)), (aN, .inr (2, [.int nbase, .ref aNs, .int ncnt_13])), (aNs, .inl (cI, 201, .inl nsts_13)), (aP, .inr (5, [.ref aS, .ref aV, .ref aPs, .ref aPe, .ref aPi, .ref aPh, .int pcnt, .int (b2i pfix), .int pown, .ref aPl, .ref aPn, .int plc, .int psr, .int pbs, .int (b2i pms)])), (aPs, .inl (cI, 8, .inl pst)), (aPe, .inl (cI, 8, .inl pen)), (aPi, .inl (cI, 8, .inl pix)), (aPh, .inl (cI, 8, .inl pho_5))] H := hP.sub [1, 2, 3, 4, 5, 6, 7, 8, 9, 10, 11, 12, 0, 13] rfl
        have hD : va_D A [(aH, .inr (6, [.ref aS, .ref aY, .ref aP])), (aY, .inr (3, [.ref aS, .ref aW, .ref aF, .ref aK, .ref aN])), (aW, .inr (1, [.ref aS, .int place_13, .int limit_13, .int (b2i full_13)])), (aS, .inr (0, [.ref aB])), (aB, .inl (cB, 202000, .inl (by_ b_13))), (aF, .inr (2, [.int fbase, .ref aFs, .int fcnt])), (aFs, .inl (cI, 201, .inl fsts)), (aN, .inr (2, [.int nbase, .ref aNs, .int ncnt_13])), (aNs, .inl (cI, 201, .inl nsts_13)), (aP, .inr (5, [.ref aS, .ref aV, .ref aPs, .ref aPe, .ref aPi, .ref aPh, .int pcnt, .int (b2i pfix), .int pown, .ref aPl, .ref aPn, .int plc, .int psr, .int pbs, .int (b2i pms)])), (aPs, .inl (cI, 8, .inl pst)), (aPe, .inl (cI, 8, .inl pen)), (aPi, .inl (cI, 8, .inl pix)), (aPh, .inl (cI, 8, .inl pho_5))] := hD.sub [1, 2, 3, 4, 5, 6, 7, 8, 9, 10, 11, 12, 0, 13] (by decide) rfl
        refine lv_istore (lv' := [(5, .int (b2i r_13)), (4, .int (tw_ST_kindOf r_5)), (3, .int r_5), (0, .ref aH), (2, .int x2)]) hx hb d_SH_unwind_79 hl (by decide) rfl (fun ls hl => ?_)
        refine lv_goto (tgt := 106) hx hb d_SH_unwind_81 (by decide) ?_
        refine lv_iload hx hb d_SH_unwind_106 (lv_at hl 0 rfl) ?_
        refine lv_if_ne (tgt := 113) hx hb d_SH_unwind_108 (by decide) (fun c_14 => ?_) (fun c_14 => ?_)
        · refine lv_iinc (v := x2 + 1) (lv' := [(2, .int (x2 + 1)), (5, .int (b2i r_13)), (4, .int (tw_ST_kindOf r_5)), (3, .int r_5), (0, .ref aH)]) hx hb d_SH_unwind_113 hl (k := 4) rfl rfl (by decide) rfl (fun ls hl => ?_)
          refine lv_goto (tgt := 28) hx hb d_SH_unwind_116 (by decide) ?_
          exact ih (x2 + 1) place_13 limit_13 full_13 b_13 ncnt_13 nsts_13 pcnt pfix pst pen pix pho_5 (lp_up hm c_4) (hi_13) (by rw [hV, tw_SH_unwind_h28, if_neg c_4, ← hw_5, tp2_mk, if_pos c_6, ← hw_13, tp7_mk, if_neg c_14]) _ _ hP hD hS ls (lv_sub hl [4, 0] rfl)
        · refine lv_iconst (v := 5) hx hb d_SH_unwind_111 (by decide) ?_
          exact W.iret (v := 5) hx hb hr (fun t ht hW => ⟨⟨5, (place_13, limit_13, full_13, b_13, ncnt_13, nsts_13, pcnt, pfix, pst, pen, pix, pho_5), rfl, ⟨(by rw [hV, tw_SH_unwind_h28, if_neg c_4, ← hw_5, tp2_mk, if_pos c_6, ← hw_13, tp7_mk, if_pos c_14]; first | done | rfl), hi_13⟩, by rw [ht]; exact hP, hD⟩, hS.F ht⟩) hS.2.2 d_SH_unwind_112
set_option maxHeartbeats 4000000 in
set_option maxRecDepth 100000 in
theorem c_SH_unwind (l : Launch) (D : va_G) (cB cI : ClassId) (aH aS aY aP aW aF aK aN aB aFs aNs aV aPs aPe aPi aPh aPl aPn : Nat) (fbase : Int32) (nbase : Int32) (fcnt : Int32) (fsts : Nat → Int32) (pown : Int32) (plc : Int32) (psr : Int32) (pbs : Int32) (pms : Bool) (sz : Nat) (place : Int32) (limit : Int32) (full : Bool) (b : Nat → UInt8) (ncnt : Int32) (nsts : Nat → Int32) (pcnt : Int32) (pfix : Bool) (pst : Nat → Int32) (pen : Nat → Int32) (pix : Nat → Int32) (pho : Nat → Int32) (p0 : Int32) (hfr : ∀ j : Int32, 0 ≤ (tw_BE_start fbase fcnt fsts j).toInt ∧ (tw_BE_start fbase fcnt fsts j).toInt ≤ 202000) (hi : be_ok nbase ncnt nsts) : Met l y_SH_unwind mw_SH_unwind { frames := 88, cells := 0, slots := 0, locals := 2114 } (va_Pc [.ref aH, .int p0] (mt_P D cB cI (wd_SH_unwind aH aS aY aP aW aF aK aN aB aFs aNs aV aPs aPe aPi aPh aPl aPn cB cI fbase nbase fcnt fsts pown plc psr pbs pms place limit full b ncnt nsts pcnt pfix pst pen pix pho) sz)) (va_Qi (fun (r : Int32) (u : Int32 × Int32 × Bool × (Nat → UInt8) × Int32 × (Nat → Int32) × Int32 × Bool × (Nat → Int32) × (Nat → Int32) × (Nat → Int32) × (Nat → Int32)) => (r, u) = tw_SH_unwind fbase nbase fcnt fsts place limit full b ncnt nsts pcnt pfix pst pen pix pho p0 ∧ be_ok nbase u.2.2.2.2.1 u.2.2.2.2.2.1) (mt_B D (va_A (wd_SH_unwind aH aS aY aP aW aF aK aN aB aFs aNs aV aPs aPe aPi aPh aPl aPn cB cI fbase nbase fcnt fsts pown plc psr pbs pms place limit full b ncnt nsts pcnt pfix pst pen pix pho) sz) (fun u => wd_SH_unwind aH aS aY aP aW aF aK aN aB aFs aNs aV aPs aPe aPi aPh aPl aPn cB cI fbase nbase fcnt fsts pown plc psr pbs pms u.1 u.2.1 u.2.2.1 u.2.2.2.1 u.2.2.2.2.1 u.2.2.2.2.2.1 u.2.2.2.2.2.2.1 u.2.2.2.2.2.2.2.1 u.2.2.2.2.2.2.2.2.1 u.2.2.2.2.2.2.2.2.2.1 u.2.2.2.2.2.2.2.2.2.2.1 u.2.2.2.2.2.2.2.2.2.2.2)) (va_A (wd_SH_unwind aH aS aY aP aW aF aK aN aB aFs aNs aV aPs aPe aPi aPh aPl aPn cB cI fbase nbase fcnt fsts pown plc psr pbs pms place limit full b ncnt nsts pcnt pfix pst pen pix pho) sz)) 0 0 (va_A (wd_SH_unwind aH aS aY aP aW aF aK aN aB aFs aNs aV aPs aPe aPi aPh aPl aPn cB cI fbase nbase fcnt fsts pown plc psr pbs pms place limit full b ncnt nsts pcnt pfix pst pen pix pho) sz) := by
  refine Met.ofW (cc := b_SH_unwind) (maxL := 6) (ret := (some .int)) (by decide) rfl ?_
  intro p e s m args below meth c s₁ B0 hml hv
  obtain ⟨rfl, hsz, hP, hk, hD0⟩ := hv
  have hK := hk.1
  have hN := hk.2.1
  have hx := B0.exec
  have hb := B0.bytes
  have hr := B0.returns
  have hT : ∀ w ∈ lw_g, w.before _ s = true := fun w h => atoms_spec (ws := mw_SH_unwind) B0.pre w (List.mem_cons_of_mem _ h)
  have hown : s.vm.findClass R_SH = some m.cls := findClass_of_methodNamed B0.named
  have hlocks := B0.notSynchronized
  subst hsz
  have hD := hD0.self (sz := s.heap.size)
  generalize hAe : va_A [(aH, .inr (6, [.ref aS, .ref aY, .ref aP])), (aY, .inr (3, [.ref aS, .ref aW, .ref aF, .ref aK, .ref aN])), (aW, .inr (1, [.ref aS, .int place, .int limit, .int (b2i full)])), (aS, .inr (0, [.ref aB])), (aB, .inl (cB, 202000, .inl (by_ b))), (aF, .inr (2, [.int fbase, .ref aFs, .int fcnt])), (aFs, .inl (cI, 201, .inl fsts)), (aN, .inr (2, [.int nbase, .ref aNs, .int ncnt])), (aNs, .inl (cI, 201, .inl nsts)), (aP, .inr (5, [.ref aS, .ref aV, .ref aPs, .ref aPe, .ref aPi, .ref aPh, .int pcnt, .int (b2i pfix), .int pown, .ref aPl, .ref aPn, .int plc, .int psr, .int pbs, .int (b2i pms)])), (aPs, .inl (cI, 8, .inl pst)), (aPe, .inl (cI, 8, .inl pen)), (aPi, .inl (cI, 8, .inl pix)), (aPh, .inl (cI, 8, .inl pho))] s.heap.size = A at hD ⊢
  have hA : ∀ q : Nat, s.heap.size ≤ q → A q := fun q h => by rw [← hAe]; exact Or.inr h
  have hS : va_S A s.heap s.heap [] := va_S.rf
  have hl := lv_entry ([.ref aH, .int p0]) (n := 6) (Nat.le_of_ble_eq_true rfl)
  rw [lg_entry_eq]
  generalize (lg_sl ([.ref aH, .int p0]) ++ List.replicate (6 - (lg_sl ([.ref aH, .int p0])).length) Slot.unset).toArray = ls at hl ⊢
  have hl : lv_has ls 6 [(0, .ref aH), (1, .int p0)] := hl
  have C0 : lc_C p s m meth c _ b_SH_unwind 6 (some .int) R_SH lw_g := ⟨hx, hb, hml, hr, hown, hlocks, hT⟩
  refine lv_aload_n hx hb d_SH_unwind_0 rfl (lv_at hl 0 rfl) ?_
  refine va_get (D := D) (ci := 6) (v := .ref aP) (C := R_SH) (T := T_SH) (N := 3) hx hb hT u_SH hown hK hP 0 rfl rfl 2 (by decide) (hT _ k_198) (fun _ h9 => h9) rfl d_SH_unwind_1 ?_
  refine lv_iload_n hx hb d_SH_unwind_4 rfl (lv_at hl 1 rfl) ?_
  refine rd_V (val := b2i (tw_PA_startsWithDollar b p0)) (As := [.int p0]) (rest := []) ⟨hx, hb, hml, hown, hT⟩ (c_PA_startsWithDollar l D cB cI aP aS aV aPs aPe aPi aPh aPl aPn aB pcnt pfix pown plc psr pbs pms b p0) (cwV 1 hT (gV_of k_673 k_570 k_571 k_7 kc_PA_startsWithDollar) rfl rfl rfl hd_PA_startsWithDollar ⟨Nat.le_of_ble_eq_true rfl, Nat.le_of_ble_eq_true rfl⟩) hk (hP.sub (ws' := [(aP, .inr (5, [.ref aS, .ref aV, .ref aPs, .ref aPe, .ref aPi, .ref aPh, .int pcnt, .int (b2i pfix), .int pown, .ref aPl, .ref aPn, .int plc, .int psr, .int pbs, .int (b2i pms)])), (aS, .inr (0, [.ref aB])), (aB, .inl (cB, 202000, .inl (by_ b)))]) [9, 3, 4] rfl) (q0 := 0) rfl rfl rfl rfl hl.1 rfl (Nat.le_of_ble_eq_true rfl) d_SH_unwind_5 ⟨Nat.zero_le _, Nat.zero_le _⟩ ?_
  refine lv_if_ne (tgt := 13) hx hb d_SH_unwind_8 (by decide) (fun c_1 => ?_) (fun c_1 => ?_)
  · refine lv_aload_n hx hb d_SH_unwind_13 rfl (lv_at hl 0 rfl) ?_
    refine va_get (D := D) (ci := 6) (v := .ref aP) (C := R_SH) (T := T_SH) (N := 3) hx hb hT u_SH hown hK hP 0 rfl rfl 2 (by decide) (hT _ k_198) (fun _ h9 => h9) rfl d_SH_unwind_14 ?_
    refine lv_iload_n hx hb d_SH_unwind_17 rfl (lv_at hl 1 rfl) ?_
    refine mt_Vi (As := [.int p0]) (rest := []) (wr := [(aH, .inr (6, [.ref aS, .ref aY, .ref aP])), (aY, .inr (3, [.ref aS, .ref aW, .ref aF, .ref aK, .ref aN])), (aW, .inr (1, [.ref aS, .int place, .int limit, .int (b2i full)])), (aF, .inr (2, [.int fbase, .ref aFs, .int fcnt])), (aFs, .inl (cI, 201, .inl fsts)), (aN, .inr (2, [.int nbase, .ref aNs, .int ncnt])), (aNs, .inl (cI, 201, .inl nsts)), (aPh, .inl (cI, 8, .inl pho))]) ⟨hx, hb, hml, hown, hT⟩ (c_PA_readBehindDollar l D cB cI aP aS aV aPs aPe aPi aPh aPl aPn aB pown plc psr pbs pms b _ pcnt pfix pst pen pix p0) (cwV 1 hT (gV_of k_674 k_675 k_676 k_7 kc_PA_readBehindDollar) rfl rfl rfl hd_PA_readBehindDollar ⟨Nat.le_of_ble_eq_true rfl, Nat.le_of_ble_eq_true rfl⟩) hk hP hD hS hA [9, 3, 4, 10, 11, 12] [0, 1, 2, 5, 6, 7, 8, 13] rfl rfl rfl (by decide) (by decide) (by decide) (q0 := 0) rfl rfl rfl rfl hl.1 rfl (Nat.le_of_ble_eq_true rfl) d_SH_unwind_18 ⟨Nat.zero_le _, Nat.zero_le _⟩ (fun r_2 u_2 H locs hw_2 hP hD hS => ?_)
    obtain ⟨pcnt_2, pfix_2, pst_2, pen_2, pix_2⟩ := u_2
    obtain ⟨r_2, rfl, hw_2⟩ := hw_2
    have hP : va_P D vwCl [(aH, .inr (6, [.ref aS, .ref aY, .ref aP])), (aY, .inr (3, [.ref aS, .ref aW, .ref aF, .ref aK, .ref aN])), (aW, .inr (1, [.ref aS, .int place, .int limit, .int (b2i full)])), (aS, .inr (0, [.ref aB])), (aB, .inl (cB, 202000, .inl (by_ b))), (aF, .inr (2, [.int fbase, .ref aFs, .int fcnt])), (aFs, .inl (cI, 201, .inl fsts)), (aN, .inr (2, [.int nbase, .ref aNs, .int ncnt])), (aNs, .inl (cI, 201, .inl nsts)), (aP, .inr (5, [.ref aS, .ref aV, .ref aPs, .ref aPe, .ref aPi, .ref aPh, .int pcnt_2, .int (b2i pfix_2), .int pown, .ref aPl, .ref aPn, .int plc, .int psr, .int pbs, .int (b2i pms)])), (aPs, .inl (cI, 8, .inl pst_2)), (aPe, .inl (cI, 8, .inl pen_2)), (aPi, .inl (cI, 8, .inl pix_2)), (aPh, .inl (cI, 8, .inl pho))] H := hP.sub [0, 1, 2, 9, 10, 3, 4, 5, 6, 8, 11, 12, 13, 7] rfl
    have hD : va_D A [(aH, .inr (6, [.ref aS, .ref aY, .ref aP])), (aY, .inr (3, [.ref aS, .ref aW, .ref aF, .ref aK, .ref aN])), (aW, .inr (1, [.ref aS, .int place, .int limit, .int (b2i full)])), (aS, .inr (0, [.ref aB])), (aB, .inl (cB, 202000, .inl (by_ b))), (aF, .inr (2, [.int fbase, .ref aFs, .int fcnt])), (aFs, .inl (cI, 201, .inl fsts)), (aN, .inr (2, [.int nbase, .ref aNs, .int ncnt])), (aNs, .inl (cI, 201, .inl nsts)), (aP, .inr (5, [.ref aS, .ref aV, .ref aPs, .ref aPe, .ref aPi, .ref aPh, .int pcnt_2, .int (b2i pfix_2), .int pown, .ref aPl, .ref aPn, .int plc, .int psr, .int pbs, .int (b2i pms)])), (aPs, .inl (cI, 8, .inl pst_2)), (aPe, .inl (cI, 8, .inl pen_2)), (aPi, .inl (cI, 8, .inl pix_2)), (aPh, .inl (cI, 8, .inl pho))] := hD.sub [0, 1, 2, 9, 10, 3, 4, 5, 6, 8, 11, 12, 13, 7] (by decide) rfl
    refine lv_if_ne (tgt := 26) hx hb d_SH_unwind_21 (by decide) (fun c_3 => ?_) (fun c_3 => ?_)
    · refine lv_iconst (v := 0) hx hb d_SH_unwind_26 (by decide) ?_
      refine lv_istore_n (lv' := [(2, .int 0), (0, .ref aH), (1, .int p0)]) hx hb d_SH_unwind_27 rfl hl (by decide) rfl (fun ls hl => ?_)
      exact l_SH_unwind_h28 C0 l D cB cI aH aS aY aP aW aF aK aN aB aFs aNs aV aPs aPe aPi aPh aPl aPn fbase nbase fcnt fsts pown plc psr pbs pms hk hA  hfr (((fcnt.toInt - (0 : Int32).toInt).toNat) + 1) 0 place limit full b ncnt nsts pcnt_2 pfix_2 pst_2 pen_2 pix_2 pho (Nat.lt_succ_self _) (hi) (by rw [tw_SH_unwind, if_neg c_1, ← hw_2, tp6_mk, if_neg c_3]) _ _ hP hD hS ls (lv_sub hl [1, 0] rfl)
    · refine lv_iconst (v := 3) hx hb d_SH_unwind_24 (by decide) ?_
      exact W.iret (v := 3) hx hb hr (fun t ht hW => ⟨⟨3, (place, limit, full, b, ncnt, nsts, pcnt_2, pfix_2, pst_2, pen_2, pix_2, pho), rfl, ⟨(by rw [tw_SH_unwind, if_neg c_1, ← hw_2, tp6_mk, if_pos c_3]; first | done | rfl), hi⟩, by rw [ht]; exact hP, hD⟩, hS.F ht⟩) hS.2.2 d_SH_unwind_25
  · refine lv_iconst (v := 2) hx hb d_SH_unwind_11 (by decide) ?_
    exact W.iret (v := 2) hx hb hr (fun t ht hW => ⟨⟨2, (place, limit, full, b, ncnt, nsts, pcnt, pfix, pst, pen, pix, pho), rfl, ⟨(by rw [tw_SH_unwind, if_pos c_1]; first | done | rfl), hi⟩, by rw [ht]; exact hP, hD⟩, hS.F ht⟩) hS.2.2 d_SH_unwind_12
