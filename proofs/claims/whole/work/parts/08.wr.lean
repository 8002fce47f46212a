/-! printed by wip/gen -/
theorem k_5 : (Jvm.Cond.initialized "PipelineBelt$Writer") ∈ lw_g := lw_gm (List.mem_append_right _ (List.mem_of_getElem? (i := 5) (by decide +kernel))) rfl
theorem k_15 : (Jvm.Cond.initialized "java/lang/System") ∈ lw_g := lw_gm (List.mem_append_right _ (List.mem_of_getElem? (i := 15) (by decide +kernel))) rfl
theorem k_65 : (Jvm.Cond.fieldLink "PipelineBelt$Writer" (9 : Nat) "PipelineBelt$Writer" "store" "LPipelineBelt$Store;") ∈ lw_g := lw_gm (List.mem_append_right _ (List.mem_of_getElem? (i := 65) (by decide +kernel))) rfl
theorem k_66 : (Jvm.Cond.fieldLink "PipelineBelt$Writer" (15 : Nat) "PipelineBelt$Writer" "place" "I") ∈ lw_g := lw_gm (List.mem_append_right _ (List.mem_of_getElem? (i := 66) (by decide +kernel))) rfl
theorem k_70 : (Jvm.Cond.fieldLink "PipelineBelt$Writer" (26 : Nat) "PipelineBelt$Writer" "limit" "I") ∈ lw_g := lw_gm (List.mem_append_right _ (List.mem_of_getElem? (i := 70) (by decide +kernel))) rfl
theorem k_71 : (Jvm.Cond.fieldLink "PipelineBelt$Writer" (29 : Nat) "PipelineBelt$Writer" "full" "Z") ∈ lw_g := lw_gm (List.mem_append_right _ (List.mem_of_getElem? (i := 71) (by decide +kernel))) rfl
theorem k_448 : (Jvm.Cond.constant "PipelineBelt$Writer" (19 : Nat) (202000 : Int32)) ∈ lw_g := lw_gm (List.mem_append_right _ (List.mem_of_getElem? (i := 448) (by decide +kernel))) rfl
theorem k_449 : (Jvm.Cond.methodLink "PipelineBelt$Writer" (20 : Nat) ({ cls := "java/lang/Math", name := "min", desc := "(II)I" } : Jvm.MethodName)) ∈ lw_g := lw_gm (List.mem_append_right _ (List.mem_of_getElem? (i := 449) (by decide +kernel))) rfl
theorem k_451 : (Jvm.Cond.instanceMethod ({ cls := "PipelineBelt$Writer", name := "copy", desc := "(II)V" } : Jvm.MethodName)) ∈ lw_g := lw_gm (List.mem_append_right _ (List.mem_of_getElem? (i := 451) (by decide +kernel))) rfl
theorem k_452 : (Jvm.Cond.selects "PipelineBelt$Writer" ({ cls := "PipelineBelt$Writer", name := "copy", desc := "(II)V" } : Jvm.MethodName) ({ cls := "PipelineBelt$Writer", name := "copy", desc := "(II)V" } : Jvm.MethodName)) ∈ lw_g := lw_gm (List.mem_append_right _ (List.mem_of_getElem? (i := 452) (by decide +kernel))) rfl
theorem k_454 : (Jvm.Cond.methodLink "PipelineBelt$Writer" (39 : Nat) ({ cls := "java/lang/System", name := "arraycopy", desc := "(Ljava/lang/Object;ILjava/lang/Object;II)V" } : Jvm.MethodName)) ∈ lw_g := lw_gm (List.mem_append_right _ (List.mem_of_getElem? (i := 454) (by decide +kernel))) rfl
theorem k_455 : (Jvm.Cond.static ({ cls := "java/lang/System", name := "arraycopy", desc := "(Ljava/lang/Object;ILjava/lang/Object;II)V" } : Jvm.MethodName)) ∈ lw_g := lw_gm (List.mem_append_right _ (List.mem_of_getElem? (i := 455) (by decide +kernel))) rfl
theorem k_456 : (Jvm.Cond.native ({ cls := "java/lang/System", name := "arraycopy", desc := "(Ljava/lang/Object;ILjava/lang/Object;II)V" } : Jvm.MethodName)) ∈ lw_g := lw_gm (List.mem_append_right _ (List.mem_of_getElem? (i := 456) (by decide +kernel))) rfl
theorem k_601 : (Jvm.Cond.methodLink "PipelineBelt$Writer" (45 : Nat) ({ cls := "PipelineBelt$Writer", name := "octet", desc := "(I)V" } : Jvm.MethodName)) ∈ lw_g := lw_gm (List.mem_append_right _ (List.mem_of_getElem? (i := 601) (by decide +kernel))) rfl
theorem k_602 : (Jvm.Cond.instanceMethod ({ cls := "PipelineBelt$Writer", name := "octet", desc := "(I)V" } : Jvm.MethodName)) ∈ lw_g := lw_gm (List.mem_append_right _ (List.mem_of_getElem? (i := 602) (by decide +kernel))) rfl
theorem k_603 : (Jvm.Cond.selects "PipelineBelt$Writer" ({ cls := "PipelineBelt$Writer", name := "octet", desc := "(I)V" } : Jvm.MethodName) ({ cls := "PipelineBelt$Writer", name := "octet", desc := "(I)V" } : Jvm.MethodName)) ∈ lw_g := lw_gm (List.mem_append_right _ (List.mem_of_getElem? (i := 603) (by decide +kernel))) rfl
theorem k_646 : (Jvm.Cond.methodLink "PipelineBelt$Writer" (49 : Nat) ({ cls := "PipelineBelt$Writer", name := "resize", desc := "(II)V" } : Jvm.MethodName)) ∈ lw_g := lw_gm (List.mem_append_right _ (List.mem_of_getElem? (i := 646) (by decide +kernel))) rfl
theorem k_647 : (Jvm.Cond.instanceMethod ({ cls := "PipelineBelt$Writer", name := "resize", desc := "(II)V" } : Jvm.MethodName)) ∈ lw_g := lw_gm (List.mem_append_right _ (List.mem_of_getElem? (i := 647) (by decide +kernel))) rfl
theorem k_648 : (Jvm.Cond.selects "PipelineBelt$Writer" ({ cls := "PipelineBelt$Writer", name := "resize", desc := "(II)V" } : Jvm.MethodName) ({ cls := "PipelineBelt$Writer", name := "resize", desc := "(II)V" } : Jvm.MethodName)) ∈ lw_g := lw_gm (List.mem_append_right _ (List.mem_of_getElem? (i := 648) (by decide +kernel))) rfl
theorem k_656 : (Jvm.Cond.methodLink "PipelineBelt$Writer" (53 : Nat) ({ cls := "PipelineBelt$Writer", name := "copy", desc := "(II)V" } : Jvm.MethodName)) ∈ lw_g := lw_gm (List.mem_append_right _ (List.mem_of_getElem? (i := 656) (by decide +kernel))) rfl
abbrev b_WR_octet : ByteArray := prog_11_method_3_code
def y_WR_octet : MethodName := ⟨R_WR, "octet", "(I)V"⟩
theorem kc_WR_octet : Cond.code y_WR_octet b_WR_octet 2 none ∈ lw_g := lw_gm (List.mem_append_right _ (List.mem_of_getElem? (i := 604) (by decide +kernel))) rfl
abbrev mw_WR_octet : List Cond := Cond.code y_WR_octet b_WR_octet 2 none :: lw_g
theorem hd_WR_octet : y_WR_octet.cls = R_WR ∧ y_WR_octet.cls ≠ "java/lang/invoke/MethodHandle" ∧ y_WR_octet.cls ≠ "java/lang/invoke/VarHandle" ∧ (parseMethodDescriptor y_WR_octet.desc).map (fun d => d.parameters.length) = some 1 := by decide +kernel
theorem d_WR_octet_0 : decode b_WR_octet 0 = .ok (.aload_n 0, 1) := by decide +kernel
theorem d_WR_octet_1 : decode b_WR_octet 1 = .ok (.getfield 29, 3) := by decide +kernel
theorem d_WR_octet_4 : decode b_WR_octet 4 = .ok (.ifCond .ne 14, 3) := by decide +kernel
theorem d_WR_octet_7 : decode b_WR_octet 7 = .ok (.aload_n 0, 1) := by decide +kernel
theorem d_WR_octet_8 : decode b_WR_octet 8 = .ok (.getfield 15, 3) := by decide +kernel
theorem d_WR_octet_11 : decode b_WR_octet 11 = .ok (.aload_n 0, 1) := by decide +kernel
theorem d_WR_octet_12 : decode b_WR_octet 12 = .ok (.getfield 26, 3) := by decide +kernel
theorem d_WR_octet_15 : decode b_WR_octet 15 = .ok (.if_icmp .lt 9, 3) := by decide +kernel
theorem d_WR_octet_18 : decode b_WR_octet 18 = .ok (.aload_n 0, 1) := by decide +kernel
theorem d_WR_octet_19 : decode b_WR_octet 19 = .ok (.iconst 1, 1) := by decide +kernel
theorem d_WR_octet_20 : decode b_WR_octet 20 = .ok (.putfield 29, 3) := by decide +kernel
theorem d_WR_octet_23 : decode b_WR_octet 23 = .ok (.return_, 1) := by decide +kernel
theorem d_WR_octet_24 : decode b_WR_octet 24 = .ok (.aload_n 0, 1) := by decide +kernel
theorem d_WR_octet_25 : decode b_WR_octet 25 = .ok (.getfield 9, 3) := by decide +kernel
theorem d_WR_octet_28 : decode b_WR_octet 28 = .ok (.getfield 33, 3) := by decide +kernel
theorem d_WR_octet_31 : decode b_WR_octet 31 = .ok (.aload_n 0, 1) := by decide +kernel
theorem d_WR_octet_32 : decode b_WR_octet 32 = .ok (.getfield 15, 3) := by decide +kernel
theorem d_WR_octet_35 : decode b_WR_octet 35 = .ok (.iload_n 1, 1) := by decide +kernel
theorem d_WR_octet_36 : decode b_WR_octet 36 = .ok (.i2b, 1) := by decide +kernel
theorem d_WR_octet_37 : decode b_WR_octet 37 = .ok (.bastore, 1) := by decide +kernel
theorem d_WR_octet_38 : decode b_WR_octet 38 = .ok (.aload_n 0, 1) := by decide +kernel
theorem d_WR_octet_39 : decode b_WR_octet 39 = .ok (.dup, 1) := by decide +kernel
theorem d_WR_octet_40 : decode b_WR_octet 40 = .ok (.getfield 15, 3) := by decide +kernel
theorem d_WR_octet_43 : decode b_WR_octet 43 = .ok (.iconst 1, 1) := by decide +kernel
theorem d_WR_octet_44 : decode b_WR_octet 44 = .ok (.iadd, 1) := by decide +kernel
theorem d_WR_octet_45 : decode b_WR_octet 45 = .ok (.putfield 15, 3) := by decide +kernel
theorem d_WR_octet_48 : decode b_WR_octet 48 = .ok (.return_, 1) := by decide +kernel
abbrev b_WR_aim : ByteArray := prog_11_method_2_code
def y_WR_aim : MethodName := ⟨R_WR, "aim", "(II)V"⟩
theorem kc_WR_aim : Cond.code y_WR_aim b_WR_aim 3 none ∈ lw_g := lw_gm (List.mem_append_right _ (List.mem_of_getElem? (i := 447) (by decide +kernel))) rfl
abbrev mw_WR_aim : List Cond := Cond.code y_WR_aim b_WR_aim 3 none :: lw_g
theorem hd_WR_aim : y_WR_aim.cls = R_WR ∧ y_WR_aim.cls ≠ "java/lang/invoke/MethodHandle" ∧ y_WR_aim.cls ≠ "java/lang/invoke/VarHandle" ∧ (parseMethodDescriptor y_WR_aim.desc).map (fun d => d.parameters.length) = some 2 := by decide +kernel
theorem d_WR_aim_0 : decode b_WR_aim 0 = .ok (.aload_n 0, 1) := by decide +kernel
theorem d_WR_aim_1 : decode b_WR_aim 1 = .ok (.iload_n 1, 1) := by decide +kernel
theorem d_WR_aim_2 : decode b_WR_aim 2 = .ok (.putfield 15, 3) := by decide +kernel
theorem d_WR_aim_5 : decode b_WR_aim 5 = .ok (.aload_n 0, 1) := by decide +kernel
theorem d_WR_aim_6 : decode b_WR_aim 6 = .ok (.iload_n 1, 1) := by decide +kernel
theorem d_WR_aim_7 : decode b_WR_aim 7 = .ok (.iload_n 2, 1) := by decide +kernel
theorem d_WR_aim_8 : decode b_WR_aim 8 = .ok (.iadd, 1) := by decide +kernel
theorem d_WR_aim_9 : decode b_WR_aim 9 = .ok (.ldc 19, 2) := by decide +kernel
theorem d_WR_aim_11 : decode b_WR_aim 11 = .ok (.invokestatic 20, 3) := by decide +kernel
theorem d_WR_aim_14 : decode b_WR_aim 14 = .ok (.putfield 26, 3) := by decide +kernel
theorem d_WR_aim_17 : decode b_WR_aim 17 = .ok (.aload_n 0, 1) := by decide +kernel
theorem d_WR_aim_18 : decode b_WR_aim 18 = .ok (.iload_n 1, 1) := by decide +kernel
theorem d_WR_aim_19 : decode b_WR_aim 19 = .ok (.ifCond .ge 7, 3) := by decide +kernel
theorem d_WR_aim_22 : decode b_WR_aim 22 = .ok (.iconst 1, 1) := by decide +kernel
theorem d_WR_aim_23 : decode b_WR_aim 23 = .ok (.goto 4, 3) := by decide +kernel
theorem d_WR_aim_26 : decode b_WR_aim 26 = .ok (.iconst 0, 1) := by decide +kernel
theorem d_WR_aim_27 : decode b_WR_aim 27 = .ok (.putfield 29, 3) := by decide +kernel
theorem d_WR_aim_30 : decode b_WR_aim 30 = .ok (.return_, 1) := by decide +kernel
abbrev b_WR_copy : ByteArray := prog_11_method_4_code
def y_WR_copy : MethodName := ⟨R_WR, "copy", "(II)V"⟩
theorem kc_WR_copy : Cond.code y_WR_copy b_WR_copy 4 none ∈ lw_g := lw_gm (List.mem_append_right _ (List.mem_of_getElem? (i := 453) (by decide +kernel))) rfl
abbrev mw_WR_copy : List Cond := Cond.code y_WR_copy b_WR_copy 4 none :: lw_g
theorem hd_WR_copy : y_WR_copy.cls = R_WR ∧ y_WR_copy.cls ≠ "java/lang/invoke/MethodHandle" ∧ y_WR_copy.cls ≠ "java/lang/invoke/VarHandle" ∧ (parseMethodDescriptor y_WR_copy.desc).map (fun d => d.parameters.length) = some 2 := by decide +kernel
theorem d_WR_copy_0 : decode b_WR_copy 0 = .ok (.iload_n 2, 1) := by decide +kernel
theorem d_WR_copy_1 : decode b_WR_copy 1 = .ok (.iload_n 1, 1) := by decide +kernel
theorem d_WR_copy_2 : decode b_WR_copy 2 = .ok (.isub, 1) := by decide +kernel
theorem d_WR_copy_3 : decode b_WR_copy 3 = .ok (.istore_n 3, 1) := by decide +kernel
theorem d_WR_copy_4 : decode b_WR_copy 4 = .ok (.aload_n 0, 1) := by decide +kernel
theorem d_WR_copy_5 : decode b_WR_copy 5 = .ok (.getfield 29, 3) := by decide +kernel
theorem d_WR_copy_8 : decode b_WR_copy 8 = .ok (.ifCond .ne 30, 3) := by decide +kernel
theorem d_WR_copy_11 : decode b_WR_copy 11 = .ok (.iload_n 1, 1) := by decide +kernel
theorem d_WR_copy_12 : decode b_WR_copy 12 = .ok (.ifCond .lt 26, 3) := by decide +kernel
theorem d_WR_copy_15 : decode b_WR_copy 15 = .ok (.iload_n 3, 1) := by decide +kernel
theorem d_WR_copy_16 : decode b_WR_copy 16 = .ok (.ifCond .lt 22, 3) := by decide +kernel
theorem d_WR_copy_19 : decode b_WR_copy 19 = .ok (.iload_n 2, 1) := by decide +kernel
theorem d_WR_copy_20 : decode b_WR_copy 20 = .ok (.ldc 19, 2) := by decide +kernel
theorem d_WR_copy_22 : decode b_WR_copy 22 = .ok (.if_icmp .gt 16, 3) := by decide +kernel
theorem d_WR_copy_25 : decode b_WR_copy 25 = .ok (.iload_n 3, 1) := by decide +kernel
theorem d_WR_copy_26 : decode b_WR_copy 26 = .ok (.aload_n 0, 1) := by decide +kernel
theorem d_WR_copy_27 : decode b_WR_copy 27 = .ok (.getfield 26, 3) := by decide +kernel
theorem d_WR_copy_30 : decode b_WR_copy 30 = .ok (.aload_n 0, 1) := by decide +kernel
theorem d_WR_copy_31 : decode b_WR_copy 31 = .ok (.getfield 15, 3) := by decide +kernel
theorem d_WR_copy_34 : decode b_WR_copy 34 = .ok (.isub, 1) := by decide +kernel
theorem d_WR_copy_35 : decode b_WR_copy 35 = .ok (.if_icmp .le 9, 3) := by decide +kernel
theorem d_WR_copy_38 : decode b_WR_copy 38 = .ok (.aload_n 0, 1) := by decide +kernel
theorem d_WR_copy_39 : decode b_WR_copy 39 = .ok (.iconst 1, 1) := by decide +kernel
theorem d_WR_copy_40 : decode b_WR_copy 40 = .ok (.putfield 29, 3) := by decide +kernel
theorem d_WR_copy_43 : decode b_WR_copy 43 = .ok (.return_, 1) := by decide +kernel
theorem d_WR_copy_44 : decode b_WR_copy 44 = .ok (.aload_n 0, 1) := by decide +kernel
theorem d_WR_copy_45 : decode b_WR_copy 45 = .ok (.getfield 9, 3) := by decide +kernel
theorem d_WR_copy_48 : decode b_WR_copy 48 = .ok (.getfield 33, 3) := by decide +kernel
theorem d_WR_copy_51 : decode b_WR_copy 51 = .ok (.iload_n 1, 1) := by decide +kernel
theorem d_WR_copy_52 : decode b_WR_copy 52 = .ok (.aload_n 0, 1) := by decide +kernel
theorem d_WR_copy_53 : decode b_WR_copy 53 = .ok (.getfield 9, 3) := by decide +kernel
theorem d_WR_copy_56 : decode b_WR_copy 56 = .ok (.getfield 33, 3) := by decide +kernel
theorem d_WR_copy_59 : decode b_WR_copy 59 = .ok (.aload_n 0, 1) := by decide +kernel
theorem d_WR_copy_60 : decode b_WR_copy 60 = .ok (.getfield 15, 3) := by decide +kernel
theorem d_WR_copy_63 : decode b_WR_copy 63 = .ok (.iload_n 3, 1) := by decide +kernel
theorem d_WR_copy_64 : decode b_WR_copy 64 = .ok (.invokestatic 39, 3) := by decide +kernel
theorem d_WR_copy_67 : decode b_WR_copy 67 = .ok (.aload_n 0, 1) := by decide +kernel
theorem d_WR_copy_68 : decode b_WR_copy 68 = .ok (.dup, 1) := by decide +kernel
theorem d_WR_copy_69 : decode b_WR_copy 69 = .ok (.getfield 15, 3) := by decide +kernel
theorem d_WR_copy_72 : decode b_WR_copy 72 = .ok (.iload_n 3, 1) := by decide +kernel
theorem d_WR_copy_73 : decode b_WR_copy 73 = .ok (.iadd, 1) := by decide +kernel
theorem d_WR_copy_74 : decode b_WR_copy 74 = .ok (.putfield 15, 3) := by decide +kernel
theorem d_WR_copy_77 : decode b_WR_copy 77 = .ok (.return_, 1) := by decide +kernel
abbrev b_WR_open : ByteArray := prog_11_method_5_code
def y_WR_open : MethodName := ⟨R_WR, "open", "()I"⟩
theorem kc_WR_open : Cond.code y_WR_open b_WR_open 3 (some .int) ∈ lw_g := lw_gm (List.mem_append_right _ (List.mem_of_getElem? (i := 600) (by decide +kernel))) rfl
abbrev mw_WR_open : List Cond := Cond.code y_WR_open b_WR_open 3 (some .int) :: lw_g
theorem hd_WR_open : y_WR_open.cls = R_WR ∧ y_WR_open.cls ≠ "java/lang/invoke/MethodHandle" ∧ y_WR_open.cls ≠ "java/lang/invoke/VarHandle" ∧ (parseMethodDescriptor y_WR_open.desc).map (fun d => d.parameters.length) = some 0 := by decide +kernel
theorem d_WR_open_0 : decode b_WR_open 0 = .ok (.aload_n 0, 1) := by decide +kernel
theorem d_WR_open_1 : decode b_WR_open 1 = .ok (.getfield 15, 3) := by decide +kernel
theorem d_WR_open_4 : decode b_WR_open 4 = .ok (.istore_n 1, 1) := by decide +kernel
theorem d_WR_open_5 : decode b_WR_open 5 = .ok (.iconst 0, 1) := by decide +kernel
theorem d_WR_open_6 : decode b_WR_open 6 = .ok (.istore_n 2, 1) := by decide +kernel
theorem d_WR_open_7 : decode b_WR_open 7 = .ok (.iload_n 2, 1) := by decide +kernel
theorem d_WR_open_8 : decode b_WR_open 8 = .ok (.iconst 4, 1) := by decide +kernel
theorem d_WR_open_9 : decode b_WR_open 9 = .ok (.if_icmp .ge 14, 3) := by decide +kernel
theorem d_WR_open_12 : decode b_WR_open 12 = .ok (.aload_n 0, 1) := by decide +kernel
theorem d_WR_open_13 : decode b_WR_open 13 = .ok (.iconst 0, 1) := by decide +kernel
theorem d_WR_open_14 : decode b_WR_open 14 = .ok (.invokevirtual 45, 3) := by decide +kernel
theorem d_WR_open_17 : decode b_WR_open 17 = .ok (.iinc 2 1, 3) := by decide +kernel
theorem d_WR_open_20 : decode b_WR_open 20 = .ok (.goto (-13), 3) := by decide +kernel
theorem d_WR_open_23 : decode b_WR_open 23 = .ok (.iload_n 1, 1) := by decide +kernel
theorem d_WR_open_24 : decode b_WR_open 24 = .ok (.ireturn, 1) := by decide +kernel
abbrev b_WR_resize : ByteArray := prog_11_method_7_code
def y_WR_resize : MethodName := ⟨R_WR, "resize", "(II)V"⟩
theorem kc_WR_resize : Cond.code y_WR_resize b_WR_resize 4 none ∈ lw_g := lw_gm (List.mem_append_right _ (List.mem_of_getElem? (i := 649) (by decide +kernel))) rfl
abbrev mw_WR_resize : List Cond := Cond.code y_WR_resize b_WR_resize 4 none :: lw_g
theorem hd_WR_resize : y_WR_resize.cls = R_WR ∧ y_WR_resize.cls ≠ "java/lang/invoke/MethodHandle" ∧ y_WR_resize.cls ≠ "java/lang/invoke/VarHandle" ∧ (parseMethodDescriptor y_WR_resize.desc).map (fun d => d.parameters.length) = some 2 := by decide +kernel
theorem d_WR_resize_0 : decode b_WR_resize 0 = .ok (.aload_n 0, 1) := by decide +kernel
theorem d_WR_resize_1 : decode b_WR_resize 1 = .ok (.getfield 29, 3) := by decide +kernel
theorem d_WR_resize_4 : decode b_WR_resize 4 = .ok (.ifCond .ne 17, 3) := by decide +kernel
theorem d_WR_resize_7 : decode b_WR_resize 7 = .ok (.iload_n 1, 1) := by decide +kernel
theorem d_WR_resize_8 : decode b_WR_resize 8 = .ok (.ifCond .lt 13, 3) := by decide +kernel
theorem d_WR_resize_11 : decode b_WR_resize 11 = .ok (.iload_n 1, 1) := by decide +kernel
theorem d_WR_resize_12 : decode b_WR_resize 12 = .ok (.aload_n 0, 1) := by decide +kernel
theorem d_WR_resize_13 : decode b_WR_resize 13 = .ok (.getfield 26, 3) := by decide +kernel
theorem d_WR_resize_16 : decode b_WR_resize 16 = .ok (.iconst 4, 1) := by decide +kernel
theorem d_WR_resize_17 : decode b_WR_resize 17 = .ok (.isub, 1) := by decide +kernel
theorem d_WR_resize_18 : decode b_WR_resize 18 = .ok (.if_icmp .le 4, 3) := by decide +kernel
theorem d_WR_resize_21 : decode b_WR_resize 21 = .ok (.return_, 1) := by decide +kernel
theorem d_WR_resize_22 : decode b_WR_resize 22 = .ok (.iconst 0, 1) := by decide +kernel
theorem d_WR_resize_23 : decode b_WR_resize 23 = .ok (.istore_n 3, 1) := by decide +kernel
theorem d_WR_resize_24 : decode b_WR_resize 24 = .ok (.iload_n 3, 1) := by decide +kernel
theorem d_WR_resize_25 : decode b_WR_resize 25 = .ok (.iconst 4, 1) := by decide +kernel
theorem d_WR_resize_26 : decode b_WR_resize 26 = .ok (.if_icmp .ge 27, 3) := by decide +kernel
theorem d_WR_resize_29 : decode b_WR_resize 29 = .ok (.aload_n 0, 1) := by decide +kernel
theorem d_WR_resize_30 : decode b_WR_resize 30 = .ok (.getfield 9, 3) := by decide +kernel
theorem d_WR_resize_33 : decode b_WR_resize 33 = .ok (.getfield 33, 3) := by decide +kernel
theorem d_WR_resize_36 : decode b_WR_resize 36 = .ok (.iload_n 1, 1) := by decide +kernel
theorem d_WR_resize_37 : decode b_WR_resize 37 = .ok (.iload_n 3, 1) := by decide +kernel
theorem d_WR_resize_38 : decode b_WR_resize 38 = .ok (.iadd, 1) := by decide +kernel
theorem d_WR_resize_39 : decode b_WR_resize 39 = .ok (.iload_n 2, 1) := by decide +kernel
theorem d_WR_resize_40 : decode b_WR_resize 40 = .ok (.bipush 8, 2) := by decide +kernel
theorem d_WR_resize_42 : decode b_WR_resize 42 = .ok (.iload_n 3, 1) := by decide +kernel
theorem d_WR_resize_43 : decode b_WR_resize 43 = .ok (.imul, 1) := by decide +kernel
theorem d_WR_resize_44 : decode b_WR_resize 44 = .ok (.ishr, 1) := by decide +kernel
theorem d_WR_resize_45 : decode b_WR_resize 45 = .ok (.i2b, 1) := by decide +kernel
theorem d_WR_resize_46 : decode b_WR_resize 46 = .ok (.bastore, 1) := by decide +kernel
theorem d_WR_resize_47 : decode b_WR_resize 47 = .ok (.iinc 3 1, 3) := by decide +kernel
theorem d_WR_resize_50 : decode b_WR_resize 50 = .ok (.goto (-26), 3) := by decide +kernel
theorem d_WR_resize_53 : decode b_WR_resize 53 = .ok (.return_, 1) := by decide +kernel
abbrev b_WR_close : ByteArray := prog_11_method_6_code
def y_WR_close : MethodName := ⟨R_WR, "close", "(I)V"⟩
theorem kc_WR_close : Cond.code y_WR_close b_WR_close 2 none ∈ lw_g := lw_gm (List.mem_append_right _ (List.mem_of_getElem? (i := 645) (by decide +kernel))) rfl
abbrev mw_WR_close : List Cond := Cond.code y_WR_close b_WR_close 2 none :: lw_g
theorem hd_WR_close : y_WR_close.cls = R_WR ∧ y_WR_close.cls ≠ "java/lang/invoke/MethodHandle" ∧ y_WR_close.cls ≠ "java/lang/invoke/VarHandle" ∧ (parseMethodDescriptor y_WR_close.desc).map (fun d => d.parameters.length) = some 1 := by decide +kernel
theorem d_WR_close_0 : decode b_WR_close 0 = .ok (.aload_n 0, 1) := by decide +kernel
theorem d_WR_close_1 : decode b_WR_close 1 = .ok (.iconst 0, 1) := by decide +kernel
theorem d_WR_close_2 : decode b_WR_close 2 = .ok (.invokevirtual 45, 3) := by decide +kernel
theorem d_WR_close_5 : decode b_WR_close 5 = .ok (.aload_n 0, 1) := by decide +kernel
theorem d_WR_close_6 : decode b_WR_close 6 = .ok (.iload_n 1, 1) := by decide +kernel
theorem d_WR_close_7 : decode b_WR_close 7 = .ok (.aload_n 0, 1) := by decide +kernel
theorem d_WR_close_8 : decode b_WR_close 8 = .ok (.getfield 15, 3) := by decide +kernel
theorem d_WR_close_11 : decode b_WR_close 11 = .ok (.iload_n 1, 1) := by decide +kernel
theorem d_WR_close_12 : decode b_WR_close 12 = .ok (.isub, 1) := by decide +kernel
theorem d_WR_close_13 : decode b_WR_close 13 = .ok (.invokevirtual 49, 3) := by decide +kernel
theorem d_WR_close_16 : decode b_WR_close 16 = .ok (.return_, 1) := by decide +kernel
abbrev b_WR_name : ByteArray := prog_11_method_8_code
def y_WR_name : MethodName := ⟨R_WR, "name", "(III)V"⟩
theorem kc_WR_name : Cond.code y_WR_name b_WR_name 4 none ∈ lw_g := lw_gm (List.mem_append_right _ (List.mem_of_getElem? (i := 655) (by decide +kernel))) rfl
abbrev mw_WR_name : List Cond := Cond.code y_WR_name b_WR_name 4 none :: lw_g
theorem hd_WR_name : y_WR_name.cls = R_WR ∧ y_WR_name.cls ≠ "java/lang/invoke/MethodHandle" ∧ y_WR_name.cls ≠ "java/lang/invoke/VarHandle" ∧ (parseMethodDescriptor y_WR_name.desc).map (fun d => d.parameters.length) = some 3 := by decide +kernel
theorem d_WR_name_0 : decode b_WR_name 0 = .ok (.aload_n 0, 1) := by decide +kernel
theorem d_WR_name_1 : decode b_WR_name 1 = .ok (.iload_n 1, 1) := by decide +kernel
theorem d_WR_name_2 : decode b_WR_name 2 = .ok (.invokevirtual 45, 3) := by decide +kernel
theorem d_WR_name_5 : decode b_WR_name 5 = .ok (.aload_n 0, 1) := by decide +kernel
theorem d_WR_name_6 : decode b_WR_name 6 = .ok (.iload_n 2, 1) := by decide +kernel
theorem d_WR_name_7 : decode b_WR_name 7 = .ok (.iload_n 3, 1) := by decide +kernel
theorem d_WR_name_8 : decode b_WR_name 8 = .ok (.invokevirtual 53, 3) := by decide +kernel
theorem d_WR_name_11 : decode b_WR_name 11 = .ok (.aload_n 0, 1) := by decide +kernel
theorem d_WR_name_12 : decode b_WR_name 12 = .ok (.iconst 0, 1) := by decide +kernel
theorem d_WR_name_13 : decode b_WR_name 13 = .ok (.invokevirtual 45, 3) := by decide +kernel
theorem d_WR_name_16 : decode b_WR_name 16 = .ok (.return_, 1) := by decide +kernel
abbrev b_WR_index : ByteArray := prog_11_method_9_code
def y_WR_index : MethodName := ⟨R_WR, "index", "(II)V"⟩
theorem kc_WR_index : Cond.code y_WR_index b_WR_index 4 none ∈ lw_g := lw_gm (List.mem_append_right _ (List.mem_of_getElem? (i := 638) (by decide +kernel))) rfl
abbrev mw_WR_index : List Cond := Cond.code y_WR_index b_WR_index 4 none :: lw_g
theorem hd_WR_index : y_WR_index.cls = R_WR ∧ y_WR_index.cls ≠ "java/lang/invoke/MethodHandle" ∧ y_WR_index.cls ≠ "java/lang/invoke/VarHandle" ∧ (parseMethodDescriptor y_WR_index.desc).map (fun d => d.parameters.length) = some 2 := by decide +kernel
theorem d_WR_index_0 : decode b_WR_index 0 = .ok (.aload_n 0, 1) := by decide +kernel
theorem d_WR_index_1 : decode b_WR_index 1 = .ok (.iload_n 1, 1) := by decide +kernel
theorem d_WR_index_2 : decode b_WR_index 2 = .ok (.invokevirtual 45, 3) := by decide +kernel
theorem d_WR_index_5 : decode b_WR_index 5 = .ok (.sipush 1000, 3) := by decide +kernel
theorem d_WR_index_8 : decode b_WR_index 8 = .ok (.istore_n 3, 1) := by decide +kernel
theorem d_WR_index_9 : decode b_WR_index 9 = .ok (.iload_n 3, 1) := by decide +kernel
theorem d_WR_index_10 : decode b_WR_index 10 = .ok (.ifCond .le 34, 3) := by decide +kernel
theorem d_WR_index_13 : decode b_WR_index 13 = .ok (.iload_n 2, 1) := by decide +kernel
theorem d_WR_index_14 : decode b_WR_index 14 = .ok (.iload_n 3, 1) := by decide +kernel
theorem d_WR_index_15 : decode b_WR_index 15 = .ok (.if_icmp .ge 8, 3) := by decide +kernel
theorem d_WR_index_18 : decode b_WR_index 18 = .ok (.iload_n 3, 1) := by decide +kernel
theorem d_WR_index_19 : decode b_WR_index 19 = .ok (.iconst 1, 1) := by decide +kernel
theorem d_WR_index_20 : decode b_WR_index 20 = .ok (.if_icmp .ne 16, 3) := by decide +kernel
theorem d_WR_index_23 : decode b_WR_index 23 = .ok (.aload_n 0, 1) := by decide +kernel
theorem d_WR_index_24 : decode b_WR_index 24 = .ok (.bipush 48, 2) := by decide +kernel
theorem d_WR_index_26 : decode b_WR_index 26 = .ok (.iload_n 2, 1) := by decide +kernel
theorem d_WR_index_27 : decode b_WR_index 27 = .ok (.iload_n 3, 1) := by decide +kernel
theorem d_WR_index_28 : decode b_WR_index 28 = .ok (.idiv, 1) := by decide +kernel
theorem d_WR_index_29 : decode b_WR_index 29 = .ok (.bipush 10, 2) := by decide +kernel
theorem d_WR_index_31 : decode b_WR_index 31 = .ok (.irem, 1) := by decide +kernel
theorem d_WR_index_32 : decode b_WR_index 32 = .ok (.iadd, 1) := by decide +kernel
theorem d_WR_index_33 : decode b_WR_index 33 = .ok (.invokevirtual 45, 3) := by decide +kernel
theorem d_WR_index_36 : decode b_WR_index 36 = .ok (.iload_n 3, 1) := by decide +kernel
theorem d_WR_index_37 : decode b_WR_index 37 = .ok (.bipush 10, 2) := by decide +kernel
theorem d_WR_index_39 : decode b_WR_index 39 = .ok (.idiv, 1) := by decide +kernel
theorem d_WR_index_40 : decode b_WR_index 40 = .ok (.istore_n 3, 1) := by decide +kernel
theorem d_WR_index_41 : decode b_WR_index 41 = .ok (.goto (-32), 3) := by decide +kernel
theorem d_WR_index_44 : decode b_WR_index 44 = .ok (.aload_n 0, 1) := by decide +kernel
theorem d_WR_index_45 : decode b_WR_index 45 = .ok (.iconst 0, 1) := by decide +kernel
theorem d_WR_index_46 : decode b_WR_index 46 = .ok (.invokevirtual 45, 3) := by decide +kernel
theorem d_WR_index_49 : decode b_WR_index 49 = .ok (.return_, 1) := by decide +kernel
abbrev b_WR_whole64 : ByteArray := prog_11_method_10_code
def y_WR_whole64 : MethodName := ⟨R_WR, "whole64", "(J)V"⟩
theorem kc_WR_whole64 : Cond.code y_WR_whole64 b_WR_whole64 4 none ∈ lw_g := lw_gm (List.mem_append_right _ (List.mem_of_getElem? (i := 830) (by decide +kernel))) rfl
abbrev mw_WR_whole64 : List Cond := Cond.code y_WR_whole64 b_WR_whole64 4 none :: lw_g
theorem hd_WR_whole64 : y_WR_whole64.cls = R_WR ∧ y_WR_whole64.cls ≠ "java/lang/invoke/MethodHandle" ∧ y_WR_whole64.cls ≠ "java/lang/invoke/VarHandle" ∧ (parseMethodDescriptor y_WR_whole64.desc).map (fun d => d.parameters.length) = some 1 := by decide +kernel
theorem d_WR_whole64_0 : decode b_WR_whole64 0 = .ok (.iconst 0, 1) := by decide +kernel
theorem d_WR_whole64_1 : decode b_WR_whole64 1 = .ok (.istore_n 3, 1) := by decide +kernel
theorem d_WR_whole64_2 : decode b_WR_whole64 2 = .ok (.iload_n 3, 1) := by decide +kernel
theorem d_WR_whole64_3 : decode b_WR_whole64 3 = .ok (.bipush 64, 2) := by decide +kernel
theorem d_WR_whole64_5 : decode b_WR_whole64 5 = .ok (.if_icmp .ge 17, 3) := by decide +kernel
theorem d_WR_whole64_8 : decode b_WR_whole64 8 = .ok (.aload_n 0, 1) := by decide +kernel
theorem d_WR_whole64_9 : decode b_WR_whole64 9 = .ok (.lload_n 1, 1) := by decide +kernel
theorem d_WR_whole64_10 : decode b_WR_whole64 10 = .ok (.iload_n 3, 1) := by decide +kernel
theorem d_WR_whole64_11 : decode b_WR_whole64 11 = .ok (.lshr, 1) := by decide +kernel
theorem d_WR_whole64_12 : decode b_WR_whole64 12 = .ok (.l2i, 1) := by decide +kernel
theorem d_WR_whole64_13 : decode b_WR_whole64 13 = .ok (.invokevirtual 45, 3) := by decide +kernel
theorem d_WR_whole64_16 : decode b_WR_whole64 16 = .ok (.iinc 3 8, 3) := by decide +kernel
theorem d_WR_whole64_19 : decode b_WR_whole64 19 = .ok (.goto (-17), 3) := by decide +kernel
theorem d_WR_whole64_22 : decode b_WR_whole64 22 = .ok (.return_, 1) := by decide +kernel
/-- a writer that isn't full stands within its limit, and that within the store -/
def w_ok (place limit : Int32) (full : Bool) : Prop := full = false → 0 ≤ place.toInt ∧ place.toInt ≤ limit.toInt ∧ limit.toInt ≤ 202000
theorem w_full {place limit : Int32} : w_ok place limit true := fun h => by cases h
theorem i_lt {a b : Int32} : a < b ↔ a.toInt < b.toInt := Int32.lt_iff_toInt_lt
theorem i_le {a b : Int32} : a ≤ b ↔ a.toInt ≤ b.toInt := Int32.le_iff_toInt_le
theorem i_nlt {a b : Int32} (h : ¬ a < b) : b.toInt ≤ a.toInt := by rw [i_lt] at h; omega
theorem i_nle {a b : Int32} (h : ¬ a ≤ b) : b.toInt < a.toInt := by rw [i_le] at h; omega
theorem i_lo (x : Int32) : -2147483648 ≤ x.toInt := Int32.le_toInt x
theorem i_hi (x : Int32) : x.toInt < 2147483648 := Int32.toInt_lt x
theorem i_cl {x : Int32} (h : 0 ≤ x.toInt) : (x.toNatClampNeg : Int) = x.toInt := Int.toNat_of_nonneg h
/-- and since a moment when its limit was L9, 'full' U9, and it stood at A9 or behind it: the limit is the same, full stays full, it stands at A9 or behind -/
def w_okr (L9 : Int32) (U9 : Bool) (A9 : Int32) (place limit : Int32) (full : Bool) : Prop := w_ok place limit full ∧ limit = L9 ∧ (full = false → U9 = false ∧ A9.toInt ≤ place.toInt)
theorem w_r {place limit : Int32} {full : Bool} (h : w_ok place limit full) : w_okr limit full place place limit full := ⟨h, rfl, fun e => ⟨e, Int.le_refl _⟩⟩
theorem w_sub {L0 A0 limit p l1 q : Int32} {F0 full f1 : Bool} (h : w_okr limit full q p l1 f1) (h0 : w_okr L0 F0 A0 q limit full) : w_okr L0 F0 A0 p l1 f1 := ⟨h.1, h.2.1.trans h0.2.1, fun e => ⟨(h0.2.2 (h.2.2 e).1).1, Int.le_trans (h0.2.2 (h.2.2 e).1).2 (h.2.2 e).2⟩⟩
theorem w_back {L0 A0 limit p l1 q : Int32} {F0 full f1 : Bool} (h : w_okr limit full q p l1 f1) (h0 : w_okr L0 F0 A0 q limit full) : w_okr L0 F0 A0 q l1 f1 := ⟨fun e => by rw [h.2.1]; exact h0.1 (h.2.2 e).1, h.2.1.trans h0.2.1, fun e => h0.2.2 (h.2.2 e).1⟩
theorem w_fullr {L0 A0 place limit : Int32} {F0 full : Bool} (h : w_okr L0 F0 A0 place limit full) : w_okr L0 F0 A0 place limit true := ⟨w_full, h.2.1, fun e => by cases e⟩
theorem w_cpr {L0 A0 place limit q : Int32} {F0 full : Bool} (h : w_okr L0 F0 A0 place limit full) (g : w_ok q limit full) (k : full = false → place.toInt ≤ q.toInt) : w_okr L0 F0 A0 q limit full := ⟨g, h.2.1, fun e => ⟨(h.2.2 e).1, Int.le_trans (h.2.2 e).2 (k e)⟩⟩
theorem w_in {place limit : Int32} {full : Bool} (hi : w_ok place limit full) (c1 : b2i full = 0) (c2 : place < limit) : vp_in place 202000 := by
  obtain ⟨h1, h2, h3⟩ := hi (b2i_0.mp c1)
  have := i_lt.mp c2
  rw [vp_in_iff]
  omega
theorem w_inc {place limit : Int32} {full : Bool} (hi : w_ok place limit full) (c1 : b2i full = 0) (c2 : place < limit) : w_ok (place + 1) limit full := by
  obtain ⟨h1, h2, h3⟩ := hi (b2i_0.mp c1)
  have := i_lt.mp c2
  have e : (place + 1).toInt = place.toInt + 1 := i_toInt1 c2
  intro _
  omega
theorem w_incr {L0 A0 place limit : Int32} {F0 full : Bool} (h : w_okr L0 F0 A0 place limit full) (c1 : b2i full = 0) (c2 : place < limit) : w_okr L0 F0 A0 (place + 1) limit full := w_cpr h (w_inc h.1 c1 c2) (fun _ => by rw [i_toInt1 c2]; omega)
theorem w_aim {p0 p1 : Int32} (ha : p0.toInt ≤ 202000 ∧ 0 ≤ p1.toInt ∧ p1.toInt ≤ 202000) (c : 0 ≤ p0) : w_ok p0 (if 202000 < (p0 + p1) then 202000 else (p0 + p1)) false := by
  intro _
  have h := i_le.mp c
  have z : (0 : Int32).toInt = 0 := rfl
  have y : (202000 : Int32).toInt = 202000 := rfl
  have e : (p0 + p1).toInt = p0.toInt + p1.toInt := i_add (by omega) (by omega)
  split
  · omega
  · rename_i q
    have := i_nlt q
    omega
theorem w_cp {place limit p0 p1 : Int32} {full : Bool} (hi : w_ok place limit full) (hc : p0.toInt ≤ 1073741824 ∨ -1 ≤ p1.toInt) (c0 : b2i full = 0) (c1 : ¬ p0 < 0) (c2 : ¬ p1 - p0 < 0) (c3 : ¬ 202000 < p1) (c4 : p1 - p0 ≤ limit - place) : p0.toNatClampNeg + (p1 - p0).toNatClampNeg ≤ 202000 ∧ place.toNatClampNeg + (p1 - p0).toNatClampNeg ≤ 202000 ∧ (w_ok (place + (p1 - p0)) limit full ∧ place.toInt ≤ (place + (p1 - p0)).toInt) ∧ ¬ place < 0 := by
  obtain ⟨h1, h2, h3⟩ := hi (b2i_0.mp c0)
  have a1 := i_nn c1
  have a2 := i_nn c2
  have a3 := i_nlt c3
  have y : (202000 : Int32).toInt = 202000 := rfl
  have z : (0 : Int32).toInt = 0 := rfl
  have a4 := i_le.mp c4
  have e0 : (limit - place).toInt = limit.toInt - place.toInt := i_sub (by omega) (by omega)
  rw [e0] at a4
  have b1 := i_lo p1
  have b2 := i_hi p0
  have e : (p1 - p0).toInt = p1.toInt - p0.toInt := by
    by_cases q : -2147483648 ≤ p1.toInt - p0.toInt
    · exact i_sub q (by omega)
    · exfalso
      have e2 : (p1 - p0).toInt = (p1.toInt - p0.toInt).bmod (2 ^ 32) := Int32.toInt_sub p1 p0
      have e3 : (p1.toInt - p0.toInt).bmod (2 ^ 32) = p1.toInt - p0.toInt + 4294967296 := by
        rw [Int.bmod_def]
        have m : ((2 ^ 32 : Nat) : Int) = 4294967296 := by decide
        rw [m]
        split <;> omega
      omega
  have k1 := i_cl a1
  have k2 := i_cl a2
  have k3 := i_cl h1
  have e5 : (place + (p1 - p0)).toInt = place.toInt + (p1 - p0).toInt := i_add (by omega) (by omega)
  refine ⟨by omega, by omega, ⟨fun _ => by omega, by omega⟩, fun q => ?_⟩
  have := i_lt.mp q
  omega
theorem w_rs {place limit p0 x3 : Int32} {full : Bool} (hi : w_ok place limit full) (c0 : b2i full = 0) (c1 : ¬ p0 < 0) (c2 : p0 ≤ limit - 4) (c3 : ¬ x3 < 0) (c4 : ¬ 4 ≤ x3) : vp_in (p0 + x3) 202000 := by
  obtain ⟨h1, h2, h3⟩ := hi (b2i_0.mp c0)
  have a1 := i_nn c1
  have a2 := i_nn c3
  have a3 := i_nle c4
  have y : (4 : Int32).toInt = 4 := rfl
  have a4 := i_le.mp c2
  rw [i_sub (by omega) (by omega)] at a4
  rw [vp_in_iff, i_add (by omega) (by omega)]
  omega
theorem lp_upk {i b k : Int32} {n : Nat} (h : (b.toInt - i.toInt).toNat < n + 1) (c : ¬ b ≤ i) (hk : 0 < k.toInt) (hb : b.toInt + k.toInt < 2147483648) : (b.toInt - (i + k).toInt).toNat < n := by
  have c1 := i_nle c
  have h2 := i_lo i
  have e : (i + k).toInt = i.toInt + k.toInt := i_add (by omega) (by omega)
  rw [e]
  omega
theorem lp_d10 {x : Int32} {n : Nat} (h : x.toInt.toNat < n + 1) (c : ¬ x ≤ 0) : (x / 10).toInt.toNat < n := by
  have c1 := i_nle c
  have z : (0 : Int32).toInt = 0 := rfl
  obtain ⟨k, hk, e⟩ := nI_of (x := x) (fun q => by have := i_lt.mp q; omega)
  subst e
  rw [nI_toInt hk] at h c1
  have e : nI k / 10 = nI (k / 10) := pk_div (d := 10) hk (by decide) (by decide)
  rw [e, nI_toInt (by omega)]
  omega
theorem dv_ne {x : Int32} (c : ¬ x ≤ 0) : ¬ x = 0 := fun e => c (by rw [e]; decide)

abbrev wd_WR_octet (aW aS aB : Nat) (cB cI : ClassId) (place : Int32) (limit : Int32) (full : Bool) (b : Nat → UInt8) : va_W := [(aW, .inr (1, [.ref aS, .int place, .int limit, .int (b2i full)])), (aS, .inr (0, [.ref aB])), (aB, .inl (cB, 202000, .inl (by_ b)))]
set_option maxHeartbeats 4000000 in
set_option maxRecDepth 100000 in
theorem c_WR_octet (l : Launch) (D : va_G) (cB cI : ClassId) (aW aS aB : Nat) (L9 : Int32) (U9 : Bool) (A9 : Int32) (sz : Nat) (place : Int32) (limit : Int32) (full : Bool) (b : Nat → UInt8) (p0 : Int32) (hi : w_okr L9 U9 A9 place limit full) : Met l y_WR_octet mw_WR_octet { frames := 0, cells := 0, slots := 0, locals := 0 } (va_Pc [.ref aW, .int p0] (mt_P D cB cI (wd_WR_octet aW aS aB cB cI place limit full b) sz)) (va_Qv (fun (u : Int32 × Int32 × Bool × (Nat → UInt8)) => u = tw_WR_octet place limit full b p0 ∧ w_okr L9 U9 A9 u.1 u.2.1 u.2.2.1) (mt_B D (va_A (wd_WR_octet aW aS aB cB cI place limit full b) sz) (fun u => wd_WR_octet aW aS aB cB cI u.1 u.2.1 u.2.2.1 u.2.2.2)) (va_A (wd_WR_octet aW aS aB cB cI place limit full b) sz)) 0 0 (va_A (wd_WR_octet aW aS aB cB cI place limit full b) sz) := by
  refine Met.ofW (cc := b_WR_octet) (maxL := 2) (ret := none) (by decide) rfl ?_
  intro p e s m args below meth c s₁ B0 hml hv
  obtain ⟨rfl, hsz, hP, hk, hD0⟩ := hv
  have hK := hk.1
  have hN := hk.2.1
  have hx := B0.exec
  have hb := B0.bytes
  have hr := B0.returns
  have hT : ∀ w ∈ lw_g, w.before _ s = true := fun w h => atoms_spec (ws := mw_WR_octet) B0.pre w (List.mem_cons_of_mem _ h)
  have hown : s.vm.findClass R_WR = some m.cls := findClass_of_methodNamed B0.named
  have hlocks := B0.notSynchronized
  subst hsz
  have hD := hD0.self (sz := s.heap.size)
  generalize hAe : va_A [(aW, .inr (1, [.ref aS, .int place, .int limit, .int (b2i full)])), (aS, .inr (0, [.ref aB])), (aB, .inl (cB, 202000, .inl (by_ b)))] s.heap.size = A at hD ⊢
  have hA : ∀ q : Nat, s.heap.size ≤ q → A q := fun q h => by rw [← hAe]; exact Or.inr h
  have hS : va_S A s.heap s.heap [] := va_S.rf
  have hl := lv_entry ([.ref aW, .int p0]) (n := 2) (Nat.le_of_ble_eq_true rfl)
  rw [lg_entry_eq]
  generalize (lg_sl ([.ref aW, .int p0]) ++ List.replicate (2 - (lg_sl ([.ref aW, .int p0])).length) Slot.unset).toArray = ls at hl ⊢
  have hl : lv_has ls 2 [(0, .ref aW), (1, .int p0)] := hl
  refine lv_aload_n hx hb d_WR_octet_0 rfl (lv_at hl 0 rfl) ?_
  refine va_get (D := D) (ci := 1) (v := .int (b2i full)) (C := R_WR) (T := T_WR) (N := 4) hx hb hT u_WR hown hK hP 0 rfl rfl 3 (by decide) (hT _ k_71) (fun _ h9 => h9) rfl d_WR_octet_1 ?_
  refine lv_if_ne (tgt := 18) hx hb d_WR_octet_4 (by decide) (fun c_1 => ?_) (fun c_1 => ?_)
  · refine lv_aload_n hx hb d_WR_octet_18 rfl (lv_at hl 0 rfl) ?_
    refine lv_iconst (v := 1) hx hb d_WR_octet_19 (by decide) ?_
    refine va_put (D := D) (ci := 1) (v := .int 1) (ty := .boolean) (C := R_WR) (T := T_WR) (N := 4) hx hb hT u_WR ty_WR tyok_WR nm_WR hown hK hP hD hS 0 rfl rfl 3 (by decide) (hT _ k_71) (fun _ h9 => h9) rfl (by decide +kernel) (rfl) (rfl) (Nat.le_of_ble_eq_true rfl) d_WR_octet_20 (fun H locs hP hD hS => ?_)
    have hP : va_P D vwCl [(aW, .inr (1, [.ref aS, .int place, .int limit, .int 1])), (aS, .inr (0, [.ref aB])), (aB, .inl (cB, 202000, .inl (by_ b)))] H := hP
    have hD : va_D A [(aW, .inr (1, [.ref aS, .int place, .int limit, .int 1])), (aS, .inr (0, [.ref aB])), (aB, .inl (cB, 202000, .inl (by_ b)))] := hD
    exact W.vret hx hb hr (fun t ht hW => ⟨⟨(place, limit, true, b), rfl, ⟨(by rw [tw_WR_octet, if_neg c_1]; first | done | rfl), w_fullr hi⟩, by rw [ht]; exact hP, hD⟩, hS.F ht⟩) hS.2.2 d_WR_octet_23
  · refine lv_aload_n hx hb d_WR_octet_7 rfl (lv_at hl 0 rfl) ?_
    refine va_get (D := D) (ci := 1) (v := .int place) (C := R_WR) (T := T_WR) (N := 4) hx hb hT u_WR hown hK hP 0 rfl rfl 1 (by decide) (hT _ k_66) (fun _ h9 => h9) rfl d_WR_octet_8 ?_
    refine lv_aload_n hx hb d_WR_octet_11 rfl (lv_at hl 0 rfl) ?_
    refine va_get (D := D) (ci := 1) (v := .int limit) (C := R_WR) (T := T_WR) (N := 4) hx hb hT u_WR hown hK hP 0 rfl rfl 2 (by decide) (hT _ k_70) (fun _ h9 => h9) rfl d_WR_octet_12 ?_
    refine lv_icmp_lt (tgt := 24) hx hb d_WR_octet_15 (by decide) (fun c_2 => ?_) (fun c_2 => ?_)
    · refine lv_aload_n hx hb d_WR_octet_24 rfl (lv_at hl 0 rfl) ?_
      refine va_get (D := D) (ci := 1) (v := .ref aS) (C := R_WR) (T := T_WR) (N := 4) hx hb hT u_WR hown hK hP 0 rfl rfl 0 (by decide) (hT _ k_65) (fun _ h9 => h9) rfl d_WR_octet_25 ?_
      refine va_getN (D := D) (ci := 0) (v := .ref aB) (C := R_ST) (T := T_ST) (N := 1) hx hb hT u_ST hown hK hP 1 rfl rfl 0 (by decide) (va_Nw.use rfl (hN ("PipelineBelt$Writer", 33, "PipelineBelt$Store", "bytes", "[B", "PipelineBelt") (by decide))) (fun _ h9 => h9) rfl d_WR_octet_28 ?_
      refine lv_aload_n hx hb d_WR_octet_31 rfl (lv_at hl 0 rfl) ?_
      refine va_get (D := D) (ci := 1) (v := .int place) (C := R_WR) (T := T_WR) (N := 4) hx hb hT u_WR hown hK hP 0 rfl rfl 1 (by decide) (hT _ k_66) (fun _ h9 => h9) rfl d_WR_octet_32 ?_
      refine lv_iload_n hx hb d_WR_octet_35 rfl (lv_at hl 1 rfl) ?_
      refine lv_i2b (v := p0.toInt8.toInt32) hx hb d_WR_octet_36 rfl ?_
      refine va_bast hx hb hK hP hD hS 2 0 rfl rfl (w_in hi.1 c_1 c_2) d_WR_octet_37 (fun H locs hP hD hS => ?_)
      have hP : va_P D vwCl [(aW, .inr (1, [.ref aS, .int place, .int limit, .int (b2i full)])), (aS, .inr (0, [.ref aB])), (aB, .inl (cB, 202000, .inl (by_ (ub b place.toNatClampNeg p0.toInt8.toInt32))))] H := by rw [← by_upd]; exact hP
      have hD : va_D A [(aW, .inr (1, [.ref aS, .int place, .int limit, .int (b2i full)])), (aS, .inr (0, [.ref aB])), (aB, .inl (cB, 202000, .inl (by_ (ub b place.toNatClampNeg p0.toInt8.toInt32))))] := by rw [← by_upd]; exact hD
      refine lv_aload_n hx hb d_WR_octet_38 rfl (lv_at hl 0 rfl) ?_
      refine lv_dup hx hb d_WR_octet_39 rfl ?_
      refine va_get (D := D) (ci := 1) (v := .int place) (C := R_WR) (T := T_WR) (N := 4) hx hb hT u_WR hown hK hP 0 rfl rfl 1 (by decide) (hT _ k_66) (fun _ h9 => h9) rfl d_WR_octet_40 ?_
      refine lv_iconst (v := 1) hx hb d_WR_octet_43 (by decide) ?_
      refine lv_iadd hx hb d_WR_octet_44 ?_
      refine va_put (D := D) (ci := 1) (v := .int (place + 1)) (ty := .int) (C := R_WR) (T := T_WR) (N := 4) hx hb hT u_WR ty_WR tyok_WR nm_WR hown hK hP hD hS 0 rfl rfl 1 (by decide) (hT _ k_66) (fun _ h9 => h9) rfl (by decide +kernel) (rfl) (rfl) (Nat.le_of_ble_eq_true rfl) d_WR_octet_45 (fun H locs hP hD hS => ?_)
      have hP : va_P D vwCl [(aW, .inr (1, [.ref aS, .int (place + 1), .int limit, .int (b2i full)])), (aS, .inr (0, [.ref aB])), (aB, .inl (cB, 202000, .inl (by_ (ub b place.toNatClampNeg p0.toInt8.toInt32))))] H := hP
      have hD : va_D A [(aW, .inr (1, [.ref aS, .int (place + 1), .int limit, .int (b2i full)])), (aS, .inr (0, [.ref aB])), (aB, .inl (cB, 202000, .inl (by_ (ub b place.toNatClampNeg p0.toInt8.toInt32))))] := hD
      exact W.vret hx hb hr (fun t ht hW => ⟨⟨(place + 1, limit, full, ub b place.toNatClampNeg p0.toInt8.toInt32), rfl, ⟨(by rw [tw_WR_octet, if_pos c_1, if_pos c_2]; first | done | rfl), w_incr hi c_1 c_2⟩, by rw [ht]; exact hP, hD⟩, hS.F ht⟩) hS.2.2 d_WR_octet_48
    · refine lv_aload_n hx hb d_WR_octet_18 rfl (lv_at hl 0 rfl) ?_
      refine lv_iconst (v := 1) hx hb d_WR_octet_19 (by decide) ?_
      refine va_put (D := D) (ci := 1) (v := .int 1) (ty := .boolean) (C := R_WR) (T := T_WR) (N := 4) hx hb hT u_WR ty_WR tyok_WR nm_WR hown hK hP hD hS 0 rfl rfl 3 (by decide) (hT _ k_71) (fun _ h9 => h9) rfl (by decide +kernel) (rfl) (rfl) (Nat.le_of_ble_eq_true rfl) d_WR_octet_20 (fun H locs hP hD hS => ?_)
      have hP : va_P D vwCl [(aW, .inr (1, [.ref aS, .int place, .int limit, .int 1])), (aS, .inr (0, [.ref aB])), (aB, .inl (cB, 202000, .inl (by_ b)))] H := hP
      have hD : va_D A [(aW, .inr (1, [.ref aS, .int place, .int limit, .int 1])), (aS, .inr (0, [.ref aB])), (aB, .inl (cB, 202000, .inl (by_ b)))] := hD
      exact W.vret hx hb hr (fun t ht hW => ⟨⟨(place, limit, true, b), rfl, ⟨(by rw [tw_WR_octet, if_pos c_1, if_neg c_2]; first | done | rfl), w_fullr hi⟩, by rw [ht]; exact hP, hD⟩, hS.F ht⟩) hS.2.2 d_WR_octet_23
abbrev wd_WR_aim (aW aS : Nat) (cB cI : ClassId) (place : Int32) (limit : Int32) (full : Bool) : va_W := [(aW, .inr (1, [.ref aS, .int place, .int limit, .int (b2i full)]))]
set_option maxHeartbeats 4000000 in
set_option maxRecDepth 100000 in
theorem c_WR_aim (l : Launch) (D : va_G) (cB cI : ClassId) (aW aS : Nat) (sz : Nat) (place : Int32) (limit : Int32) (full : Bool) (p0 : Int32) (p1 : Int32) (ha : p0.toInt ≤ 202000 ∧ 0 ≤ p1.toInt ∧ p1.toInt ≤ 202000) : Met l y_WR_aim mw_WR_aim { frames := 1, cells := 0, slots := 0, locals := 14 } (va_Pc [.ref aW, .int p0, .int p1] (mt_P D cB cI (wd_WR_aim aW aS cB cI place limit full) sz)) (va_Qv (fun (u : Int32 × Int32 × Bool) => u = tw_WR_aim place limit full p0 p1 ∧ w_ok u.1 u.2.1 u.2.2) (mt_B D (va_A (wd_WR_aim aW aS cB cI place limit full) sz) (fun u => wd_WR_aim aW aS cB cI u.1 u.2.1 u.2.2)) (va_A (wd_WR_aim aW aS cB cI place limit full) sz)) 0 0 (va_A (wd_WR_aim aW aS cB cI place limit full) sz) := by
  refine Met.ofW (cc := b_WR_aim) (maxL := 3) (ret := none) (by decide) rfl ?_
  intro p e s m args below meth c s₁ B0 hml hv
  obtain ⟨rfl, hsz, hP, hk, hD0⟩ := hv
  have hK := hk.1
  have hN := hk.2.1
  have hx := B0.exec
  have hb := B0.bytes
  have hr := B0.returns
  have hT : ∀ w ∈ lw_g, w.before _ s = true := fun w h => atoms_spec (ws := mw_WR_aim) B0.pre w (List.mem_cons_of_mem _ h)
  have hown : s.vm.findClass R_WR = some m.cls := findClass_of_methodNamed B0.named
  have hlocks := B0.notSynchronized
  subst hsz
  have hD := hD0.self (sz := s.heap.size)
  generalize hAe : va_A [(aW, .inr (1, [.ref aS, .int place, .int limit, .int (b2i full)]))] s.heap.size = A at hD ⊢
  have hA : ∀ q : Nat, s.heap.size ≤ q → A q := fun q h => by rw [← hAe]; exact Or.inr h
  have hS : va_S A s.heap s.heap [] := va_S.rf
  have hl := lv_entry ([.ref aW, .int p0, .int p1]) (n := 3) (Nat.le_of_ble_eq_true rfl)
  rw [lg_entry_eq]
  generalize (lg_sl ([.ref aW, .int p0, .int p1]) ++ List.replicate (3 - (lg_sl ([.ref aW, .int p0, .int p1])).length) Slot.unset).toArray = ls at hl ⊢
  have hl : lv_has ls 3 [(0, .ref aW), (1, .int p0), (2, .int p1)] := hl
  refine lv_aload_n hx hb d_WR_aim_0 rfl (lv_at hl 0 rfl) ?_
  refine lv_iload_n hx hb d_WR_aim_1 rfl (lv_at hl 1 rfl) ?_
  refine va_put (D := D) (ci := 1) (v := .int p0) (ty := .int) (C := R_WR) (T := T_WR) (N := 4) hx hb hT u_WR ty_WR tyok_WR nm_WR hown hK hP hD hS 0 rfl rfl 1 (by decide) (hT _ k_66) (fun _ h9 => h9) rfl (by decide +kernel) (rfl) (rfl) (Nat.le_of_ble_eq_true rfl) d_WR_aim_2 (fun H locs hP hD hS => ?_)
  have hP : va_P D vwCl [(aW, .inr (1, [.ref aS, .int p0, .int limit, .int (b2i full)]))] H := hP
  have hD : va_D A [(aW, .inr (1, [.ref aS, .int p0, .int limit, .int (b2i full)]))] := hD
  refine lv_aload_n hx hb d_WR_aim_5 rfl (lv_at hl 0 rfl) ?_
  refine lv_iload_n hx hb d_WR_aim_6 rfl (lv_at hl 1 rfl) ?_
  refine lv_iload_n hx hb d_WR_aim_7 rfl (lv_at hl 2 rfl) ?_
  refine lv_iadd hx hb d_WR_aim_8 ?_
  refine lv_ldc (v := 202000) hx hb hown (hT _ k_448) d_WR_aim_9 ?_
  refine va_mmin hx hb (hml.trans hl.1.symm) hown (hT _ k_449) (hT _ k_410) (hT _ k_13) (hT _ kc_JM_min) (Nat.le_of_ble_eq_true rfl) (Nat.le_of_ble_eq_true rfl) (Nat.zero_le _) (Nat.zero_le _) d_WR_aim_11 ?_
  refine va_put (D := D) (ci := 1) (v := .int (if 202000 < (p0 + p1) then 202000 else (p0 + p1))) (ty := .int) (C := R_WR) (T := T_WR) (N := 4) hx hb hT u_WR ty_WR tyok_WR nm_WR hown hK hP hD hS 0 rfl rfl 2 (by decide) (hT _ k_70) (fun _ h9 => h9) rfl (by decide +kernel) (rfl) (rfl) (Nat.le_of_ble_eq_true rfl) d_WR_aim_14 (fun H locs hP hD hS => ?_)
  have hP : va_P D vwCl [(aW, .inr (1, [.ref aS, .int p0, .int (if 202000 < (p0 + p1) then 202000 else (p0 + p1)), .int (b2i full)]))] H := hP
  have hD : va_D A [(aW, .inr (1, [.ref aS, .int p0, .int (if 202000 < (p0 + p1) then 202000 else (p0 + p1)), .int (b2i full)]))] := hD
  refine lv_aload_n hx hb d_WR_aim_17 rfl (lv_at hl 0 rfl) ?_
  refine lv_iload_n hx hb d_WR_aim_18 rfl (lv_at hl 1 rfl) ?_
  refine lv_if_ge (tgt := 26) hx hb d_WR_aim_19 (by decide) (fun c_1 => ?_) (fun c_1 => ?_)
  · refine lv_iconst (v := 0) hx hb d_WR_aim_26 (by decide) ?_
    refine va_put (D := D) (ci := 1) (v := .int 0) (ty := .boolean) (C := R_WR) (T := T_WR) (N := 4) hx hb hT u_WR ty_WR tyok_WR nm_WR hown hK hP hD hS 0 rfl rfl 3 (by decide) (hT _ k_71) (fun _ h9 => h9) rfl (by decide +kernel) (rfl) (rfl) (Nat.le_of_ble_eq_true rfl) d_WR_aim_27 (fun H locs hP hD hS => ?_)
    have hP : va_P D vwCl [(aW, .inr (1, [.ref aS, .int p0, .int (if 202000 < (p0 + p1) then 202000 else (p0 + p1)), .int 0]))] H := hP
    have hD : va_D A [(aW, .inr (1, [.ref aS, .int p0, .int (if 202000 < (p0 + p1) then 202000 else (p0 + p1)), .int 0]))] := hD
    exact W.vret hx hb hr (fun t ht hW => ⟨⟨(p0, if 202000 < (p0 + p1) then 202000 else (p0 + p1), false), rfl, ⟨(by rw [tw_WR_aim, if_pos c_1]; first | done | rfl), w_aim ha c_1⟩, by rw [ht]; exact hP, hD⟩, hS.F ht⟩) hS.2.2 d_WR_aim_30
  · refine lv_iconst (v := 1) hx hb d_WR_aim_22 (by decide) ?_
    refine lv_goto (tgt := 27) hx hb d_WR_aim_23 (by decide) ?_
    refine va_put (D := D) (ci := 1) (v := .int 1) (ty := .boolean) (C := R_WR) (T := T_WR) (N := 4) hx hb hT u_WR ty_WR tyok_WR nm_WR hown hK hP hD hS 0 rfl rfl 3 (by decide) (hT _ k_71) (fun _ h9 => h9) rfl (by decide +kernel) (rfl) (rfl) (Nat.le_of_ble_eq_true rfl) d_WR_aim_27 (fun H locs hP hD hS => ?_)
    have hP : va_P D vwCl [(aW, .inr (1, [.ref aS, .int p0, .int (if 202000 < (p0 + p1) then 202000 else (p0 + p1)), .int 1]))] H := hP
    have hD : va_D A [(aW, .inr (1, [.ref aS, .int p0, .int (if 202000 < (p0 + p1) then 202000 else (p0 + p1)), .int 1]))] := hD
    exact W.vret hx hb hr (fun t ht hW => ⟨⟨(p0, if 202000 < (p0 + p1) then 202000 else (p0 + p1), true), rfl, ⟨(by rw [tw_WR_aim, if_neg c_1]; first | done | rfl), w_full⟩, by rw [ht]; exact hP, hD⟩, hS.F ht⟩) hS.2.2 d_WR_aim_30
abbrev wd_WR_copy (aW aS aB : Nat) (cB cI : ClassId) (place : Int32) (limit : Int32) (full : Bool) (b : Nat → UInt8) : va_W := [(aW, .inr (1, [.ref aS, .int place, .int limit, .int (b2i full)])), (aS, .inr (0, [.ref aB])), (aB, .inl (cB, 202000, .inl (by_ b)))]
set_option maxHeartbeats 4000000 in
set_option maxRecDepth 100000 in
theorem c_WR_copy (l : Launch) (D : va_G) (cB cI : ClassId) (aW aS aB : Nat) (L9 : Int32) (U9 : Bool) (A9 : Int32) (sz : Nat) (place : Int32) (limit : Int32) (full : Bool) (b : Nat → UInt8) (p0 : Int32) (p1 : Int32) (hc : p0.toInt ≤ 1073741824 ∨ -1 ≤ p1.toInt) (hi : w_okr L9 U9 A9 place limit full) : Met l y_WR_copy mw_WR_copy { frames := 1, cells := 0, slots := 0, locals := 60 } (va_Pc [.ref aW, .int p0, .int p1] (mt_P D cB cI (wd_WR_copy aW aS aB cB cI place limit full b) sz)) (va_Qv (fun (u : Int32 × Int32 × Bool × (Nat → UInt8)) => u = tw_WR_copy place limit full b p0 p1 ∧ w_okr L9 U9 A9 u.1 u.2.1 u.2.2.1) (mt_B D (va_A (wd_WR_copy aW aS aB cB cI place limit full b) sz) (fun u => wd_WR_copy aW aS aB cB cI u.1 u.2.1 u.2.2.1 u.2.2.2)) (va_A (wd_WR_copy aW aS aB cB cI place limit full b) sz)) 0 0 (va_A (wd_WR_copy aW aS aB cB cI place limit full b) sz) := by
  refine Met.ofW (cc := b_WR_copy) (maxL := 4) (ret := none) (by decide) rfl ?_
  intro p e s m args below meth c s₁ B0 hml hv
  obtain ⟨rfl, hsz, hP, hk, hD0⟩ := hv
  have hK := hk.1
  have hN := hk.2.1
  have hx := B0.exec
  have hb := B0.bytes
  have hr := B0.returns
  have hT : ∀ w ∈ lw_g, w.before _ s = true := fun w h => atoms_spec (ws := mw_WR_copy) B0.pre w (List.mem_cons_of_mem _ h)
  have hown : s.vm.findClass R_WR = some m.cls := findClass_of_methodNamed B0.named
  have hlocks := B0.notSynchronized
  subst hsz
  have hD := hD0.self (sz := s.heap.size)
  generalize hAe : va_A [(aW, .inr (1, [.ref aS, .int place, .int limit, .int (b2i full)])), (aS, .inr (0, [.ref aB])), (aB, .inl (cB, 202000, .inl (by_ b)))] s.heap.size = A at hD ⊢
  have hA : ∀ q : Nat, s.heap.size ≤ q → A q := fun q h => by rw [← hAe]; exact Or.inr h
  have hS : va_S A s.heap s.heap [] := va_S.rf
  have hl := lv_entry ([.ref aW, .int p0, .int p1]) (n := 4) (Nat.le_of_ble_eq_true rfl)
  rw [lg_entry_eq]
  generalize (lg_sl ([.ref aW, .int p0, .int p1]) ++ List.replicate (4 - (lg_sl ([.ref aW, .int p0, .int p1])).length) Slot.unset).toArray = ls at hl ⊢
  have hl : lv_has ls 4 [(0, .ref aW), (1, .int p0), (2, .int p1)] := hl
  refine lv_iload_n hx hb d_WR_copy_0 rfl (lv_at hl 2 rfl) ?_
  refine lv_iload_n hx hb d_WR_copy_1 rfl (lv_at hl 1 rfl) ?_
  refine lv_isub hx hb d_WR_copy_2 ?_
  refine lv_istore_n (lv' := [(3, .int (p1 - p0)), (0, .ref aW), (1, .int p0), (2, .int p1)]) hx hb d_WR_copy_3 rfl hl (by decide) rfl (fun ls hl => ?_)
  refine lv_aload_n hx hb d_WR_copy_4 rfl (lv_at hl 1 rfl) ?_
  refine va_get (D := D) (ci := 1) (v := .int (b2i full)) (C := R_WR) (T := T_WR) (N := 4) hx hb hT u_WR hown hK hP 0 rfl rfl 3 (by decide) (hT _ k_71) (fun _ h9 => h9) rfl d_WR_copy_5 ?_
  refine lv_if_ne (tgt := 38) hx hb d_WR_copy_8 (by decide) (fun c_1 => ?_) (fun c_1 => ?_)
  · refine lv_aload_n hx hb d_WR_copy_38 rfl (lv_at hl 1 rfl) ?_
    refine lv_iconst (v := 1) hx hb d_WR_copy_39 (by decide) ?_
    refine va_put (D := D) (ci := 1) (v := .int 1) (ty := .boolean) (C := R_WR) (T := T_WR) (N := 4) hx hb hT u_WR ty_WR tyok_WR nm_WR hown hK hP hD hS 0 rfl rfl 3 (by decide) (hT _ k_71) (fun _ h9 => h9) rfl (by decide +kernel) (rfl) (rfl) (Nat.le_of_ble_eq_true rfl) d_WR_copy_40 (fun H locs hP hD hS => ?_)
    have hP : va_P D vwCl [(aW, .inr (1, [.ref aS, .int place, .int limit, .int 1])), (aS, .inr (0, [.ref aB])), (aB, .inl (cB, 202000, .inl (by_ b)))] H := hP
    have hD : va_D A [(aW, .inr (1, [.ref aS, .int place, .int limit, .int 1])), (aS, .inr (0, [.ref aB])), (aB, .inl (cB, 202000, .inl (by_ b)))] := hD
    exact W.vret hx hb hr (fun t ht hW => ⟨⟨(place, limit, true, b), rfl, ⟨(by rw [tw_WR_copy, if_neg c_1]; first | done | rfl), w_fullr hi⟩, by rw [ht]; exact hP, hD⟩, hS.F ht⟩) hS.2.2 d_WR_copy_43
  · refine lv_iload_n hx hb d_WR_copy_11 rfl (lv_at hl 2 rfl) ?_
    refine lv_if_lt (tgt := 38) hx hb d_WR_copy_12 (by decide) (fun c_2 => ?_) (fun c_2 => ?_)
    · refine lv_aload_n hx hb d_WR_copy_38 rfl (lv_at hl 1 rfl) ?_
      refine lv_iconst (v := 1) hx hb d_WR_copy_39 (by decide) ?_
      refine va_put (D := D) (ci := 1) (v := .int 1) (ty := .boolean) (C := R_WR) (T := T_WR) (N := 4) hx hb hT u_WR ty_WR tyok_WR nm_WR hown hK hP hD hS 0 rfl rfl 3 (by decide) (hT _ k_71) (fun _ h9 => h9) rfl (by decide +kernel) (rfl) (rfl) (Nat.le_of_ble_eq_true rfl) d_WR_copy_40 (fun H locs hP hD hS => ?_)
      have hP : va_P D vwCl [(aW, .inr (1, [.ref aS, .int place, .int limit, .int 1])), (aS, .inr (0, [.ref aB])), (aB, .inl (cB, 202000, .inl (by_ b)))] H := hP
      have hD : va_D A [(aW, .inr (1, [.ref aS, .int place, .int limit, .int 1])), (aS, .inr (0, [.ref aB])), (aB, .inl (cB, 202000, .inl (by_ b)))] := hD
      exact W.vret hx hb hr (fun t ht hW => ⟨⟨(place, limit, true, b), rfl, ⟨(by rw [tw_WR_copy, if_pos c_1, if_pos c_2]; first | done | rfl), w_fullr hi⟩, by rw [ht]; exact hP, hD⟩, hS.F ht⟩) hS.2.2 d_WR_copy_43
    · refine lv_iload_n hx hb d_WR_copy_15 rfl (lv_at hl 0 rfl) ?_
      refine lv_if_lt (tgt := 38) hx hb d_WR_copy_16 (by decide) (fun c_3 => ?_) (fun c_3 => ?_)
      · refine lv_aload_n hx hb d_WR_copy_38 rfl (lv_at hl 1 rfl) ?_
        refine lv_iconst (v := 1) hx hb d_WR_copy_39 (by decide) ?_
        refine va_put (D := D) (ci := 1) (v := .int 1) (ty := .boolean) (C := R_WR) (T := T_WR) (N := 4) hx hb hT u_WR ty_WR tyok_WR nm_WR hown hK hP hD hS 0 rfl rfl 3 (by decide) (hT _ k_71) (fun _ h9 => h9) rfl (by decide +kernel) (rfl) (rfl) (Nat.le_of_ble_eq_true rfl) d_WR_copy_40 (fun H locs hP hD hS => ?_)
        have hP : va_P D vwCl [(aW, .inr (1, [.ref aS, .int place, .int limit, .int 1])), (aS, .inr (0, [.ref aB])), (aB, .inl (cB, 202000, .inl (by_ b)))] H := hP
        have hD : va_D A [(aW, .inr (1, [.ref aS, .int place, .int limit, .int 1])), (aS, .inr (0, [.ref aB])), (aB, .inl (cB, 202000, .inl (by_ b)))] := hD
        exact W.vret hx hb hr (fun t ht hW => ⟨⟨(place, limit, true, b), rfl, ⟨(by rw [tw_WR_copy, if_pos c_1, if_neg c_2, if_pos c_3]; first | done | rfl), w_fullr hi⟩, by rw [ht]; exact hP, hD⟩, hS.F ht⟩) hS.2.2 d_WR_copy_43
      · refine lv_iload_n hx hb d_WR_copy_19 rfl (lv_at hl 3 rfl) ?_
        refine lv_ldc (v := 202000) hx hb hown (hT _ k_448) d_WR_copy_20 ?_
        refine lv_icmp_gt (tgt := 38) hx hb d_WR_copy_22 (by decide) (fun c_4 => ?_) (fun c_4 => ?_)
        · refine lv_aload_n hx hb d_WR_copy_38 rfl (lv_at hl 1 rfl) ?_
          refine lv_iconst (v := 1) hx hb d_WR_copy_39 (by decide) ?_
          refine va_put (D := D) (ci := 1) (v := .int 1) (ty := .boolean) (C := R_WR) (T := T_WR) (N := 4) hx hb hT u_WR ty_WR tyok_WR nm_WR hown hK hP hD hS 0 rfl rfl 3 (by decide) (hT _ k_71) (fun _ h9 => h9) rfl (by decide +kernel) (rfl) (rfl) (Nat.le_of_ble_eq_true rfl) d_WR_copy_40 (fun H locs hP hD hS => ?_)
          have hP : va_P D vwCl [(aW, .inr (1, [.ref aS, .int place, .int limit, .int 1])), (aS, .inr (0, [.ref aB])), (aB, .inl (cB, 202000, .inl (by_ b)))] H := hP
          have hD : va_D A [(aW, .inr (1, [.ref aS, .int place, .int limit, .int 1])), (aS, .inr (0, [.ref aB])), (aB, .inl (cB, 202000, .inl (by_ b)))] := hD
          exact W.vret hx hb hr (fun t ht hW => ⟨⟨(place, limit, true, b), rfl, ⟨(by rw [tw_WR_copy, if_pos c_1, if_neg c_2, if_neg c_3, if_pos c_4]; first | done | rfl), w_fullr hi⟩, by rw [ht]; exact hP, hD⟩, hS.F ht⟩) hS.2.2 d_WR_copy_43
        · refine lv_iload_n hx hb d_WR_copy_25 rfl (lv_at hl 0 rfl) ?_
          refine lv_aload_n hx hb d_WR_copy_26 rfl (lv_at hl 1 rfl) ?_
          refine va_get (D := D) (ci := 1) (v := .int limit) (C := R_WR) (T := T_WR) (N := 4) hx hb hT u_WR hown hK hP 0 rfl rfl 2 (by decide) (hT _ k_70) (fun _ h9 => h9) rfl d_WR_copy_27 ?_
          refine lv_aload_n hx hb d_WR_copy_30 rfl (lv_at hl 1 rfl) ?_
          refine va_get (D := D) (ci := 1) (v := .int place) (C := R_WR) (T := T_WR) (N := 4) hx hb hT u_WR hown hK hP 0 rfl rfl 1 (by decide) (hT _ k_66) (fun _ h9 => h9) rfl d_WR_copy_31 ?_
          refine lv_isub hx hb d_WR_copy_34 ?_
          refine lv_icmp_le (tgt := 44) hx hb d_WR_copy_35 (by decide) (fun c_5 => ?_) (fun c_5 => ?_)
          · refine lv_aload_n hx hb d_WR_copy_44 rfl (lv_at hl 1 rfl) ?_
            refine va_get (D := D) (ci := 1) (v := .ref aS) (C := R_WR) (T := T_WR) (N := 4) hx hb hT u_WR hown hK hP 0 rfl rfl 0 (by decide) (hT _ k_65) (fun _ h9 => h9) rfl d_WR_copy_45 ?_
            refine va_getN (D := D) (ci := 0) (v := .ref aB) (C := R_ST) (T := T_ST) (N := 1) hx hb hT u_ST hown hK hP 1 rfl rfl 0 (by decide) (va_Nw.use rfl (hN ("PipelineBelt$Writer", 33, "PipelineBelt$Store", "bytes", "[B", "PipelineBelt") (by decide))) (fun _ h9 => h9) rfl d_WR_copy_48 ?_
            refine lv_iload_n hx hb d_WR_copy_51 rfl (lv_at hl 2 rfl) ?_
            refine lv_aload_n hx hb d_WR_copy_52 rfl (lv_at hl 1 rfl) ?_
            refine va_get (D := D) (ci := 1) (v := .ref aS) (C := R_WR) (T := T_WR) (N := 4) hx hb hT u_WR hown hK hP 0 rfl rfl 0 (by decide) (hT _ k_65) (fun _ h9 => h9) rfl d_WR_copy_53 ?_
            refine va_getN (D := D) (ci := 0) (v := .ref aB) (C := R_ST) (T := T_ST) (N := 1) hx hb hT u_ST hown hK hP 1 rfl rfl 0 (by decide) (va_Nw.use rfl (hN ("PipelineBelt$Writer", 33, "PipelineBelt$Store", "bytes", "[B", "PipelineBelt") (by decide))) (fun _ h9 => h9) rfl d_WR_copy_56 ?_
            refine lv_aload_n hx hb d_WR_copy_59 rfl (lv_at hl 1 rfl) ?_
            refine va_get (D := D) (ci := 1) (v := .int place) (C := R_WR) (T := T_WR) (N := 4) hx hb hT u_WR hown hK hP 0 rfl rfl 1 (by decide) (hT _ k_66) (fun _ h9 => h9) rfl d_WR_copy_60 ?_
            refine lv_iload_n hx hb d_WR_copy_63 rfl (lv_at hl 0 rfl) ?_
            refine va_copyi hx hb (hml.trans hl.1.symm) hown (hT _ k_454) (hT _ k_456) (hT _ k_455) (hT _ k_15) hK hP hD hS 2 2 0 0 rfl rfl rfl rfl rfl (c_2) ((w_cp hi.1 hc c_1 c_2 c_3 c_4 c_5).2.2.2) (c_3) ((w_cp hi.1 hc c_1 c_2 c_3 c_4 c_5).1) ((w_cp hi.1 hc c_1 c_2 c_3 c_4 c_5).2.1) (fun i _ => by_fit _ _) (Nat.le_of_ble_eq_true rfl) (Nat.le_of_ble_eq_true rfl) d_WR_copy_64 (fun H locs hP hD hS => ?_)
            have hP : va_P D vwCl [(aW, .inr (1, [.ref aS, .int place, .int limit, .int (b2i full)])), (aS, .inr (0, [.ref aB])), (aB, .inl (cB, 202000, .inl (by_ (va_cpy b b p0.toNatClampNeg place.toNatClampNeg (p1 - p0).toNatClampNeg))))] H := by rw [← by_cpy]; exact hP
            have hD : va_D A [(aW, .inr (1, [.ref aS, .int place, .int limit, .int (b2i full)])), (aS, .inr (0, [.ref aB])), (aB, .inl (cB, 202000, .inl (by_ (va_cpy b b p0.toNatClampNeg place.toNatClampNeg (p1 - p0).toNatClampNeg))))] := by rw [← by_cpy]; exact hD
            refine lv_aload_n hx hb d_WR_copy_67 rfl (lv_at hl 1 rfl) ?_
            refine lv_dup hx hb d_WR_copy_68 rfl ?_
            refine va_get (D := D) (ci := 1) (v := .int place) (C := R_WR) (T := T_WR) (N := 4) hx hb hT u_WR hown hK hP 0 rfl rfl 1 (by decide) (hT _ k_66) (fun _ h9 => h9) rfl d_WR_copy_69 ?_
            refine lv_iload_n hx hb d_WR_copy_72 rfl (lv_at hl 0 rfl) ?_
            refine lv_iadd hx hb d_WR_copy_73 ?_
            refine va_put (D := D) (ci := 1) (v := .int (place + (p1 - p0))) (ty := .int) (C := R_WR) (T := T_WR) (N := 4) hx hb hT u_WR ty_WR tyok_WR nm_WR hown hK hP hD hS 0 rfl rfl 1 (by decide) (hT _ k_66) (fun _ h9 => h9) rfl (by decide +kernel) (rfl) (rfl) (Nat.le_of_ble_eq_true rfl) d_WR_copy_74 (fun H locs hP hD hS => ?_)
            have hP : va_P D vwCl [(aW, .inr (1, [.ref aS, .int (place + (p1 - p0)), .int limit, .int (b2i full)])), (aS, .inr (0, [.ref aB])), (aB, .inl (cB, 202000, .inl (by_ (va_cpy b b p0.toNatClampNeg place.toNatClampNeg (p1 - p0).toNatClampNeg))))] H := hP
            have hD : va_D A [(aW, .inr (1, [.ref aS, .int (place + (p1 - p0)), .int limit, .int (b2i full)])), (aS, .inr (0, [.ref aB])), (aB, .inl (cB, 202000, .inl (by_ (va_cpy b b p0.toNatClampNeg place.toNatClampNeg (p1 - p0).toNatClampNeg))))] := hD
            exact W.vret hx hb hr (fun t ht hW => ⟨⟨(place + (p1 - p0), limit, full, va_cpy b b p0.toNatClampNeg place.toNatClampNeg (p1 - p0).toNatClampNeg), rfl, ⟨(by rw [tw_WR_copy, if_pos c_1, if_neg c_2, if_neg c_3, if_neg c_4, if_pos c_5]; first | done | rfl), w_cpr hi (w_cp hi.1 hc c_1 c_2 c_3 c_4 c_5).2.2.1.1 (fun _ => (w_cp hi.1 hc c_1 c_2 c_3 c_4 c_5).2.2.1.2)⟩, by rw [ht]; exact hP, hD⟩, hS.F ht⟩) hS.2.2 d_WR_copy_77
          · refine lv_aload_n hx hb d_WR_copy_38 rfl (lv_at hl 1 rfl) ?_
            refine lv_iconst (v := 1) hx hb d_WR_copy_39 (by decide) ?_
            refine va_put (D := D) (ci := 1) (v := .int 1) (ty := .boolean) (C := R_WR) (T := T_WR) (N := 4) hx hb hT u_WR ty_WR tyok_WR nm_WR hown hK hP hD hS 0 rfl rfl 3 (by decide) (hT _ k_71) (fun _ h9 => h9) rfl (by decide +kernel) (rfl) (rfl) (Nat.le_of_ble_eq_true rfl) d_WR_copy_40 (fun H locs hP hD hS => ?_)
            have hP : va_P D vwCl [(aW, .inr (1, [.ref aS, .int place, .int limit, .int 1])), (aS, .inr (0, [.ref aB])), (aB, .inl (cB, 202000, .inl (by_ b)))] H := hP
            have hD : va_D A [(aW, .inr (1, [.ref aS, .int place, .int limit, .int 1])), (aS, .inr (0, [.ref aB])), (aB, .inl (cB, 202000, .inl (by_ b)))] := hD
            exact W.vret hx hb hr (fun t ht hW => ⟨⟨(place, limit, true, b), rfl, ⟨(by rw [tw_WR_copy, if_pos c_1, if_neg c_2, if_neg c_3, if_neg c_4, if_neg c_5]; first | done | rfl), w_fullr hi⟩, by rw [ht]; exact hP, hD⟩, hS.F ht⟩) hS.2.2 d_WR_copy_43
abbrev wd_WR_open (aW aS aB : Nat) (cB cI : ClassId) (place : Int32) (limit : Int32) (full : Bool) (b : Nat → UInt8) : va_W := [(aW, .inr (1, [.ref aS, .int place, .int limit, .int (b2i full)])), (aS, .inr (0, [.ref aB])), (aB, .inl (cB, 202000, .inl (by_ b)))]
set_option maxHeartbeats 4000000 in
set_option maxRecDepth 100000 in
theorem l_WR_open_h7 {p : Program} {e : Env} {s : State} {m : MethodId} {args : Array Value} {below : List Frame} {meth : Method} {c : Code} {V : Int32 × Int32 × Int32 × Bool × (Nat → UInt8)} (C0 : lc_C p s m meth c args b_WR_open 3 (some .int) R_WR lw_g) (l : Launch) (D : va_G) (cB cI : ClassId) (aW aS aB : Nat) (L9 : Int32) (U9 : Bool) (A9 : Int32) {A : Nat → Prop} (hk : hk_ D cB cI s) (hA : ∀ q : Nat, s.heap.size ≤ q → A q) (x1 : Int32) : ∀ (n : Nat) (x2 : Int32) (place : Int32) (limit : Int32) (full : Bool) (b : Nat → UInt8), ((4 : Int32).toInt - x2.toInt).toNat < n → w_okr L9 U9 A9 place limit full → V = tw_WR_open_h7 x1 n x2 place limit full b → ∀ (H : Heap) (locs : List Loc), va_P D vwCl [(aW, .inr (1, [.ref aS, .int place, .int limit, .int (b2i full)])), (aS, .inr (0, [.ref aB])), (aB, .inl (cB, 202000, .inl (by_ b)))] H → va_D A [(aW, .inr (1, [.ref aS, .int place, .int limit, .int (b2i full)])), (aS, .inr (0, [.ref aB])), (aB, .inl (cB, 202000, .inl (by_ b)))] → va_S A s.heap H locs → ∀ ls : Array Slot, lv_has ls 3 [(0, .ref aW), (1, .int x1), (2, .int x2)] → W p l e ({ frames := 1, cells := 0, slots := 0, locals := 21 }) s m args below meth c H locs 0 0 (MQ below (va_Qi (fun (r : Int32) (u : Int32 × Int32 × Bool × (Nat → UInt8)) => (r, u) = V ∧ w_okr L9 U9 A9 u.1 u.2.1 u.2.2.1) (mt_B D A (fun u => wd_WR_open aW aS aB cB cI u.1 u.2.1 u.2.2.1 u.2.2.2)) A) args s 0 0 A) (F0 m 7 ls []) := by
  obtain ⟨hx, hb, hml, hr, hown, hlocks, hT⟩ := id C0
  have hK := hk.1
  have hN := hk.2.1
  intro n
  induction n with
  | zero =>
    intro x2 place limit full b hm
    exact absurd hm (Nat.not_lt_zero _)
  | succ n ih =>
    intro x2 place limit full b hm hi hV H locs hP hD hS ls hl
    refine lv_iload_n hx hb d_WR_open_7 rfl (lv_at hl 2 rfl) ?_
    refine lv_iconst (v := 4) hx hb d_WR_open_8 (by decide) ?_
    refine lv_icmp_ge (tgt := 23) hx hb d_WR_open_9 (by decide) (fun c_1 => ?_) (fun c_1 => ?_)
    · refine lv_iload_n hx hb d_WR_open_23 rfl (lv_at hl 1 rfl) ?_
      exact W.iret (v := x1) hx hb hr (fun t ht hW => ⟨⟨x1, (place, limit, full, b), rfl, ⟨(by rw [hV, tw_WR_open_h7, if_pos c_1]; first | done | rfl), hi⟩, by rw [ht]; exact hP, hD⟩, hS.F ht⟩) hS.2.2 d_WR_open_24
    · refine lv_aload_n hx hb d_WR_open_12 rfl (lv_at hl 0 rfl) ?_
      refine lv_iconst (v := 0) hx hb d_WR_open_13 (by decide) ?_
      refine mt_Vv (As := [.int 0]) (rest := []) (wr := []) ⟨hx, hb, hml, hown, hT⟩ (c_WR_octet l D cB cI aW aS aB L9 U9 A9 _ place limit full b 0 hi) (cwV 1 hT (gV_of k_601 k_602 k_603 k_5 kc_WR_octet) rfl rfl rfl hd_WR_octet ⟨Nat.le_of_ble_eq_true rfl, Nat.le_of_ble_eq_true rfl⟩) hk hP hD hS hA [0, 1, 2] [] rfl rfl rfl (by decide) (by decide) (by decide) (q0 := 0) rfl rfl rfl rfl hl.1 rfl (Nat.le_of_ble_eq_true rfl) d_WR_open_14 ⟨Nat.zero_le _, Nat.zero_le _⟩ (fun u_2 H locs hw_2 hP hD hS => ?_)
      obtain ⟨place_2, limit_2, full_2, b_2⟩ := u_2
      obtain ⟨hw_2, hi_2⟩ := hw_2
      have hP : va_P D vwCl [(aW, .inr (1, [.ref aS, .int place_2, .int limit_2, .int (b2i full_2)])), (aS, .inr (0, [.ref aB])), (aB, .inl (cB, 202000, .inl (by_ b_2)))] H := hP.sub [0, 1, 2] rfl
      have hD : va_D A [(aW, .inr (1, [.ref aS, .int place_2, .int limit_2, .int (b2i full_2)])), (aS, .inr (0, [.ref aB])), (aB, .inl (cB, 202000, .inl (by_ b_2)))] := hD.sub [0, 1, 2] (by decide) rfl
      refine lv_iinc (v := x2 + 1) (lv' := [(2, .int (x2 + 1)), (0, .ref aW), (1, .int x1)]) hx hb d_WR_open_17 hl (k := 2) rfl rfl (by decide) rfl (fun ls hl => ?_)
      refine lv_goto (tgt := 7) hx hb d_WR_open_20 (by decide) ?_
      exact ih (x2 + 1) place_2 limit_2 full_2 b_2 (lp_up hm c_1) (hi_2) (by rw [hV, tw_WR_open_h7, if_neg c_1, ← hw_2, tp4_mk]) _ _ hP hD hS ls (lv_sub hl [1, 2, 0] rfl)
set_option maxHeartbeats 4000000 in
set_option maxRecDepth 100000 in
theorem c_WR_open (l : Launch) (D : va_G) (cB cI : ClassId) (aW aS aB : Nat) (L9 : Int32) (U9 : Bool) (A9 : Int32) (sz : Nat) (place : Int32) (limit : Int32) (full : Bool) (b : Nat → UInt8) (hi : w_okr L9 U9 A9 place limit full) : Met l y_WR_open mw_WR_open { frames := 1, cells := 0, slots := 0, locals := 21 } (va_Pc [.ref aW] (mt_P D cB cI (wd_WR_open aW aS aB cB cI place limit full b) sz)) (va_Qi (fun (r : Int32) (u : Int32 × Int32 × Bool × (Nat → UInt8)) => (r, u) = tw_WR_open place limit full b ∧ w_okr L9 U9 A9 u.1 u.2.1 u.2.2.1) (mt_B D (va_A (wd_WR_open aW aS aB cB cI place limit full b) sz) (fun u => wd_WR_open aW aS aB cB cI u.1 u.2.1 u.2.2.1 u.2.2.2)) (va_A (wd_WR_open aW aS aB cB cI place limit full b) sz)) 0 0 (va_A (wd_WR_open aW aS aB cB cI place limit full b) sz) := by
  refine Met.ofW (cc := b_WR_open) (maxL := 3) (ret := (some .int)) (by decide) rfl ?_
  intro p e s m args below meth c s₁ B0 hml hv
  obtain ⟨rfl, hsz, hP, hk, hD0⟩ := hv
  have hK := hk.1
  have hN := hk.2.1
  have hx := B0.exec
  have hb := B0.bytes
  have hr := B0.returns
  have hT : ∀ w ∈ lw_g, w.before _ s = true := fun w h => atoms_spec (ws := mw_WR_open) B0.pre w (List.mem_cons_of_mem _ h)
  have hown : s.vm.findClass R_WR = some m.cls := findClass_of_methodNamed B0.named
  have hlocks := B0.notSynchronized
  subst hsz
  have hD := hD0.self (sz := s.heap.size)
  generalize hAe : va_A [(aW, .inr (1, [.ref aS, .int place, .int limit, .int (b2i full)])), (aS, .inr (0, [.ref aB])), (aB, .inl (cB, 202000, .inl (by_ b)))] s.heap.size = A at hD ⊢
  have hA : ∀ q : Nat, s.heap.size ≤ q → A q := fun q h => by rw [← hAe]; exact Or.inr h
  have hS : va_S A s.heap s.heap [] := va_S.rf
  have hl := lv_entry ([.ref aW]) (n := 3) (Nat.le_of_ble_eq_true rfl)
  rw [lg_entry_eq]
  generalize (lg_sl ([.ref aW]) ++ List.replicate (3 - (lg_sl ([.ref aW])).length) Slot.unset).toArray = ls at hl ⊢
  have hl : lv_has ls 3 [(0, .ref aW)] := hl
  have C0 : lc_C p s m meth c _ b_WR_open 3 (some .int) R_WR lw_g := ⟨hx, hb, hml, hr, hown, hlocks, hT⟩
  refine lv_aload_n hx hb d_WR_open_0 rfl (lv_at hl 0 rfl) ?_
  refine va_get (D := D) (ci := 1) (v := .int place) (C := R_WR) (T := T_WR) (N := 4) hx hb hT u_WR hown hK hP 0 rfl rfl 1 (by decide) (hT _ k_66) (fun _ h9 => h9) rfl d_WR_open_1 ?_
  refine lv_istore_n (lv' := [(1, .int place), (0, .ref aW)]) hx hb d_WR_open_4 rfl hl (by decide) rfl (fun ls hl => ?_)
  refine lv_iconst (v := 0) hx hb d_WR_open_5 (by decide) ?_
  refine lv_istore_n (lv' := [(2, .int 0), (1, .int place), (0, .ref aW)]) hx hb d_WR_open_6 rfl hl (by decide) rfl (fun ls hl => ?_)
  exact l_WR_open_h7 C0 l D cB cI aW aS aB L9 U9 A9 hk hA place  ((((4 : Int32).toInt - (0 : Int32).toInt).toNat) + 1) 0 place limit full b (Nat.lt_succ_self _) (hi) (by rw [tw_WR_open]) _ _ hP hD hS ls (lv_sub hl [2, 1, 0] rfl)
abbrev wd_WR_resize (aW aS aB : Nat) (cB cI : ClassId) (place : Int32) (limit : Int32) (full : Bool) (b : Nat → UInt8) : va_W := [(aW, .inr (1, [.ref aS, .int place, .int limit, .int (b2i full)])), (aS, .inr (0, [.ref aB])), (aB, .inl (cB, 202000, .inl (by_ b)))]
set_option maxHeartbeats 4000000 in
set_option maxRecDepth 100000 in
theorem l_WR_resize_h24 {p : Program} {e : Env} {s : State} {m : MethodId} {args : Array Value} {below : List Frame} {meth : Method} {c : Code} {V : Int32 × Int32 × Bool × (Nat → UInt8)} (C0 : lc_C p s m meth c args b_WR_resize 4 none R_WR lw_g) (l : Launch) (D : va_G) (cB cI : ClassId) (aW aS aB : Nat) (L9 : Int32) (U9 : Bool) (A9 : Int32) {A : Nat → Prop} (hk : hk_ D cB cI s) (hA : ∀ q : Nat, s.heap.size ≤ q → A q) (p0 : Int32) (p1 : Int32) (hf1 : ¬ p0 < 0) : ∀ (n : Nat) (x3 : Int32) (place : Int32) (limit : Int32) (full : Bool) (b : Nat → UInt8), ((4 : Int32).toInt - x3.toInt).toNat < n → ¬ x3 < 0 → p0 ≤ (limit - 4) → b2i full = 0 → w_okr L9 U9 A9 place limit full → V = tw_WR_resize_h24 p0 p1 n x3 place limit full b → ∀ (H : Heap) (locs : List Loc), va_P D vwCl [(aW, .inr (1, [.ref aS, .int place, .int limit, .int (b2i full)])), (aS, .inr (0, [.ref aB])), (aB, .inl (cB, 202000, .inl (by_ b)))] H → va_D A [(aW, .inr (1, [.ref aS, .int place, .int limit, .int (b2i full)])), (aS, .inr (0, [.ref aB])), (aB, .inl (cB, 202000, .inl (by_ b)))] → va_S A s.heap H locs → ∀ ls : Array Slot, lv_has ls 4 [(0, .ref aW), (1, .int p0), (2, .int p1), (3, .int x3)] → W p l e ({ frames := 0, cells := 0, slots := 0, locals := 0 }) s m args below meth c H locs 0 0 (MQ below (va_Qv (fun (u : Int32 × Int32 × Bool × (Nat → UInt8)) => u = V ∧ w_okr L9 U9 A9 u.1 u.2.1 u.2.2.1) (mt_B D A (fun u => wd_WR_resize aW aS aB cB cI u.1 u.2.1 u.2.2.1 u.2.2.2)) A) args s 0 0 A) (F0 m 24 ls []) := by
  obtain ⟨hx, hb, hml, hr, hown, hlocks, hT⟩ := id C0
  have hK := hk.1
  have hN := hk.2.1
  intro n
  induction n with
  | zero =>
    intro x3 place limit full b hm
    exact absurd hm (Nat.not_lt_zero _)
  | succ n ih =>
    intro x3 place limit full b hm hv1 hv2 hv3 hi hV H locs hP hD hS ls hl
    refine lv_iload_n hx hb d_WR_resize_24 rfl (lv_at hl 3 rfl) ?_
    refine lv_iconst (v := 4) hx hb d_WR_resize_25 (by decide) ?_
    refine lv_icmp_ge (tgt := 53) hx hb d_WR_resize_26 (by decide) (fun c_4 => ?_) (fun c_4 => ?_)
    · exact W.vret hx hb hr (fun t ht hW => ⟨⟨(place, limit, full, b), rfl, ⟨(by rw [hV, tw_WR_resize_h24, if_pos c_4]; first | done | rfl), hi⟩, by rw [ht]; exact hP, hD⟩, hS.F ht⟩) hS.2.2 d_WR_resize_53
    · refine lv_aload_n hx hb d_WR_resize_29 rfl (lv_at hl 0 rfl) ?_
      refine va_get (D := D) (ci := 1) (v := .ref aS) (C := R_WR) (T := T_WR) (N := 4) hx hb hT u_WR hown hK hP 0 rfl rfl 0 (by decide) (hT _ k_65) (fun _ h9 => h9) rfl d_WR_resize_30 ?_
      refine va_getN (D := D) (ci := 0) (v := .ref aB) (C := R_ST) (T := T_ST) (N := 1) hx hb hT u_ST hown hK hP 1 rfl rfl 0 (by decide) (va_Nw.use rfl (hN ("PipelineBelt$Writer", 33, "PipelineBelt$Store", "bytes", "[B", "PipelineBelt") (by decide))) (fun _ h9 => h9) rfl d_WR_resize_33 ?_
      refine lv_iload_n hx hb d_WR_resize_36 rfl (lv_at hl 1 rfl) ?_
      refine lv_iload_n hx hb d_WR_resize_37 rfl (lv_at hl 3 rfl) ?_
      refine lv_iadd hx hb d_WR_resize_38 ?_
      refine lv_iload_n hx hb d_WR_resize_39 rfl (lv_at hl 2 rfl) ?_
      refine lv_bipush (v := 8) hx hb d_WR_resize_40 (by decide) ?_
      refine lv_iload_n hx hb d_WR_resize_42 rfl (lv_at hl 3 rfl) ?_
      refine lv_imul hx hb d_WR_resize_43 ?_
      refine lv_ishr hx hb d_WR_resize_44 ?_
      refine lv_i2b (v := (p1 >>> ((8 * x3) &&& 31)).toInt8.toInt32) hx hb d_WR_resize_45 rfl ?_
      refine va_bast hx hb hK hP hD hS 2 0 rfl rfl (w_rs hi.1 hv3 hf1 hv2 hv1 c_4) d_WR_resize_46 (fun H locs hP hD hS => ?_)
      have hP : va_P D vwCl [(aW, .inr (1, [.ref aS, .int place, .int limit, .int (b2i full)])), (aS, .inr (0, [.ref aB])), (aB, .inl (cB, 202000, .inl (by_ (ub b (p0 + x3).toNatClampNeg ((p1 >>> ((8 * x3) &&& 31)).toInt8.toInt32)))))] H := by rw [← by_upd]; exact hP
      have hD : va_D A [(aW, .inr (1, [.ref aS, .int place, .int limit, .int (b2i full)])), (aS, .inr (0, [.ref aB])), (aB, .inl (cB, 202000, .inl (by_ (ub b (p0 + x3).toNatClampNeg ((p1 >>> ((8 * x3) &&& 31)).toInt8.toInt32)))))] := by rw [← by_upd]; exact hD
      refine lv_iinc (v := x3 + 1) (lv' := [(3, .int (x3 + 1)), (0, .ref aW), (1, .int p0), (2, .int p1)]) hx hb d_WR_resize_47 hl (k := 3) rfl rfl (by decide) rfl (fun ls hl => ?_)
      refine lv_goto (tgt := 24) hx hb d_WR_resize_50 (by decide) ?_
      exact ih (x3 + 1) place limit full (ub b (p0 + x3).toNatClampNeg ((p1 >>> ((8 * x3) &&& 31)).toInt8.toInt32)) (lp_up hm c_4) (i_upn hv1 c_4) hv2 hv3 (hi) (by rw [hV, tw_WR_resize_h24, if_neg c_4]) _ _ hP hD hS ls (lv_sub hl [1, 2, 3, 0] rfl)
set_option maxHeartbeats 4000000 in
set_option maxRecDepth 100000 in
theorem c_WR_resize (l : Launch) (D : va_G) (cB cI : ClassId) (aW aS aB : Nat) (L9 : Int32) (U9 : Bool) (A9 : Int32) (sz : Nat) (place : Int32) (limit : Int32) (full : Bool) (b : Nat → UInt8) (p0 : Int32) (p1 : Int32) (hi : w_okr L9 U9 A9 place limit full) : Met l y_WR_resize mw_WR_resize { frames := 0, cells := 0, slots := 0, locals := 0 } (va_Pc [.ref aW, .int p0, .int p1] (mt_P D cB cI (wd_WR_resize aW aS aB cB cI place limit full b) sz)) (va_Qv (fun (u : Int32 × Int32 × Bool × (Nat → UInt8)) => u = tw_WR_resize place limit full b p0 p1 ∧ w_okr L9 U9 A9 u.1 u.2.1 u.2.2.1) (mt_B D (va_A (wd_WR_resize aW aS aB cB cI place limit full b) sz) (fun u => wd_WR_resize aW aS aB cB cI u.1 u.2.1 u.2.2.1 u.2.2.2)) (va_A (wd_WR_resize aW aS aB cB cI place limit full b) sz)) 0 0 (va_A (wd_WR_resize aW aS aB cB cI place limit full b) sz) := by
  refine Met.ofW (cc := b_WR_resize) (maxL := 4) (ret := none) (by decide) rfl ?_
  intro p e s m args below meth c s₁ B0 hml hv
  obtain ⟨rfl, hsz, hP, hk, hD0⟩ := hv
  have hK := hk.1
  have hN := hk.2.1
  have hx := B0.exec
  have hb := B0.bytes
  have hr := B0.returns
  have hT : ∀ w ∈ lw_g, w.before _ s = true := fun w h => atoms_spec (ws := mw_WR_resize) B0.pre w (List.mem_cons_of_mem _ h)
  have hown : s.vm.findClass R_WR = some m.cls := findClass_of_methodNamed B0.named
  have hlocks := B0.notSynchronized
  subst hsz
  have hD := hD0.self (sz := s.heap.size)
  generalize hAe : va_A [(aW, .inr (1, [.ref aS, .int place, .int limit, .int (b2i full)])), (aS, .inr (0, [.ref aB])), (aB, .inl (cB, 202000, .inl (by_ b)))] s.heap.size = A at hD ⊢
  have hA : ∀ q : Nat, s.heap.size ≤ q → A q := fun q h => by rw [← hAe]; exact Or.inr h
  have hS : va_S A s.heap s.heap [] := va_S.rf
  have hl := lv_entry ([.ref aW, .int p0, .int p1]) (n := 4) (Nat.le_of_ble_eq_true rfl)
  rw [lg_entry_eq]
  generalize (lg_sl ([.ref aW, .int p0, .int p1]) ++ List.replicate (4 - (lg_sl ([.ref aW, .int p0, .int p1])).length) Slot.unset).toArray = ls at hl ⊢
  have hl : lv_has ls 4 [(0, .ref aW), (1, .int p0), (2, .int p1)] := hl
  have C0 : lc_C p s m meth c _ b_WR_resize 4 none R_WR lw_g := ⟨hx, hb, hml, hr, hown, hlocks, hT⟩
  refine lv_aload_n hx hb d_WR_resize_0 rfl (lv_at hl 0 rfl) ?_
  refine va_get (D := D) (ci := 1) (v := .int (b2i full)) (C := R_WR) (T := T_WR) (N := 4) hx hb hT u_WR hown hK hP 0 rfl rfl 3 (by decide) (hT _ k_71) (fun _ h9 => h9) rfl d_WR_resize_1 ?_
  refine lv_if_ne (tgt := 21) hx hb d_WR_resize_4 (by decide) (fun c_1 => ?_) (fun c_1 => ?_)
  · exact W.vret hx hb hr (fun t ht hW => ⟨⟨(place, limit, full, b), rfl, ⟨(by rw [tw_WR_resize, if_neg c_1]; first | done | rfl), hi⟩, by rw [ht]; exact hP, hD⟩, hS.F ht⟩) hS.2.2 d_WR_resize_21
  · refine lv_iload_n hx hb d_WR_resize_7 rfl (lv_at hl 1 rfl) ?_
    refine lv_if_lt (tgt := 21) hx hb d_WR_resize_8 (by decide) (fun c_2 => ?_) (fun c_2 => ?_)
    · exact W.vret hx hb hr (fun t ht hW => ⟨⟨(place, limit, full, b), rfl, ⟨(by rw [tw_WR_resize, if_pos c_1, if_pos c_2]; first | done | rfl), hi⟩, by rw [ht]; exact hP, hD⟩, hS.F ht⟩) hS.2.2 d_WR_resize_21
    · refine lv_iload_n hx hb d_WR_resize_11 rfl (lv_at hl 1 rfl) ?_
      refine lv_aload_n hx hb d_WR_resize_12 rfl (lv_at hl 0 rfl) ?_
      refine va_get (D := D) (ci := 1) (v := .int limit) (C := R_WR) (T := T_WR) (N := 4) hx hb hT u_WR hown hK hP 0 rfl rfl 2 (by decide) (hT _ k_70) (fun _ h9 => h9) rfl d_WR_resize_13 ?_
      refine lv_iconst (v := 4) hx hb d_WR_resize_16 (by decide) ?_
      refine lv_isub hx hb d_WR_resize_17 ?_
      refine lv_icmp_le (tgt := 22) hx hb d_WR_resize_18 (by decide) (fun c_3 => ?_) (fun c_3 => ?_)
      · refine lv_iconst (v := 0) hx hb d_WR_resize_22 (by decide) ?_
        refine lv_istore_n (lv' := [(3, .int 0), (0, .ref aW), (1, .int p0), (2, .int p1)]) hx hb d_WR_resize_23 rfl hl (by decide) rfl (fun ls hl => ?_)
        exact l_WR_resize_h24 C0 l D cB cI aW aS aB L9 U9 A9 hk hA p0 p1 c_2 ((((4 : Int32).toInt - (0 : Int32).toInt).toNat) + 1) 0 place limit full b (Nat.lt_succ_self _) (by decide) c_3 c_1 (hi) (by rw [tw_WR_resize, if_pos c_1, if_neg c_2, if_pos c_3]) _ _ hP hD hS ls (lv_sub hl [1, 2, 3, 0] rfl)
      · exact W.vret hx hb hr (fun t ht hW => ⟨⟨(place, limit, full, b), rfl, ⟨(by rw [tw_WR_resize, if_pos c_1, if_neg c_2, if_neg c_3]; first | done | rfl), hi⟩, by rw [ht]; exact hP, hD⟩, hS.F ht⟩) hS.2.2 d_WR_resize_21
abbrev wd_WR_close (aW aS aB : Nat) (cB cI : ClassId) (place : Int32) (limit : Int32) (full : Bool) (b : Nat → UInt8) : va_W := [(aW, .inr (1, [.ref aS, .int place, .int limit, .int (b2i full)])), (aS, .inr (0, [.ref aB])), (aB, .inl (cB, 202000, .inl (by_ b)))]
set_option maxHeartbeats 4000000 in
set_option maxRecDepth 100000 in
theorem c_WR_close (l : Launch) (D : va_G) (cB cI : ClassId) (aW aS aB : Nat) (L9 : Int32) (U9 : Bool) (A9 : Int32) (sz : Nat) (place : Int32) (limit : Int32) (full : Bool) (b : Nat → UInt8) (p0 : Int32) (hi : w_okr L9 U9 A9 place limit full) : Met l y_WR_close mw_WR_close { frames := 1, cells := 0, slots := 0, locals := 23 } (va_Pc [.ref aW, .int p0] (mt_P D cB cI (wd_WR_close aW aS aB cB cI place limit full b) sz)) (va_Qv (fun (u : Int32 × Int32 × Bool × (Nat → UInt8)) => u = tw_WR_close place limit full b p0 ∧ w_okr L9 U9 A9 u.1 u.2.1 u.2.2.1) (mt_B D (va_A (wd_WR_close aW aS aB cB cI place limit full b) sz) (fun u => wd_WR_close aW aS aB cB cI u.1 u.2.1 u.2.2.1 u.2.2.2)) (va_A (wd_WR_close aW aS aB cB cI place limit full b) sz)) 0 0 (va_A (wd_WR_close aW aS aB cB cI place limit full b) sz) := by
  refine Met.ofW (cc := b_WR_close) (maxL := 2) (ret := none) (by decide) rfl ?_
  intro p e s m args below meth c s₁ B0 hml hv
  obtain ⟨rfl, hsz, hP, hk, hD0⟩ := hv
  have hK := hk.1
  have hN := hk.2.1
  have hx := B0.exec
  have hb := B0.bytes
  have hr := B0.returns
  have hT : ∀ w ∈ lw_g, w.before _ s = true := fun w h => atoms_spec (ws := mw_WR_close) B0.pre w (List.mem_cons_of_mem _ h)
  have hown : s.vm.findClass R_WR = some m.cls := findClass_of_methodNamed B0.named
  have hlocks := B0.notSynchronized
  subst hsz
  have hD := hD0.self (sz := s.heap.size)
  generalize hAe : va_A [(aW, .inr (1, [.ref aS, .int place, .int limit, .int (b2i full)])), (aS, .inr (0, [.ref aB])), (aB, .inl (cB, 202000, .inl (by_ b)))] s.heap.size = A at hD ⊢
  have hA : ∀ q : Nat, s.heap.size ≤ q → A q := fun q h => by rw [← hAe]; exact Or.inr h
  have hS : va_S A s.heap s.heap [] := va_S.rf
  have hl := lv_entry ([.ref aW, .int p0]) (n := 2) (Nat.le_of_ble_eq_true rfl)
  rw [lg_entry_eq]
  generalize (lg_sl ([.ref aW, .int p0]) ++ List.replicate (2 - (lg_sl ([.ref aW, .int p0])).length) Slot.unset).toArray = ls at hl ⊢
  have hl : lv_has ls 2 [(0, .ref aW), (1, .int p0)] := hl
  refine lv_aload_n hx hb d_WR_close_0 rfl (lv_at hl 0 rfl) ?_
  refine lv_iconst (v := 0) hx hb d_WR_close_1 (by decide) ?_
  refine mt_Vv (As := [.int 0]) (rest := []) (wr := []) ⟨hx, hb, hml, hown, hT⟩ (c_WR_octet l D cB cI aW aS aB L9 U9 A9 _ place limit full b 0 hi) (cwV 1 hT (gV_of k_601 k_602 k_603 k_5 kc_WR_octet) rfl rfl rfl hd_WR_octet ⟨Nat.le_of_ble_eq_true rfl, Nat.le_of_ble_eq_true rfl⟩) hk hP hD hS hA [0, 1, 2] [] rfl rfl rfl (by decide) (by decide) (by decide) (q0 := 0) rfl rfl rfl rfl hl.1 rfl (Nat.le_of_ble_eq_true rfl) d_WR_close_2 ⟨Nat.zero_le _, Nat.zero_le _⟩ (fun u_1 H locs hw_1 hP hD hS => ?_)
  obtain ⟨place_1, limit_1, full_1, b_1⟩ := u_1
  obtain ⟨hw_1, hi_1⟩ := hw_1
  have hP : va_P D vwCl [(aW, .inr (1, [.ref aS, .int place_1, .int limit_1, .int (b2i full_1)])), (aS, .inr (0, [.ref aB])), (aB, .inl (cB, 202000, .inl (by_ b_1)))] H := hP.sub [0, 1, 2] rfl
  have hD : va_D A [(aW, .inr (1, [.ref aS, .int place_1, .int limit_1, .int (b2i full_1)])), (aS, .inr (0, [.ref aB])), (aB, .inl (cB, 202000, .inl (by_ b_1)))] := hD.sub [0, 1, 2] (by decide) rfl
  refine lv_aload_n hx hb d_WR_close_5 rfl (lv_at hl 0 rfl) ?_
  refine lv_iload_n hx hb d_WR_close_6 rfl (lv_at hl 1 rfl) ?_
  refine lv_aload_n hx hb d_WR_close_7 rfl (lv_at hl 0 rfl) ?_
  refine va_get (D := D) (ci := 1) (v := .int place_1) (C := R_WR) (T := T_WR) (N := 4) hx hb hT u_WR hown hK hP 0 rfl rfl 1 (by decide) (hT _ k_66) (fun _ h9 => h9) rfl d_WR_close_8 ?_
  refine lv_iload_n hx hb d_WR_close_11 rfl (lv_at hl 1 rfl) ?_
  refine lv_isub hx hb d_WR_close_12 ?_
  refine mt_Vv (As := [.int p0, .int (place_1 - p0)]) (rest := []) (wr := []) ⟨hx, hb, hml, hown, hT⟩ (c_WR_resize l D cB cI aW aS aB L9 U9 A9 _ place_1 limit_1 full_1 b_1 p0 (place_1 - p0) hi_1) (cwV 2 hT (gV_of k_646 k_647 k_648 k_5 kc_WR_resize) rfl rfl rfl hd_WR_resize ⟨Nat.le_of_ble_eq_true rfl, Nat.le_of_ble_eq_true rfl⟩) hk hP hD hS hA [0, 1, 2] [] rfl rfl rfl (by decide) (by decide) (by decide) (q0 := 0) rfl rfl rfl rfl hl.1 rfl (Nat.le_of_ble_eq_true rfl) d_WR_close_13 ⟨Nat.zero_le _, Nat.zero_le _⟩ (fun u_2 H locs hw_2 hP hD hS => ?_)
  obtain ⟨place_2, limit_2, full_2, b_2⟩ := u_2
  obtain ⟨hw_2, hi_2⟩ := hw_2
  have hP : va_P D vwCl [(aW, .inr (1, [.ref aS, .int place_2, .int limit_2, .int (b2i full_2)])), (aS, .inr (0, [.ref aB])), (aB, .inl (cB, 202000, .inl (by_ b_2)))] H := hP.sub [0, 1, 2] rfl
  have hD : va_D A [(aW, .inr (1, [.ref aS, .int place_2, .int limit_2, .int (b2i full_2)])), (aS, .inr (0, [.ref aB])), (aB, .inl (cB, 202000, .inl (by_ b_2)))] := hD.sub [0, 1, 2] (by decide) rfl
  exact W.vret hx hb hr (fun t ht hW => ⟨⟨(place_2, limit_2, full_2, b_2), rfl, ⟨(by rw [tw_WR_close, ← hw_1, tp4_mk, ← hw_2, tp4_mk]; first | done | rfl), hi_2⟩, by rw [ht]; exact hP, hD⟩, hS.F ht⟩) hS.2.2 d_WR_close_16
abbrev wd_WR_name (aW aS aB : Nat) (cB cI : ClassId) (place : Int32) (limit : Int32) (full : Bool) (b : Nat → UInt8) : va_W := [(aW, .inr (1, [.ref aS, .int place, .int limit, .int (b2i full)])), (aS, .inr (0, [.ref aB])), (aB, .inl (cB, 202000, .inl (by_ b)))]
set_option maxHeartbeats 4000000 in
set_option maxRecDepth 100000 in
theorem c_WR_name (l : Launch) (D : va_G) (cB cI : ClassId) (aW aS aB : Nat) (L9 : Int32) (U9 : Bool) (A9 : Int32) (sz : Nat) (place : Int32) (limit : Int32) (full : Bool) (b : Nat → UInt8) (p0 : Int32) (p1 : Int32) (p2 : Int32) (hc : p1.toInt ≤ 1073741824 ∨ -1 ≤ p2.toInt) (hi : w_okr L9 U9 A9 place limit full) : Met l y_WR_name mw_WR_name { frames := 2, cells := 0, slots := 0, locals := 83 } (va_Pc [.ref aW, .int p0, .int p1, .int p2] (mt_P D cB cI (wd_WR_name aW aS aB cB cI place limit full b) sz)) (va_Qv (fun (u : Int32 × Int32 × Bool × (Nat → UInt8)) => u = tw_WR_name place limit full b p0 p1 p2 ∧ w_okr L9 U9 A9 u.1 u.2.1 u.2.2.1) (mt_B D (va_A (wd_WR_name aW aS aB cB cI place limit full b) sz) (fun u => wd_WR_name aW aS aB cB cI u.1 u.2.1 u.2.2.1 u.2.2.2)) (va_A (wd_WR_name aW aS aB cB cI place limit full b) sz)) 0 0 (va_A (wd_WR_name aW aS aB cB cI place limit full b) sz) := by
  refine Met.ofW (cc := b_WR_name) (maxL := 4) (ret := none) (by decide) rfl ?_
  intro p e s m args below meth c s₁ B0 hml hv
  obtain ⟨rfl, hsz, hP, hk, hD0⟩ := hv
  have hK := hk.1
  have hN := hk.2.1
  have hx := B0.exec
  have hb := B0.bytes
  have hr := B0.returns
  have hT : ∀ w ∈ lw_g, w.before _ s = true := fun w h => atoms_spec (ws := mw_WR_name) B0.pre w (List.mem_cons_of_mem _ h)
  have hown : s.vm.findClass R_WR = some m.cls := findClass_of_methodNamed B0.named
  have hlocks := B0.notSynchronized
  subst hsz
  have hD := hD0.self (sz := s.heap.size)
  generalize hAe : va_A [(aW, .inr (1, [.ref aS, .int place, .int limit, .int (b2i full)])), (aS, .inr (0, [.ref aB])), (aB, .inl (cB, 202000, .inl (by_ b)))] s.heap.size = A at hD ⊢
  have hA : ∀ q : Nat, s.heap.size ≤ q → A q := fun q h => by rw [← hAe]; exact Or.inr h
  have hS : va_S A s.heap s.heap [] := va_S.rf
  have hl := lv_entry ([.ref aW, .int p0, .int p1, .int p2]) (n := 4) (Nat.le_of_ble_eq_true rfl)
  rw [lg_entry_eq]
  generalize (lg_sl ([.ref aW, .int p0, .int p1, .int p2]) ++ List.replicate (4 - (lg_sl ([.ref aW, .int p0, .int p1, .int p2])).length) Slot.unset).toArray = ls at hl ⊢
  have hl : lv_has ls 4 [(0, .ref aW), (1, .int p0), (2, .int p1), (3, .int p2)] := hl
  refine lv_aload_n hx hb d_WR_name_0 rfl (lv_at hl 0 rfl) ?_
  refine lv_iload_n hx hb d_WR_name_1 rfl (lv_at hl 1 rfl) ?_
  refine mt_Vv (As := [.int p0]) (rest := []) (wr := []) ⟨hx, hb, hml, hown, hT⟩ (c_WR_octet l D cB cI aW aS aB L9 U9 A9 _ place limit full b p0 hi) (cwV 1 hT (gV_of k_601 k_602 k_603 k_5 kc_WR_octet) rfl rfl rfl hd_WR_octet ⟨Nat.le_of_ble_eq_true rfl, Nat.le_of_ble_eq_true rfl⟩) hk hP hD hS hA [0, 1, 2] [] rfl rfl rfl (by decide) (by decide) (by decide) (q0 := 0) rfl rfl rfl rfl hl.1 rfl (Nat.le_of_ble_eq_true rfl) d_WR_name_2 ⟨Nat.zero_le _, Nat.zero_le _⟩ (fun u_1 H locs hw_1 hP hD hS => ?_)
  obtain ⟨place_1, limit_1, full_1, b_1⟩ := u_1
  obtain ⟨hw_1, hi_1⟩ := hw_1
  have hP : va_P D vwCl [(aW, .inr (1, [.ref aS, .int place_1, .int limit_1, .int (b2i full_1)])), (aS, .inr (0, [.ref aB])), (aB, .inl (cB, 202000, .inl (by_ b_1)))] H := hP.sub [0, 1, 2] rfl
  have hD : va_D A [(aW, .inr (1, [.ref aS, .int place_1, .int limit_1, .int (b2i full_1)])), (aS, .inr (0, [.ref aB])), (aB, .inl (cB, 202000, .inl (by_ b_1)))] := hD.sub [0, 1, 2] (by decide) rfl
  refine lv_aload_n hx hb d_WR_name_5 rfl (lv_at hl 0 rfl) ?_
  refine lv_iload_n hx hb d_WR_name_6 rfl (lv_at hl 2 rfl) ?_
  refine lv_iload_n hx hb d_WR_name_7 rfl (lv_at hl 3 rfl) ?_
  refine mt_Vv (As := [.int p1, .int p2]) (rest := []) (wr := []) ⟨hx, hb, hml, hown, hT⟩ (c_WR_copy l D cB cI aW aS aB L9 U9 A9 _ place_1 limit_1 full_1 b_1 p1 p2 (hc) hi_1) (cwV 2 hT (gV_of k_656 k_451 k_452 k_5 kc_WR_copy) rfl rfl rfl hd_WR_copy ⟨Nat.le_of_ble_eq_true rfl, Nat.le_of_ble_eq_true rfl⟩) hk hP hD hS hA [0, 1, 2] [] rfl rfl rfl (by decide) (by decide) (by decide) (q0 := 0) rfl rfl rfl rfl hl.1 rfl (Nat.le_of_ble_eq_true rfl) d_WR_name_8 ⟨Nat.zero_le _, Nat.zero_le _⟩ (fun u_2 H locs hw_2 hP hD hS => ?_)
  obtain ⟨place_2, limit_2, full_2, b_2⟩ := u_2
  obtain ⟨hw_2, hi_2⟩ := hw_2
  have hP : va_P D vwCl [(aW, .inr (1, [.ref aS, .int place_2, .int limit_2, .int (b2i full_2)])), (aS, .inr (0, [.ref aB])), (aB, .inl (cB, 202000, .inl (by_ b_2)))] H := hP.sub [0, 1, 2] rfl
  have hD : va_D A [(aW, .inr (1, [.ref aS, .int place_2, .int limit_2, .int (b2i full_2)])), (aS, .inr (0, [.ref aB])), (aB, .inl (cB, 202000, .inl (by_ b_2)))] := hD.sub [0, 1, 2] (by decide) rfl
  refine lv_aload_n hx hb d_WR_name_11 rfl (lv_at hl 0 rfl) ?_
  refine lv_iconst (v := 0) hx hb d_WR_name_12 (by decide) ?_
  refine mt_Vv (As := [.int 0]) (rest := []) (wr := []) ⟨hx, hb, hml, hown, hT⟩ (c_WR_octet l D cB cI aW aS aB L9 U9 A9 _ place_2 limit_2 full_2 b_2 0 hi_2) (cwV 1 hT (gV_of k_601 k_602 k_603 k_5 kc_WR_octet) rfl rfl rfl hd_WR_octet ⟨Nat.le_of_ble_eq_true rfl, Nat.le_of_ble_eq_true rfl⟩) hk hP hD hS hA [0, 1, 2] [] rfl rfl rfl (by decide) (by decide) (by decide) (q0 := 0) rfl rfl rfl rfl hl.1 rfl (Nat.le_of_ble_eq_true rfl) d_WR_name_13 ⟨Nat.zero_le _, Nat.zero_le _⟩ (fun u_3 H locs hw_3 hP hD hS => ?_)
  obtain ⟨place_3, limit_3, full_3, b_3⟩ := u_3
  obtain ⟨hw_3, hi_3⟩ := hw_3
  have hP : va_P D vwCl [(aW, .inr (1, [.ref aS, .int place_3, .int limit_3, .int (b2i full_3)])), (aS, .inr (0, [.ref aB])), (aB, .inl (cB, 202000, .inl (by_ b_3)))] H := hP.sub [0, 1, 2] rfl
  have hD : va_D A [(aW, .inr (1, [.ref aS, .int place_3, .int limit_3, .int (b2i full_3)])), (aS, .inr (0, [.ref aB])), (aB, .inl (cB, 202000, .inl (by_ b_3)))] := hD.sub [0, 1, 2] (by decide) rfl
  exact W.vret hx hb hr (fun t ht hW => ⟨⟨(place_3, limit_3, full_3, b_3), rfl, ⟨(by rw [tw_WR_name, ← hw_1, tp4_mk, ← hw_2, tp4_mk, ← hw_3, tp4_mk]; first | done | rfl), hi_3⟩, by rw [ht]; exact hP, hD⟩, hS.F ht⟩) hS.2.2 d_WR_name_16
abbrev wd_WR_index (aW aS aB : Nat) (cB cI : ClassId) (place : Int32) (limit : Int32) (full : Bool) (b : Nat → UInt8) : va_W := [(aW, .inr (1, [.ref aS, .int place, .int limit, .int (b2i full)])), (aS, .inr (0, [.ref aB])), (aB, .inl (cB, 202000, .inl (by_ b)))]
set_option maxHeartbeats 4000000 in
set_option maxRecDepth 100000 in
theorem l_WR_index_h9 {p : Program} {e : Env} {s : State} {m : MethodId} {args : Array Value} {below : List Frame} {meth : Method} {c : Code} {V : Int32 × Int32 × Bool × (Nat → UInt8)} (C0 : lc_C p s m meth c args b_WR_index 4 none R_WR lw_g) (l : Launch) (D : va_G) (cB cI : ClassId) (aW aS aB : Nat) (L9 : Int32) (U9 : Bool) (A9 : Int32) {A : Nat → Prop} (hk : hk_ D cB cI s) (hA : ∀ q : Nat, s.heap.size ≤ q → A q) (p1 : Int32) : ∀ (n : Nat) (x3 : Int32) (place : Int32) (limit : Int32) (full : Bool) (b : Nat → UInt8), x3.toInt.toNat < n → w_okr L9 U9 A9 place limit full → V = tw_WR_index_h9 p1 n x3 place limit full b → ∀ (H : Heap) (locs : List Loc), va_P D vwCl [(aW, .inr (1, [.ref aS, .int place, .int limit, .int (b2i full)])), (aS, .inr (0, [.ref aB])), (aB, .inl (cB, 202000, .inl (by_ b)))] H → va_D A [(aW, .inr (1, [.ref aS, .int place, .int limit, .int (b2i full)])), (aS, .inr (0, [.ref aB])), (aB, .inl (cB, 202000, .inl (by_ b)))] → va_S A s.heap H locs → ∀ ls : Array Slot, lv_has ls 4 [(0, .ref aW), (2, .int p1), (3, .int x3)] → W p l e ({ frames := 1, cells := 0, slots := 0, locals := 21 }) s m args below meth c H locs 0 0 (MQ below (va_Qv (fun (u : Int32 × Int32 × Bool × (Nat → UInt8)) => u = V ∧ w_okr L9 U9 A9 u.1 u.2.1 u.2.2.1) (mt_B D A (fun u => wd_WR_index aW aS aB cB cI u.1 u.2.1 u.2.2.1 u.2.2.2)) A) args s 0 0 A) (F0 m 9 ls []) := by
  obtain ⟨hx, hb, hml, hr, hown, hlocks, hT⟩ := id C0
  have hK := hk.1
  have hN := hk.2.1
  intro n
  induction n with
  | zero =>
    intro x3 place limit full b hm
    exact absurd hm (Nat.not_lt_zero _)
  | succ n ih =>
    intro x3 place limit full b hm hi hV H locs hP hD hS ls hl
    refine lv_iload_n hx hb d_WR_index_9 rfl (lv_at hl 2 rfl) ?_
    refine lv_if_le (tgt := 44) hx hb d_WR_index_10 (by decide) (fun c_2 => ?_) (fun c_2 => ?_)
    · refine lv_aload_n hx hb d_WR_index_44 rfl (lv_at hl 0 rfl) ?_
      refine lv_iconst (v := 0) hx hb d_WR_index_45 (by decide) ?_
      refine mt_Vv (As := [.int 0]) (rest := []) (wr := []) ⟨hx, hb, hml, hown, hT⟩ (c_WR_octet l D cB cI aW aS aB L9 U9 A9 _ place limit full b 0 hi) (cwV 1 hT (gV_of k_601 k_602 k_603 k_5 kc_WR_octet) rfl rfl rfl hd_WR_octet ⟨Nat.le_of_ble_eq_true rfl, Nat.le_of_ble_eq_true rfl⟩) hk hP hD hS hA [0, 1, 2] [] rfl rfl rfl (by decide) (by decide) (by decide) (q0 := 0) rfl rfl rfl rfl hl.1 rfl (Nat.le_of_ble_eq_true rfl) d_WR_index_46 ⟨Nat.zero_le _, Nat.zero_le _⟩ (fun u_3 H locs hw_3 hP hD hS => ?_)
      obtain ⟨place_3, limit_3, full_3, b_3⟩ := u_3
      obtain ⟨hw_3, hi_3⟩ := hw_3
      have hP : va_P D vwCl [(aW, .inr (1, [.ref aS, .int place_3, .int limit_3, .int (b2i full_3)])), (aS, .inr (0, [.ref aB])), (aB, .inl (cB, 202000, .inl (by_ b_3)))] H := hP.sub [0, 1, 2] rfl
      have hD : va_D A [(aW, .inr (1, [.ref aS, .int place_3, .int limit_3, .int (b2i full_3)])), (aS, .inr (0, [.ref aB])), (aB, .inl (cB, 202000, .inl (by_ b_3)))] := hD.sub [0, 1, 2] (by decide) rfl
      exact W.vret hx hb hr (fun t ht hW => ⟨⟨(place_3, limit_3, full_3, b_3), rfl, ⟨(by rw [hV, tw_WR_index_h9, if_pos c_2, ← hw_3, tp4_mk]; first | done | rfl), hi_3⟩, by rw [ht]; exact hP, hD⟩, hS.F ht⟩) hS.2.2 d_WR_index_49
    · refine lv_iload_n hx hb d_WR_index_13 rfl (lv_at hl 1 rfl) ?_
      refine lv_iload_n hx hb d_WR_index_14 rfl (lv_at hl 2 rfl) ?_
      refine lv_icmp_ge (tgt := 23) hx hb d_WR_index_15 (by decide) (fun c_4 => ?_) (fun c_4 => ?_)
      · refine lv_aload_n hx hb d_WR_index_23 rfl (lv_at hl 0 rfl) ?_
        refine lv_bipush (v := 48) hx hb d_WR_index_24 (by decide) ?_
        refine lv_iload_n hx hb d_WR_index_26 rfl (lv_at hl 1 rfl) ?_
        refine lv_iload_n hx hb d_WR_index_27 rfl (lv_at hl 2 rfl) ?_
        refine lv_idiv hx hb d_WR_index_28 (dv_ne c_2) ?_
        refine lv_bipush (v := 10) hx hb d_WR_index_29 (by decide) ?_
        refine lv_irem hx hb d_WR_index_31 (by decide) ?_
        refine lv_iadd hx hb d_WR_index_32 ?_
        refine mt_Vv (As := [.int (48 + ((p1 / x3) - (p1 / x3) / 10 * 10))]) (rest := []) (wr := []) ⟨hx, hb, hml, hown, hT⟩ (c_WR_octet l D cB cI aW aS aB L9 U9 A9 _ place limit full b (48 + ((p1 / x3) - (p1 / x3) / 10 * 10)) hi) (cwV 1 hT (gV_of k_601 k_602 k_603 k_5 kc_WR_octet) rfl rfl rfl hd_WR_octet ⟨Nat.le_of_ble_eq_true rfl, Nat.le_of_ble_eq_true rfl⟩) hk hP hD hS hA [0, 1, 2] [] rfl rfl rfl (by decide) (by decide) (by decide) (q0 := 0) rfl rfl rfl rfl hl.1 rfl (Nat.le_of_ble_eq_true rfl) d_WR_index_33 ⟨Nat.zero_le _, Nat.zero_le _⟩ (fun u_5 H locs hw_5 hP hD hS => ?_)
        obtain ⟨place_5, limit_5, full_5, b_5⟩ := u_5
        obtain ⟨hw_5, hi_5⟩ := hw_5
        have hP : va_P D vwCl [(aW, .inr (1, [.ref aS, .int place_5, .int limit_5, .int (b2i full_5)])), (aS, .inr (0, [.ref aB])), (aB, .inl (cB, 202000, .inl (by_ b_5)))] H := hP.sub [0, 1, 2] rfl
        have hD : va_D A [(aW, .inr (1, [.ref aS, .int place_5, .int limit_5, .int (b2i full_5)])), (aS, .inr (0, [.ref aB])), (aB, .inl (cB, 202000, .inl (by_ b_5)))] := hD.sub [0, 1, 2] (by decide) rfl
        refine lv_iload_n hx hb d_WR_index_36 rfl (lv_at hl 2 rfl) ?_
        refine lv_bipush (v := 10) hx hb d_WR_index_37 (by decide) ?_
        refine lv_idiv hx hb d_WR_index_39 (by decide) ?_
        refine lv_istore_n (lv' := [(3, .int (x3 / 10)), (0, .ref aW), (2, .int p1)]) hx hb d_WR_index_40 rfl hl (by decide) rfl (fun ls hl => ?_)
        refine lv_goto (tgt := 9) hx hb d_WR_index_41 (by decide) ?_
        exact ih (x3 / 10) place_5 limit_5 full_5 b_5 (lp_d10 hm c_2) (hi_5) (by rw [hV, tw_WR_index_h9, if_neg c_2, if_pos c_4, ← hw_5, tp4_mk]) _ _ hP hD hS ls (lv_sub hl [1, 2, 0] rfl)
      · refine lv_iload_n hx hb d_WR_index_18 rfl (lv_at hl 2 rfl) ?_
        refine lv_iconst (v := 1) hx hb d_WR_index_19 (by decide) ?_
        refine lv_icmp_ne (tgt := 36) hx hb d_WR_index_20 (by decide) (fun c_6 => ?_) (fun c_6 => ?_)
        · refine lv_iload_n hx hb d_WR_index_36 rfl (lv_at hl 2 rfl) ?_
          refine lv_bipush (v := 10) hx hb d_WR_index_37 (by decide) ?_
          refine lv_idiv hx hb d_WR_index_39 (by decide) ?_
          refine lv_istore_n (lv' := [(3, .int (x3 / 10)), (0, .ref aW), (2, .int p1)]) hx hb d_WR_index_40 rfl hl (by decide) rfl (fun ls hl => ?_)
          refine lv_goto (tgt := 9) hx hb d_WR_index_41 (by decide) ?_
          exact ih (x3 / 10) place limit full b (lp_d10 hm c_2) (hi) (by rw [hV, tw_WR_index_h9, if_neg c_2, if_neg c_4, if_neg c_6]) _ _ hP hD hS ls (lv_sub hl [1, 2, 0] rfl)
        · refine lv_aload_n hx hb d_WR_index_23 rfl (lv_at hl 0 rfl) ?_
          refine lv_bipush (v := 48) hx hb d_WR_index_24 (by decide) ?_
          refine lv_iload_n hx hb d_WR_index_26 rfl (lv_at hl 1 rfl) ?_
          refine lv_iload_n hx hb d_WR_index_27 rfl (lv_at hl 2 rfl) ?_
          refine lv_idiv hx hb d_WR_index_28 (dv_ne c_2) ?_
          refine lv_bipush (v := 10) hx hb d_WR_index_29 (by decide) ?_
          refine lv_irem hx hb d_WR_index_31 (by decide) ?_
          refine lv_iadd hx hb d_WR_index_32 ?_
          refine mt_Vv (As := [.int (48 + ((p1 / x3) - (p1 / x3) / 10 * 10))]) (rest := []) (wr := []) ⟨hx, hb, hml, hown, hT⟩ (c_WR_octet l D cB cI aW aS aB L9 U9 A9 _ place limit full b (48 + ((p1 / x3) - (p1 / x3) / 10 * 10)) hi) (cwV 1 hT (gV_of k_601 k_602 k_603 k_5 kc_WR_octet) rfl rfl rfl hd_WR_octet ⟨Nat.le_of_ble_eq_true rfl, Nat.le_of_ble_eq_true rfl⟩) hk hP hD hS hA [0, 1, 2] [] rfl rfl rfl (by decide) (by decide) (by decide) (q0 := 0) rfl rfl rfl rfl hl.1 rfl (Nat.le_of_ble_eq_true rfl) d_WR_index_33 ⟨Nat.zero_le _, Nat.zero_le _⟩ (fun u_7 H locs hw_7 hP hD hS => ?_)
          obtain ⟨place_7, limit_7, full_7, b_7⟩ := u_7
          obtain ⟨hw_7, hi_7⟩ := hw_7
          have hP : va_P D vwCl [(aW, .inr (1, [.ref aS, .int place_7, .int limit_7, .int (b2i full_7)])), (aS, .inr (0, [.ref aB])), (aB, .inl (cB, 202000, .inl (by_ b_7)))] H := hP.sub [0, 1, 2] rfl
          have hD : va_D A [(aW, .inr (1, [.ref aS, .int place_7, .int limit_7, .int (b2i full_7)])), (aS, .inr (0, [.ref aB])), (aB, .inl (cB, 202000, .inl (by_ b_7)))] := hD.sub [0, 1, 2] (by decide) rfl
          refine lv_iload_n hx hb d_WR_index_36 rfl (lv_at hl 2 rfl) ?_
          refine lv_bipush (v := 10) hx hb d_WR_index_37 (by decide) ?_
          refine lv_idiv hx hb d_WR_index_39 (by decide) ?_
          refine lv_istore_n (lv' := [(3, .int (x3 / 10)), (0, .ref aW), (2, .int p1)]) hx hb d_WR_index_40 rfl hl (by decide) rfl (fun ls hl => ?_)
          refine lv_goto (tgt := 9) hx hb d_WR_index_41 (by decide) ?_
          exact ih (x3 / 10) place_7 limit_7 full_7 b_7 (lp_d10 hm c_2) (hi_7) (by rw [hV, tw_WR_index_h9, if_neg c_2, if_neg c_4, if_pos c_6, ← hw_7, tp4_mk]) _ _ hP hD hS ls (lv_sub hl [1, 2, 0] rfl)
set_option maxHeartbeats 4000000 in
set_option maxRecDepth 100000 in
theorem c_WR_index (l : Launch) (D : va_G) (cB cI : ClassId) (aW aS aB : Nat) (L9 : Int32) (U9 : Bool) (A9 : Int32) (sz : Nat) (place : Int32) (limit : Int32) (full : Bool) (b : Nat → UInt8) (p0 : Int32) (p1 : Int32) (hi : w_okr L9 U9 A9 place limit full) : Met l y_WR_index mw_WR_index { frames := 1, cells := 0, slots := 0, locals := 21 } (va_Pc [.ref aW, .int p0, .int p1] (mt_P D cB cI (wd_WR_index aW aS aB cB cI place limit full b) sz)) (va_Qv (fun (u : Int32 × Int32 × Bool × (Nat → UInt8)) => u = tw_WR_index place limit full b p0 p1 ∧ w_okr L9 U9 A9 u.1 u.2.1 u.2.2.1) (mt_B D (va_A (wd_WR_index aW aS aB cB cI place limit full b) sz) (fun u => wd_WR_index aW aS aB cB cI u.1 u.2.1 u.2.2.1 u.2.2.2)) (va_A (wd_WR_index aW aS aB cB cI place limit full b) sz)) 0 0 (va_A (wd_WR_index aW aS aB cB cI place limit full b) sz) := by
  refine Met.ofW (cc := b_WR_index) (maxL := 4) (ret := none) (by decide) rfl ?_
  intro p e s m args below meth c s₁ B0 hml hv
  obtain ⟨rfl, hsz, hP, hk, hD0⟩ := hv
  have hK := hk.1
  have hN := hk.2.1
  have hx := B0.exec
  have hb := B0.bytes
  have hr := B0.returns
  have hT : ∀ w ∈ lw_g, w.before _ s = true := fun w h => atoms_spec (ws := mw_WR_index) B0.pre w (List.mem_cons_of_mem _ h)
  have hown : s.vm.findClass R_WR = some m.cls := findClass_of_methodNamed B0.named
  have hlocks := B0.notSynchronized
  subst hsz
  have hD := hD0.self (sz := s.heap.size)
  generalize hAe : va_A [(aW, .inr (1, [.ref aS, .int place, .int limit, .int (b2i full)])), (aS, .inr (0, [.ref aB])), (aB, .inl (cB, 202000, .inl (by_ b)))] s.heap.size = A at hD ⊢
  have hA : ∀ q : Nat, s.heap.size ≤ q → A q := fun q h => by rw [← hAe]; exact Or.inr h
  have hS : va_S A s.heap s.heap [] := va_S.rf
  have hl := lv_entry ([.ref aW, .int p0, .int p1]) (n := 4) (Nat.le_of_ble_eq_true rfl)
  rw [lg_entry_eq]
  generalize (lg_sl ([.ref aW, .int p0, .int p1]) ++ List.replicate (4 - (lg_sl ([.ref aW, .int p0, .int p1])).length) Slot.unset).toArray = ls at hl ⊢
  have hl : lv_has ls 4 [(0, .ref aW), (1, .int p0), (2, .int p1)] := hl
  have C0 : lc_C p s m meth c _ b_WR_index 4 none R_WR lw_g := ⟨hx, hb, hml, hr, hown, hlocks, hT⟩
  refine lv_aload_n hx hb d_WR_index_0 rfl (lv_at hl 0 rfl) ?_
  refine lv_iload_n hx hb d_WR_index_1 rfl (lv_at hl 1 rfl) ?_
  refine mt_Vv (As := [.int p0]) (rest := []) (wr := []) ⟨hx, hb, hml, hown, hT⟩ (c_WR_octet l D cB cI aW aS aB L9 U9 A9 _ place limit full b p0 hi) (cwV 1 hT (gV_of k_601 k_602 k_603 k_5 kc_WR_octet) rfl rfl rfl hd_WR_octet ⟨Nat.le_of_ble_eq_true rfl, Nat.le_of_ble_eq_true rfl⟩) hk hP hD hS hA [0, 1, 2] [] rfl rfl rfl (by decide) (by decide) (by decide) (q0 := 0) rfl rfl rfl rfl hl.1 rfl (Nat.le_of_ble_eq_true rfl) d_WR_index_2 ⟨Nat.zero_le _, Nat.zero_le _⟩ (fun u_1 H locs hw_1 hP hD hS => ?_)
  obtain ⟨place_1, limit_1, full_1, b_1⟩ := u_1
  obtain ⟨hw_1, hi_1⟩ := hw_1
  have hP : va_P D vwCl [(aW, .inr (1, [.ref aS, .int place_1, .int limit_1, .int (b2i full_1)])), (aS, .inr (0, [.ref aB])), (aB, .inl (cB, 202000, .inl (by_ b_1)))] H := hP.sub [0, 1, 2] rfl
  have hD : va_D A [(aW, .inr (1, [.ref aS, .int place_1, .int limit_1, .int (b2i full_1)])), (aS, .inr (0, [.ref aB])), (aB, .inl (cB, 202000, .inl (by_ b_1)))] := hD.sub [0, 1, 2] (by decide) rfl
  refine lv_sipush (v := 1000) hx hb d_WR_index_5 (by decide) ?_
  refine lv_istore_n (lv' := [(3, .int 1000), (0, .ref aW), (1, .int p0), (2, .int p1)]) hx hb d_WR_index_8 rfl hl (by decide) rfl (fun ls hl => ?_)
  exact l_WR_index_h9 C0 l D cB cI aW aS aB L9 U9 A9 hk hA p1  (((1000 : Int32).toInt.toNat) + 1) 1000 place_1 limit_1 full_1 b_1 (Nat.lt_succ_self _) (hi_1) (by rw [tw_WR_index, ← hw_1, tp4_mk]) _ _ hP hD hS ls (lv_sub hl [1, 3, 0] rfl)
abbrev wd_WR_whole64 (aW aS aB : Nat) (cB cI : ClassId) (place : Int32) (limit : Int32) (full : Bool) (b : Nat → UInt8) : va_W := [(aW, .inr (1, [.ref aS, .int place, .int limit, .int (b2i full)])), (aS, .inr (0, [.ref aB])), (aB, .inl (cB, 202000, .inl (by_ b)))]
set_option maxHeartbeats 4000000 in
set_option maxRecDepth 100000 in
theorem l_WR_whole64_h2 {p : Program} {e : Env} {s : State} {m : MethodId} {args : Array Value} {below : List Frame} {meth : Method} {c : Code} {V : Int32 × Int32 × Bool × (Nat → UInt8)} (C0 : lc_C p s m meth c args b_WR_whole64 4 none R_WR lw_g) (l : Launch) (D : va_G) (cB cI : ClassId) (aW aS aB : Nat) (L9 : Int32) (U9 : Bool) (A9 : Int32) {A : Nat → Prop} (hk : hk_ D cB cI s) (hA : ∀ q : Nat, s.heap.size ≤ q → A q) (p0 : Int64) : ∀ (n : Nat) (x3 : Int32) (place : Int32) (limit : Int32) (full : Bool) (b : Nat → UInt8), ((64 : Int32).toInt - x3.toInt).toNat < n → w_okr L9 U9 A9 place limit full → V = tw_WR_whole64_h2 p0 n x3 place limit full b → ∀ (H : Heap) (locs : List Loc), va_P D vwCl [(aW, .inr (1, [.ref aS, .int place, .int limit, .int (b2i full)])), (aS, .inr (0, [.ref aB])), (aB, .inl (cB, 202000, .inl (by_ b)))] H → va_D A [(aW, .inr (1, [.ref aS, .int place, .int limit, .int (b2i full)])), (aS, .inr (0, [.ref aB])), (aB, .inl (cB, 202000, .inl (by_ b)))] → va_S A s.heap H locs → ∀ ls : Array Slot, lv_has ls 4 [(0, .ref aW), (1, .long p0), (3, .int x3)] → W p l e ({ frames := 1, cells := 0, slots := 0, locals := 21 }) s m args below meth c H locs 0 0 (MQ below (va_Qv (fun (u : Int32 × Int32 × Bool × (Nat → UInt8)) => u = V ∧ w_okr L9 U9 A9 u.1 u.2.1 u.2.2.1) (mt_B D A (fun u => wd_WR_whole64 aW aS aB cB cI u.1 u.2.1 u.2.2.1 u.2.2.2)) A) args s 0 0 A) (F0 m 2 ls []) := by
  obtain ⟨hx, hb, hml, hr, hown, hlocks, hT⟩ := id C0
  have hK := hk.1
  have hN := hk.2.1
  intro n
  induction n with
  | zero =>
    intro x3 place limit full b hm
    exact absurd hm (Nat.not_lt_zero _)
  | succ n ih =>
    intro x3 place limit full b hm hi hV H locs hP hD hS ls hl
    refine lv_iload_n hx hb d_WR_whole64_2 rfl (lv_at hl 2 rfl) ?_
    refine lv_bipush (v := 64) hx hb d_WR_whole64_3 (by decide) ?_
    refine lv_icmp_ge (tgt := 22) hx hb d_WR_whole64_5 (by decide) (fun c_1 => ?_) (fun c_1 => ?_)
    · exact W.vret hx hb hr (fun t ht hW => ⟨⟨(place, limit, full, b), rfl, ⟨(by rw [hV, tw_WR_whole64_h2, if_pos c_1]; first | done | rfl), hi⟩, by rw [ht]; exact hP, hD⟩, hS.F ht⟩) hS.2.2 d_WR_whole64_22
    · refine lv_aload_n hx hb d_WR_whole64_8 rfl (lv_at hl 0 rfl) ?_
      refine lv_lload_n hx hb d_WR_whole64_9 rfl (lv_at hl 1 rfl) ?_
      refine lv_iload_n hx hb d_WR_whole64_10 rfl (lv_at hl 2 rfl) ?_
      refine lv_lshr hx hb d_WR_whole64_11 rfl ?_
      refine lv_l2i (v := (p0 >>> (x3.toInt64 &&& 63)).toInt32) hx hb d_WR_whole64_12 rfl ?_
      refine mt_Vv (As := [.int ((p0 >>> (x3.toInt64 &&& 63)).toInt32)]) (rest := []) (wr := []) ⟨hx, hb, hml, hown, hT⟩ (c_WR_octet l D cB cI aW aS aB L9 U9 A9 _ place limit full b ((p0 >>> (x3.toInt64 &&& 63)).toInt32) hi) (cwV 1 hT (gV_of k_601 k_602 k_603 k_5 kc_WR_octet) rfl rfl rfl hd_WR_octet ⟨Nat.le_of_ble_eq_true rfl, Nat.le_of_ble_eq_true rfl⟩) hk hP hD hS hA [0, 1, 2] [] rfl rfl rfl (by decide) (by decide) (by decide) (q0 := 0) rfl rfl rfl rfl hl.1 rfl (Nat.le_of_ble_eq_true rfl) d_WR_whole64_13 ⟨Nat.zero_le _, Nat.zero_le _⟩ (fun u_2 H locs hw_2 hP hD hS => ?_)
      obtain ⟨place_2, limit_2, full_2, b_2⟩ := u_2
      obtain ⟨hw_2, hi_2⟩ := hw_2
      have hP : va_P D vwCl [(aW, .inr (1, [.ref aS, .int place_2, .int limit_2, .int (b2i full_2)])), (aS, .inr (0, [.ref aB])), (aB, .inl (cB, 202000, .inl (by_ b_2)))] H := hP.sub [0, 1, 2] rfl
      have hD : va_D A [(aW, .inr (1, [.ref aS, .int place_2, .int limit_2, .int (b2i full_2)])), (aS, .inr (0, [.ref aB])), (aB, .inl (cB, 202000, .inl (by_ b_2)))] := hD.sub [0, 1, 2] (by decide) rfl
      refine lv_iinc (v := x3 + 8) (lv' := [(3, .int (x3 + 8)), (0, .ref aW), (1, .long p0)]) hx hb d_WR_whole64_16 hl (k := 2) rfl rfl (by decide) rfl (fun ls hl => ?_)
      refine lv_goto (tgt := 2) hx hb d_WR_whole64_19 (by decide) ?_
      exact ih (x3 + 8) place_2 limit_2 full_2 b_2 (lp_upk hm c_1 (by decide) (by decide)) (hi_2) (by rw [hV, tw_WR_whole64_h2, if_neg c_1, ← hw_2, tp4_mk]) _ _ hP hD hS ls (lv_sub hl [1, 2, 0] rfl)
set_option maxHeartbeats 4000000 in
set_option maxRecDepth 100000 in
theorem c_WR_whole64 (l : Launch) (D : va_G) (cB cI : ClassId) (aW aS aB : Nat) (L9 : Int32) (U9 : Bool) (A9 : Int32) (sz : Nat) (place : Int32) (limit : Int32) (full : Bool) (b : Nat → UInt8) (p0 : Int64) (hi : w_okr L9 U9 A9 place limit full) : Met l y_WR_whole64 mw_WR_whole64 { frames := 1, cells := 0, slots := 0, locals := 21 } (va_Pc [.ref aW, .long p0] (mt_P D cB cI (wd_WR_whole64 aW aS aB cB cI place limit full b) sz)) (va_Qv (fun (u : Int32 × Int32 × Bool × (Nat → UInt8)) => u = tw_WR_whole64 place limit full b p0 ∧ w_okr L9 U9 A9 u.1 u.2.1 u.2.2.1) (mt_B D (va_A (wd_WR_whole64 aW aS aB cB cI place limit full b) sz) (fun u => wd_WR_whole64 aW aS aB cB cI u.1 u.2.1 u.2.2.1 u.2.2.2)) (va_A (wd_WR_whole64 aW aS aB cB cI place limit full b) sz)) 0 0 (va_A (wd_WR_whole64 aW aS aB cB cI place limit full b) sz) := by
  refine Met.ofW (cc := b_WR_whole64) (maxL := 4) (ret := none) (by decide) rfl ?_
  intro p e s m args below meth c s₁ B0 hml hv
  obtain ⟨rfl, hsz, hP, hk, hD0⟩ := hv
  have hK := hk.1
  have hN := hk.2.1
  have hx := B0.exec
  have hb := B0.bytes
  have hr := B0.returns
  have hT : ∀ w ∈ lw_g, w.before _ s = true := fun w h => atoms_spec (ws := mw_WR_whole64) B0.pre w (List.mem_cons_of_mem _ h)
  have hown : s.vm.findClass R_WR = some m.cls := findClass_of_methodNamed B0.named
  have hlocks := B0.notSynchronized
  subst hsz
  have hD := hD0.self (sz := s.heap.size)
  generalize hAe : va_A [(aW, .inr (1, [.ref aS, .int place, .int limit, .int (b2i full)])), (aS, .inr (0, [.ref aB])), (aB, .inl (cB, 202000, .inl (by_ b)))] s.heap.size = A at hD ⊢
  have hA : ∀ q : Nat, s.heap.size ≤ q → A q := fun q h => by rw [← hAe]; exact Or.inr h
  have hS : va_S A s.heap s.heap [] := va_S.rf
  have hl := lv_entry ([.ref aW, .long p0]) (n := 4) (Nat.le_of_ble_eq_true rfl)
  rw [lg_entry_eq]
  generalize (lg_sl ([.ref aW, .long p0]) ++ List.replicate (4 - (lg_sl ([.ref aW, .long p0])).length) Slot.unset).toArray = ls at hl ⊢
  have hl : lv_has ls 4 [(0, .ref aW), (1, .long p0)] := hl
  have C0 : lc_C p s m meth c _ b_WR_whole64 4 none R_WR lw_g := ⟨hx, hb, hml, hr, hown, hlocks, hT⟩
  refine lv_iconst (v := 0) hx hb d_WR_whole64_0 (by decide) ?_
  refine lv_istore_n (lv' := [(3, .int 0), (0, .ref aW), (1, .long p0)]) hx hb d_WR_whole64_1 rfl hl (by decide) rfl (fun ls hl => ?_)
  exact l_WR_whole64_h2 C0 l D cB cI aW aS aB L9 U9 A9 hk hA p0  ((((64 : Int32).toInt - (0 : Int32).toInt).toNat) + 1) 0 place limit full b (Nat.lt_succ_self _) (hi) (by rw [tw_WR_whole64]) _ _ hP hD hS ls (lv_sub hl [1, 2, 0] rfl)
