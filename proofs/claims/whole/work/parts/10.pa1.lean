/-! printed by wip/gen -/
theorem k_7 : (Jvm.Cond.initialized "PipelineBelt$Path") ∈ lw_g := lw_gm (List.mem_append_right _ (List.mem_of_getElem? (i := 7) (by decide +kernel))) rfl
theorem k_140 : (Jvm.Cond.fieldLink "PipelineBelt$Path" (30 : Nat) "PipelineBelt$Path" "store" "LPipelineBelt$Store;") ∈ lw_g := lw_gm (List.mem_append_right _ (List.mem_of_getElem? (i := 140) (by decide +kernel))) rfl
theorem k_141 : (Jvm.Cond.fieldLink "PipelineBelt$Path" (39 : Nat) "PipelineBelt$Path" "writer" "LPipelineBelt$Writer;") ∈ lw_g := lw_gm (List.mem_append_right _ (List.mem_of_getElem? (i := 141) (by decide +kernel))) rfl
theorem k_142 : (Jvm.Cond.fieldLink "PipelineBelt$Path" (9 : Nat) "PipelineBelt$Path" "starts" "[I") ∈ lw_g := lw_gm (List.mem_append_right _ (List.mem_of_getElem? (i := 142) (by decide +kernel))) rfl
theorem k_143 : (Jvm.Cond.fieldLink "PipelineBelt$Path" (15 : Nat) "PipelineBelt$Path" "ends" "[I") ∈ lw_g := lw_gm (List.mem_append_right _ (List.mem_of_getElem? (i := 143) (by decide +kernel))) rfl
theorem k_144 : (Jvm.Cond.fieldLink "PipelineBelt$Path" (18 : Nat) "PipelineBelt$Path" "indexes" "[I") ∈ lw_g := lw_gm (List.mem_append_right _ (List.mem_of_getElem? (i := 144) (by decide +kernel))) rfl
theorem k_145 : (Jvm.Cond.fieldLink "PipelineBelt$Path" (21 : Nat) "PipelineBelt$Path" "holders" "[I") ∈ lw_g := lw_gm (List.mem_append_right _ (List.mem_of_getElem? (i := 145) (by decide +kernel))) rfl
theorem k_147 : (Jvm.Cond.fieldLink "PipelineBelt$Path" (47 : Nat) "PipelineBelt$Path" "count" "I") ∈ lw_g := lw_gm (List.mem_append_right _ (List.mem_of_getElem? (i := 147) (by decide +kernel))) rfl
theorem k_149 : (Jvm.Cond.fieldLink "PipelineBelt$Path" (43 : Nat) "PipelineBelt$Path" "fixed" "Z") ∈ lw_g := lw_gm (List.mem_append_right _ (List.mem_of_getElem? (i := 149) (by decide +kernel))) rfl
theorem k_150 : (Jvm.Cond.fieldLink "PipelineBelt$Path" (75 : Nat) "PipelineBelt$Path" "own" "I") ∈ lw_g := lw_gm (List.mem_append_right _ (List.mem_of_getElem? (i := 150) (by decide +kernel))) rfl
theorem k_151 : (Jvm.Cond.fieldLink "PipelineBelt$Path" (24 : Nat) "PipelineBelt$Path" "leaves" "[I") ∈ lw_g := lw_gm (List.mem_append_right _ (List.mem_of_getElem? (i := 151) (by decide +kernel))) rfl
theorem k_152 : (Jvm.Cond.fieldLink "PipelineBelt$Path" (27 : Nat) "PipelineBelt$Path" "seen" "[I") ∈ lw_g := lw_gm (List.mem_append_right _ (List.mem_of_getElem? (i := 152) (by decide +kernel))) rfl
theorem k_155 : (Jvm.Cond.fieldLink "PipelineBelt$Path" (127 : Nat) "PipelineBelt$Path" "leafCount" "I") ∈ lw_g := lw_gm (List.mem_append_right _ (List.mem_of_getElem? (i := 155) (by decide +kernel))) rfl
theorem k_156 : (Jvm.Cond.fieldLink "PipelineBelt$Path" (133 : Nat) "PipelineBelt$Path" "search" "I") ∈ lw_g := lw_gm (List.mem_append_right _ (List.mem_of_getElem? (i := 156) (by decide +kernel))) rfl
theorem k_157 : (Jvm.Cond.fieldLink "PipelineBelt$Path" (136 : Nat) "PipelineBelt$Path" "base" "I") ∈ lw_g := lw_gm (List.mem_append_right _ (List.mem_of_getElem? (i := 157) (by decide +kernel))) rfl
theorem k_158 : (Jvm.Cond.fieldLink "PipelineBelt$Path" (130 : Nat) "PipelineBelt$Path" "missed" "Z") ∈ lw_g := lw_gm (List.mem_append_right _ (List.mem_of_getElem? (i := 158) (by decide +kernel))) rfl
theorem k_569 : (Jvm.Cond.methodLink "PipelineBelt$Path" (71 : Nat) ({ cls := "PipelineBelt$Path", name := "startsWithDollar", desc := "(I)Z" } : Jvm.MethodName)) ∈ lw_g := lw_gm (List.mem_append_right _ (List.mem_of_getElem? (i := 569) (by decide +kernel))) rfl
theorem k_570 : (Jvm.Cond.instanceMethod ({ cls := "PipelineBelt$Path", name := "startsWithDollar", desc := "(I)Z" } : Jvm.MethodName)) ∈ lw_g := lw_gm (List.mem_append_right _ (List.mem_of_getElem? (i := 570) (by decide +kernel))) rfl
theorem k_571 : (Jvm.Cond.selects "PipelineBelt$Path" ({ cls := "PipelineBelt$Path", name := "startsWithDollar", desc := "(I)Z" } : Jvm.MethodName) ({ cls := "PipelineBelt$Path", name := "startsWithDollar", desc := "(I)Z" } : Jvm.MethodName)) ∈ lw_g := lw_gm (List.mem_append_right _ (List.mem_of_getElem? (i := 571) (by decide +kernel))) rfl
theorem k_573 : (Jvm.Cond.methodLink "PipelineBelt$Path" (78 : Nat) ({ cls := "PipelineBelt$Store", name := "kindOf", desc := "(I)I" } : Jvm.MethodName)) ∈ lw_g := lw_gm (List.mem_append_right _ (List.mem_of_getElem? (i := 573) (by decide +kernel))) rfl
theorem k_574 : (Jvm.Cond.methodLink "PipelineBelt$Path" (61 : Nat) ({ cls := "PipelineBelt$Store", name := "placeOf", desc := "(I)I" } : Jvm.MethodName)) ∈ lw_g := lw_gm (List.mem_append_right _ (List.mem_of_getElem? (i := 574) (by decide +kernel))) rfl
theorem k_575 : (Jvm.Cond.methodLink "PipelineBelt$Path" (51 : Nat) ({ cls := "PipelineBelt$Store", name := "at", desc := "(I)I" } : Jvm.MethodName)) ∈ lw_g := lw_gm (List.mem_append_right _ (List.mem_of_getElem? (i := 575) (by decide +kernel))) rfl
theorem k_576 : (Jvm.Cond.methodLink "PipelineBelt$Path" (64 : Nat) ({ cls := "PipelineBelt$Store", name := "endOf", desc := "(I)I" } : Jvm.MethodName)) ∈ lw_g := lw_gm (List.mem_append_right _ (List.mem_of_getElem? (i := 576) (by decide +kernel))) rfl
theorem k_577 : (Jvm.Cond.methodLink "PipelineBelt$Path" (67 : Nat) ({ cls := "PipelineBelt$Path", name := "read", desc := "(II)Z" } : Jvm.MethodName)) ∈ lw_g := lw_gm (List.mem_append_right _ (List.mem_of_getElem? (i := 577) (by decide +kernel))) rfl
theorem k_578 : (Jvm.Cond.instanceMethod ({ cls := "PipelineBelt$Path", name := "read", desc := "(II)Z" } : Jvm.MethodName)) ∈ lw_g := lw_gm (List.mem_append_right _ (List.mem_of_getElem? (i := 578) (by decide +kernel))) rfl
theorem k_579 : (Jvm.Cond.selects "PipelineBelt$Path" ({ cls := "PipelineBelt$Path", name := "read", desc := "(II)Z" } : Jvm.MethodName) ({ cls := "PipelineBelt$Path", name := "read", desc := "(II)Z" } : Jvm.MethodName)) ∈ lw_g := lw_gm (List.mem_append_right _ (List.mem_of_getElem? (i := 579) (by decide +kernel))) rfl
theorem k_581 : (Jvm.Cond.methodLink "PipelineBelt$Path" (57 : Nat) ({ cls := "PipelineBelt$Store", name := "indexNamed", desc := "(II)I" } : Jvm.MethodName)) ∈ lw_g := lw_gm (List.mem_append_right _ (List.mem_of_getElem? (i := 581) (by decide +kernel))) rfl
theorem k_611 : (Jvm.Cond.instanceMethod ({ cls := "PipelineBelt$Store", name := "find", desc := "(III)I" } : Jvm.MethodName)) ∈ lw_g := lw_gm (List.mem_append_right _ (List.mem_of_getElem? (i := 611) (by decide +kernel))) rfl
theorem k_612 : (Jvm.Cond.selects "PipelineBelt$Store" ({ cls := "PipelineBelt$Store", name := "find", desc := "(III)I" } : Jvm.MethodName) ({ cls := "PipelineBelt$Store", name := "find", desc := "(III)I" } : Jvm.MethodName)) ∈ lw_g := lw_gm (List.mem_append_right _ (List.mem_of_getElem? (i := 612) (by decide +kernel))) rfl
theorem k_620 : (Jvm.Cond.constant "PipelineBelt$Path" (85 : Nat) (40000 : Int32)) ∈ lw_g := lw_gm (List.mem_append_right _ (List.mem_of_getElem? (i := 620) (by decide +kernel))) rfl
theorem k_621 : (Jvm.Cond.methodLink "PipelineBelt$Path" (86 : Nat) ({ cls := "PipelineBelt$Writer", name := "aim", desc := "(II)V" } : Jvm.MethodName)) ∈ lw_g := lw_gm (List.mem_append_right _ (List.mem_of_getElem? (i := 621) (by decide +kernel))) rfl
theorem k_634 : (Jvm.Cond.methodLink "PipelineBelt$Path" (102 : Nat) ({ cls := "PipelineBelt$Store", name := "valueOf", desc := "(I)I" } : Jvm.MethodName)) ∈ lw_g := lw_gm (List.mem_append_right _ (List.mem_of_getElem? (i := 634) (by decide +kernel))) rfl
theorem k_651 : (Jvm.Cond.methodLink "PipelineBelt$Path" (81 : Nat) ({ cls := "PipelineBelt$Store", name := "find", desc := "(III)I" } : Jvm.MethodName)) ∈ lw_g := lw_gm (List.mem_append_right _ (List.mem_of_getElem? (i := 651) (by decide +kernel))) rfl
theorem k_879 : (Jvm.Cond.methodLink "PipelineBelt$Path" (143 : Nat) ({ cls := "PipelineBelt$Path", name := "meet", desc := "(I)V" } : Jvm.MethodName)) ∈ lw_g := lw_gm (List.mem_append_right _ (List.mem_of_getElem? (i := 879) (by decide +kernel))) rfl
theorem k_881 : (Jvm.Cond.instanceMethod ({ cls := "PipelineBelt$Path", name := "meet", desc := "(I)V" } : Jvm.MethodName)) ∈ lw_g := lw_gm (List.mem_append_right _ (List.mem_of_getElem? (i := 881) (by decide +kernel))) rfl
abbrev b_PA_startsWithDollar : ByteArray := prog_7_method_6_code
def y_PA_startsWithDollar : MethodName := ⟨R_PA, "startsWithDollar", "(I)Z"⟩
theorem kc_PA_startsWithDollar : Cond.code y_PA_startsWithDollar b_PA_startsWithDollar 2 (some .boolean) ∈ lw_g := lw_gm (List.mem_append_right _ (List.mem_of_getElem? (i := 572) (by decide +kernel))) rfl
abbrev mw_PA_startsWithDollar : List Cond := Cond.code y_PA_startsWithDollar b_PA_startsWithDollar 2 (some .boolean) :: lw_g
theorem hd_PA_startsWithDollar : y_PA_startsWithDollar.cls = R_PA ∧ y_PA_startsWithDollar.cls ≠ "java/lang/invoke/MethodHandle" ∧ y_PA_startsWithDollar.cls ≠ "java/lang/invoke/VarHandle" ∧ (parseMethodDescriptor y_PA_startsWithDollar.desc).map (fun d => d.parameters.length) = some 1 := by decide +kernel
theorem d_PA_startsWithDollar_0 : decode b_PA_startsWithDollar 0 = .ok (.iload_n 1, 1) := by decide +kernel
theorem d_PA_startsWithDollar_1 : decode b_PA_startsWithDollar 1 = .ok (.invokestatic 78, 3) := by decide +kernel
theorem d_PA_startsWithDollar_4 : decode b_PA_startsWithDollar 4 = .ok (.iconst 2, 1) := by decide +kernel
theorem d_PA_startsWithDollar_5 : decode b_PA_startsWithDollar 5 = .ok (.if_icmp .ne 25, 3) := by decide +kernel
theorem d_PA_startsWithDollar_8 : decode b_PA_startsWithDollar 8 = .ok (.aload_n 0, 1) := by decide +kernel
theorem d_PA_startsWithDollar_9 : decode b_PA_startsWithDollar 9 = .ok (.getfield 30, 3) := by decide +kernel
theorem d_PA_startsWithDollar_12 : decode b_PA_startsWithDollar 12 = .ok (.iload_n 1, 1) := by decide +kernel
theorem d_PA_startsWithDollar_13 : decode b_PA_startsWithDollar 13 = .ok (.invokestatic 61, 3) := by decide +kernel
theorem d_PA_startsWithDollar_16 : decode b_PA_startsWithDollar 16 = .ok (.iconst 4, 1) := by decide +kernel
theorem d_PA_startsWithDollar_17 : decode b_PA_startsWithDollar 17 = .ok (.iadd, 1) := by decide +kernel
theorem d_PA_startsWithDollar_18 : decode b_PA_startsWithDollar 18 = .ok (.invokevirtual 51, 3) := by decide +kernel
theorem d_PA_startsWithDollar_21 : decode b_PA_startsWithDollar 21 = .ok (.bipush 36, 2) := by decide +kernel
theorem d_PA_startsWithDollar_23 : decode b_PA_startsWithDollar 23 = .ok (.if_icmp .ne 7, 3) := by decide +kernel
theorem d_PA_startsWithDollar_26 : decode b_PA_startsWithDollar 26 = .ok (.iconst 1, 1) := by decide +kernel
theorem d_PA_startsWithDollar_27 : decode b_PA_startsWithDollar 27 = .ok (.goto 4, 3) := by decide +kernel
theorem d_PA_startsWithDollar_30 : decode b_PA_startsWithDollar 30 = .ok (.iconst 0, 1) := by decide +kernel
theorem d_PA_startsWithDollar_31 : decode b_PA_startsWithDollar 31 = .ok (.ireturn, 1) := by decide +kernel
abbrev b_PA_lengthOfLastName : ByteArray := prog_7_method_7_code
def y_PA_lengthOfLastName : MethodName := ⟨R_PA, "lengthOfLastName", "()I"⟩
theorem kc_PA_lengthOfLastName : Cond.code y_PA_lengthOfLastName b_PA_lengthOfLastName 1 (some .int) ∈ lw_g := lw_gm (List.mem_append_right _ (List.mem_of_getElem? (i := 694) (by decide +kernel))) rfl
abbrev mw_PA_lengthOfLastName : List Cond := Cond.code y_PA_lengthOfLastName b_PA_lengthOfLastName 1 (some .int) :: lw_g
theorem hd_PA_lengthOfLastName : y_PA_lengthOfLastName.cls = R_PA ∧ y_PA_lengthOfLastName.cls ≠ "java/lang/invoke/MethodHandle" ∧ y_PA_lengthOfLastName.cls ≠ "java/lang/invoke/VarHandle" ∧ (parseMethodDescriptor y_PA_lengthOfLastName.desc).map (fun d => d.parameters.length) = some 0 := by decide +kernel
theorem d_PA_lengthOfLastName_0 : decode b_PA_lengthOfLastName 0 = .ok (.aload_n 0, 1) := by decide +kernel
theorem d_PA_lengthOfLastName_1 : decode b_PA_lengthOfLastName 1 = .ok (.getfield 47, 3) := by decide +kernel
theorem d_PA_lengthOfLastName_4 : decode b_PA_lengthOfLastName 4 = .ok (.ifCond .le 38, 3) := by decide +kernel
theorem d_PA_lengthOfLastName_7 : decode b_PA_lengthOfLastName 7 = .ok (.aload_n 0, 1) := by decide +kernel
theorem d_PA_lengthOfLastName_8 : decode b_PA_lengthOfLastName 8 = .ok (.getfield 47, 3) := by decide +kernel
theorem d_PA_lengthOfLastName_11 : decode b_PA_lengthOfLastName 11 = .ok (.bipush 8, 2) := by decide +kernel
theorem d_PA_lengthOfLastName_13 : decode b_PA_lengthOfLastName 13 = .ok (.if_icmp .gt 29, 3) := by decide +kernel
theorem d_PA_lengthOfLastName_16 : decode b_PA_lengthOfLastName 16 = .ok (.aload_n 0, 1) := by decide +kernel
theorem d_PA_lengthOfLastName_17 : decode b_PA_lengthOfLastName 17 = .ok (.getfield 15, 3) := by decide +kernel
theorem d_PA_lengthOfLastName_20 : decode b_PA_lengthOfLastName 20 = .ok (.aload_n 0, 1) := by decide +kernel
theorem d_PA_lengthOfLastName_21 : decode b_PA_lengthOfLastName 21 = .ok (.getfield 47, 3) := by decide +kernel
theorem d_PA_lengthOfLastName_24 : decode b_PA_lengthOfLastName 24 = .ok (.iconst 1, 1) := by decide +kernel
theorem d_PA_lengthOfLastName_25 : decode b_PA_lengthOfLastName 25 = .ok (.isub, 1) := by decide +kernel
theorem d_PA_lengthOfLastName_26 : decode b_PA_lengthOfLastName 26 = .ok (.iaload, 1) := by decide +kernel
theorem d_PA_lengthOfLastName_27 : decode b_PA_lengthOfLastName 27 = .ok (.aload_n 0, 1) := by decide +kernel
theorem d_PA_lengthOfLastName_28 : decode b_PA_lengthOfLastName 28 = .ok (.getfield 9, 3) := by decide +kernel
theorem d_PA_lengthOfLastName_31 : decode b_PA_lengthOfLastName 31 = .ok (.aload_n 0, 1) := by decide +kernel
theorem d_PA_lengthOfLastName_32 : decode b_PA_lengthOfLastName 32 = .ok (.getfield 47, 3) := by decide +kernel
theorem d_PA_lengthOfLastName_35 : decode b_PA_lengthOfLastName 35 = .ok (.iconst 1, 1) := by decide +kernel
theorem d_PA_lengthOfLastName_36 : decode b_PA_lengthOfLastName 36 = .ok (.isub, 1) := by decide +kernel
theorem d_PA_lengthOfLastName_37 : decode b_PA_lengthOfLastName 37 = .ok (.iaload, 1) := by decide +kernel
theorem d_PA_lengthOfLastName_38 : decode b_PA_lengthOfLastName 38 = .ok (.isub, 1) := by decide +kernel
theorem d_PA_lengthOfLastName_39 : decode b_PA_lengthOfLastName 39 = .ok (.goto 4, 3) := by decide +kernel
theorem d_PA_lengthOfLastName_42 : decode b_PA_lengthOfLastName 42 = .ok (.iconst 0, 1) := by decide +kernel
theorem d_PA_lengthOfLastName_43 : decode b_PA_lengthOfLastName 43 = .ok (.ireturn, 1) := by decide +kernel
abbrev b_PA_leaf : ByteArray := prog_7_method_17_code
def y_PA_leaf : MethodName := ⟨R_PA, "leaf", "(I)I"⟩
theorem kc_PA_leaf : Cond.code y_PA_leaf b_PA_leaf 2 (some .int) ∈ lw_g := lw_gm (List.mem_append_right _ (List.mem_of_getElem? (i := 902) (by decide +kernel))) rfl
abbrev mw_PA_leaf : List Cond := Cond.code y_PA_leaf b_PA_leaf 2 (some .int) :: lw_g
theorem hd_PA_leaf : y_PA_leaf.cls = R_PA ∧ y_PA_leaf.cls ≠ "java/lang/invoke/MethodHandle" ∧ y_PA_leaf.cls ≠ "java/lang/invoke/VarHandle" ∧ (parseMethodDescriptor y_PA_leaf.desc).map (fun d => d.parameters.length) = some 1 := by decide +kernel
theorem d_PA_leaf_0 : decode b_PA_leaf 0 = .ok (.iload_n 1, 1) := by decide +kernel
theorem d_PA_leaf_1 : decode b_PA_leaf 1 = .ok (.ifCond .lt 29, 3) := by decide +kernel
theorem d_PA_leaf_4 : decode b_PA_leaf 4 = .ok (.iload_n 1, 1) := by decide +kernel
theorem d_PA_leaf_5 : decode b_PA_leaf 5 = .ok (.aload_n 0, 1) := by decide +kernel
theorem d_PA_leaf_6 : decode b_PA_leaf 6 = .ok (.getfield 127, 3) := by decide +kernel
theorem d_PA_leaf_9 : decode b_PA_leaf 9 = .ok (.if_icmp .ge 21, 3) := by decide +kernel
theorem d_PA_leaf_12 : decode b_PA_leaf 12 = .ok (.iload_n 1, 1) := by decide +kernel
theorem d_PA_leaf_13 : decode b_PA_leaf 13 = .ok (.aload_n 0, 1) := by decide +kernel
theorem d_PA_leaf_14 : decode b_PA_leaf 14 = .ok (.getfield 24, 3) := by decide +kernel
theorem d_PA_leaf_17 : decode b_PA_leaf 17 = .ok (.arraylength, 1) := by decide +kernel
theorem d_PA_leaf_18 : decode b_PA_leaf 18 = .ok (.if_icmp .ge 12, 3) := by decide +kernel
theorem d_PA_leaf_21 : decode b_PA_leaf 21 = .ok (.aload_n 0, 1) := by decide +kernel
theorem d_PA_leaf_22 : decode b_PA_leaf 22 = .ok (.getfield 24, 3) := by decide +kernel
theorem d_PA_leaf_25 : decode b_PA_leaf 25 = .ok (.iload_n 1, 1) := by decide +kernel
theorem d_PA_leaf_26 : decode b_PA_leaf 26 = .ok (.iaload, 1) := by decide +kernel
theorem d_PA_leaf_27 : decode b_PA_leaf 27 = .ok (.goto 4, 3) := by decide +kernel
theorem d_PA_leaf_30 : decode b_PA_leaf 30 = .ok (.iconst 0, 1) := by decide +kernel
theorem d_PA_leaf_31 : decode b_PA_leaf 31 = .ok (.ireturn, 1) := by decide +kernel
abbrev b_PA_read : ByteArray := prog_7_method_2_code
def y_PA_read : MethodName := ⟨R_PA, "read", "(II)Z"⟩
theorem kc_PA_read : Cond.code y_PA_read b_PA_read 6 (some .boolean) ∈ lw_g := lw_gm (List.mem_append_right _ (List.mem_of_getElem? (i := 580) (by decide +kernel))) rfl
abbrev mw_PA_read : List Cond := Cond.code y_PA_read b_PA_read 6 (some .boolean) :: lw_g
theorem hd_PA_read : y_PA_read.cls = R_PA ∧ y_PA_read.cls ≠ "java/lang/invoke/MethodHandle" ∧ y_PA_read.cls ≠ "java/lang/invoke/VarHandle" ∧ (parseMethodDescriptor y_PA_read.desc).map (fun d => d.parameters.length) = some 2 := by decide +kernel
theorem d_PA_read_0 : decode b_PA_read 0 = .ok (.aload_n 0, 1) := by decide +kernel
theorem d_PA_read_1 : decode b_PA_read 1 = .ok (.iconst 0, 1) := by decide +kernel
theorem d_PA_read_2 : decode b_PA_read 2 = .ok (.putfield 43, 3) := by decide +kernel
theorem d_PA_read_5 : decode b_PA_read 5 = .ok (.aload_n 0, 1) := by decide +kernel
theorem d_PA_read_6 : decode b_PA_read 6 = .ok (.iconst 0, 1) := by decide +kernel
theorem d_PA_read_7 : decode b_PA_read 7 = .ok (.putfield 47, 3) := by decide +kernel
theorem d_PA_read_10 : decode b_PA_read 10 = .ok (.iload_n 1, 1) := by decide +kernel
theorem d_PA_read_11 : decode b_PA_read 11 = .ok (.istore_n 3, 1) := by decide +kernel
theorem d_PA_read_12 : decode b_PA_read 12 = .ok (.iload_n 1, 1) := by decide +kernel
theorem d_PA_read_13 : decode b_PA_read 13 = .ok (.istore 4, 2) := by decide +kernel
theorem d_PA_read_15 : decode b_PA_read 15 = .ok (.iload 4, 2) := by decide +kernel
theorem d_PA_read_17 : decode b_PA_read 17 = .ok (.iload_n 2, 1) := by decide +kernel
theorem d_PA_read_18 : decode b_PA_read 18 = .ok (.if_icmp .gt 130, 3) := by decide +kernel
theorem d_PA_read_21 : decode b_PA_read 21 = .ok (.iload 4, 2) := by decide +kernel
theorem d_PA_read_23 : decode b_PA_read 23 = .ok (.iload_n 2, 1) := by decide +kernel
theorem d_PA_read_24 : decode b_PA_read 24 = .ok (.if_icmp .ge 15, 3) := by decide +kernel
theorem d_PA_read_27 : decode b_PA_read 27 = .ok (.aload_n 0, 1) := by decide +kernel
theorem d_PA_read_28 : decode b_PA_read 28 = .ok (.getfield 30, 3) := by decide +kernel
theorem d_PA_read_31 : decode b_PA_read 31 = .ok (.iload 4, 2) := by decide +kernel
theorem d_PA_read_33 : decode b_PA_read 33 = .ok (.invokevirtual 51, 3) := by decide +kernel
theorem d_PA_read_36 : decode b_PA_read 36 = .ok (.goto 5, 3) := by decide +kernel
theorem d_PA_read_39 : decode b_PA_read 39 = .ok (.bipush 46, 2) := by decide +kernel
theorem d_PA_read_41 : decode b_PA_read 41 = .ok (.istore 5, 2) := by decide +kernel
theorem d_PA_read_43 : decode b_PA_read 43 = .ok (.iload 5, 2) := by decide +kernel
theorem d_PA_read_45 : decode b_PA_read 45 = .ok (.ifCond .ne 5, 3) := by decide +kernel
theorem d_PA_read_48 : decode b_PA_read 48 = .ok (.iconst 0, 1) := by decide +kernel
theorem d_PA_read_49 : decode b_PA_read 49 = .ok (.ireturn, 1) := by decide +kernel
theorem d_PA_read_50 : decode b_PA_read 50 = .ok (.iload 5, 2) := by decide +kernel
theorem d_PA_read_52 : decode b_PA_read 52 = .ok (.bipush 46, 2) := by decide +kernel
theorem d_PA_read_54 : decode b_PA_read 54 = .ok (.if_icmp .ne 88, 3) := by decide +kernel
theorem d_PA_read_57 : decode b_PA_read 57 = .ok (.iload 4, 2) := by decide +kernel
theorem d_PA_read_59 : decode b_PA_read 59 = .ok (.iload_n 3, 1) := by decide +kernel
theorem d_PA_read_60 : decode b_PA_read 60 = .ok (.if_icmp .eq 25, 3) := by decide +kernel
theorem d_PA_read_63 : decode b_PA_read 63 = .ok (.aload_n 0, 1) := by decide +kernel
theorem d_PA_read_64 : decode b_PA_read 64 = .ok (.getfield 30, 3) := by decide +kernel
theorem d_PA_read_67 : decode b_PA_read 67 = .ok (.iload_n 3, 1) := by decide +kernel
theorem d_PA_read_68 : decode b_PA_read 68 = .ok (.invokevirtual 51, 3) := by decide +kernel
theorem d_PA_read_71 : decode b_PA_read 71 = .ok (.bipush 36, 2) := by decide +kernel
theorem d_PA_read_73 : decode b_PA_read 73 = .ok (.if_icmp .eq 12, 3) := by decide +kernel
theorem d_PA_read_76 : decode b_PA_read 76 = .ok (.aload_n 0, 1) := by decide +kernel
theorem d_PA_read_77 : decode b_PA_read 77 = .ok (.getfield 47, 3) := by decide +kernel
theorem d_PA_read_80 : decode b_PA_read 80 = .ok (.bipush 8, 2) := by decide +kernel
theorem d_PA_read_82 : decode b_PA_read 82 = .ok (.if_icmp .lt 5, 3) := by decide +kernel
theorem d_PA_read_85 : decode b_PA_read 85 = .ok (.iconst 0, 1) := by decide +kernel
theorem d_PA_read_86 : decode b_PA_read 86 = .ok (.ireturn, 1) := by decide +kernel
theorem d_PA_read_87 : decode b_PA_read 87 = .ok (.aload_n 0, 1) := by decide +kernel
theorem d_PA_read_88 : decode b_PA_read 88 = .ok (.getfield 9, 3) := by decide +kernel
theorem d_PA_read_91 : decode b_PA_read 91 = .ok (.aload_n 0, 1) := by decide +kernel
theorem d_PA_read_92 : decode b_PA_read 92 = .ok (.getfield 47, 3) := by decide +kernel
theorem d_PA_read_95 : decode b_PA_read 95 = .ok (.iload_n 3, 1) := by decide +kernel
theorem d_PA_read_96 : decode b_PA_read 96 = .ok (.iastore, 1) := by decide +kernel
theorem d_PA_read_97 : decode b_PA_read 97 = .ok (.aload_n 0, 1) := by decide +kernel
theorem d_PA_read_98 : decode b_PA_read 98 = .ok (.getfield 15, 3) := by decide +kernel
theorem d_PA_read_101 : decode b_PA_read 101 = .ok (.aload_n 0, 1) := by decide +kernel
theorem d_PA_read_102 : decode b_PA_read 102 = .ok (.getfield 47, 3) := by decide +kernel
theorem d_PA_read_105 : decode b_PA_read 105 = .ok (.iload 4, 2) := by decide +kernel
theorem d_PA_read_107 : decode b_PA_read 107 = .ok (.iastore, 1) := by decide +kernel
theorem d_PA_read_108 : decode b_PA_read 108 = .ok (.aload_n 0, 1) := by decide +kernel
theorem d_PA_read_109 : decode b_PA_read 109 = .ok (.getfield 18, 3) := by decide +kernel
theorem d_PA_read_112 : decode b_PA_read 112 = .ok (.aload_n 0, 1) := by decide +kernel
theorem d_PA_read_113 : decode b_PA_read 113 = .ok (.getfield 47, 3) := by decide +kernel
theorem d_PA_read_116 : decode b_PA_read 116 = .ok (.aload_n 0, 1) := by decide +kernel
theorem d_PA_read_117 : decode b_PA_read 117 = .ok (.getfield 30, 3) := by decide +kernel
theorem d_PA_read_120 : decode b_PA_read 120 = .ok (.iload_n 3, 1) := by decide +kernel
theorem d_PA_read_121 : decode b_PA_read 121 = .ok (.iload 4, 2) := by decide +kernel
theorem d_PA_read_123 : decode b_PA_read 123 = .ok (.invokevirtual 57, 3) := by decide +kernel
theorem d_PA_read_126 : decode b_PA_read 126 = .ok (.iastore, 1) := by decide +kernel
theorem d_PA_read_127 : decode b_PA_read 127 = .ok (.aload_n 0, 1) := by decide +kernel
theorem d_PA_read_128 : decode b_PA_read 128 = .ok (.dup, 1) := by decide +kernel
theorem d_PA_read_129 : decode b_PA_read 129 = .ok (.getfield 47, 3) := by decide +kernel
theorem d_PA_read_132 : decode b_PA_read 132 = .ok (.iconst 1, 1) := by decide +kernel
theorem d_PA_read_133 : decode b_PA_read 133 = .ok (.iadd, 1) := by decide +kernel
theorem d_PA_read_134 : decode b_PA_read 134 = .ok (.putfield 47, 3) := by decide +kernel
theorem d_PA_read_137 : decode b_PA_read 137 = .ok (.iload 4, 2) := by decide +kernel
theorem d_PA_read_139 : decode b_PA_read 139 = .ok (.iconst 1, 1) := by decide +kernel
theorem d_PA_read_140 : decode b_PA_read 140 = .ok (.iadd, 1) := by decide +kernel
theorem d_PA_read_141 : decode b_PA_read 141 = .ok (.istore_n 3, 1) := by decide +kernel
theorem d_PA_read_142 : decode b_PA_read 142 = .ok (.iinc 4 1, 3) := by decide +kernel
theorem d_PA_read_145 : decode b_PA_read 145 = .ok (.goto (-130), 3) := by decide +kernel
theorem d_PA_read_148 : decode b_PA_read 148 = .ok (.aload_n 0, 1) := by decide +kernel
theorem d_PA_read_149 : decode b_PA_read 149 = .ok (.getfield 47, 3) := by decide +kernel
theorem d_PA_read_152 : decode b_PA_read 152 = .ok (.ifCond .le 7, 3) := by decide +kernel
theorem d_PA_read_155 : decode b_PA_read 155 = .ok (.iconst 1, 1) := by decide +kernel
theorem d_PA_read_156 : decode b_PA_read 156 = .ok (.goto 4, 3) := by decide +kernel
theorem d_PA_read_159 : decode b_PA_read 159 = .ok (.iconst 0, 1) := by decide +kernel
theorem d_PA_read_160 : decode b_PA_read 160 = .ok (.ireturn, 1) := by decide +kernel
abbrev b_PA_readText : ByteArray := prog_7_method_3_code
def y_PA_readText : MethodName := ⟨R_PA, "readText", "(I)Z"⟩
theorem kc_PA_readText : Cond.code y_PA_readText b_PA_readText 2 (some .boolean) ∈ lw_g := lw_gm (List.mem_append_right _ (List.mem_of_getElem? (i := 950) (by decide +kernel))) rfl
abbrev mw_PA_readText : List Cond := Cond.code y_PA_readText b_PA_readText 2 (some .boolean) :: lw_g
theorem hd_PA_readText : y_PA_readText.cls = R_PA ∧ y_PA_readText.cls ≠ "java/lang/invoke/MethodHandle" ∧ y_PA_readText.cls ≠ "java/lang/invoke/VarHandle" ∧ (parseMethodDescriptor y_PA_readText.desc).map (fun d => d.parameters.length) = some 1 := by decide +kernel
theorem d_PA_readText_0 : decode b_PA_readText 0 = .ok (.aload_n 0, 1) := by decide +kernel
theorem d_PA_readText_1 : decode b_PA_readText 1 = .ok (.iload_n 1, 1) := by decide +kernel
theorem d_PA_readText_2 : decode b_PA_readText 2 = .ok (.invokestatic 61, 3) := by decide +kernel
theorem d_PA_readText_5 : decode b_PA_readText 5 = .ok (.iconst 4, 1) := by decide +kernel
theorem d_PA_readText_6 : decode b_PA_readText 6 = .ok (.iadd, 1) := by decide +kernel
theorem d_PA_readText_7 : decode b_PA_readText 7 = .ok (.aload_n 0, 1) := by decide +kernel
theorem d_PA_readText_8 : decode b_PA_readText 8 = .ok (.getfield 30, 3) := by decide +kernel
theorem d_PA_readText_11 : decode b_PA_readText 11 = .ok (.iload_n 1, 1) := by decide +kernel
theorem d_PA_readText_12 : decode b_PA_readText 12 = .ok (.invokevirtual 64, 3) := by decide +kernel
theorem d_PA_readText_15 : decode b_PA_readText 15 = .ok (.iconst 1, 1) := by decide +kernel
theorem d_PA_readText_16 : decode b_PA_readText 16 = .ok (.isub, 1) := by decide +kernel
theorem d_PA_readText_17 : decode b_PA_readText 17 = .ok (.invokevirtual 67, 3) := by decide +kernel
theorem d_PA_readText_20 : decode b_PA_readText 20 = .ok (.ireturn, 1) := by decide +kernel
abbrev b_PA_readBehindDollar : ByteArray := prog_7_method_4_code
def y_PA_readBehindDollar : MethodName := ⟨R_PA, "readBehindDollar", "(I)Z"⟩
theorem kc_PA_readBehindDollar : Cond.code y_PA_readBehindDollar b_PA_readBehindDollar 2 (some .boolean) ∈ lw_g := lw_gm (List.mem_append_right _ (List.mem_of_getElem? (i := 677) (by decide +kernel))) rfl
abbrev mw_PA_readBehindDollar : List Cond := Cond.code y_PA_readBehindDollar b_PA_readBehindDollar 2 (some .boolean) :: lw_g
theorem hd_PA_readBehindDollar : y_PA_readBehindDollar.cls = R_PA ∧ y_PA_readBehindDollar.cls ≠ "java/lang/invoke/MethodHandle" ∧ y_PA_readBehindDollar.cls ≠ "java/lang/invoke/VarHandle" ∧ (parseMethodDescriptor y_PA_readBehindDollar.desc).map (fun d => d.parameters.length) = some 1 := by decide +kernel
theorem d_PA_readBehindDollar_0 : decode b_PA_readBehindDollar 0 = .ok (.aload_n 0, 1) := by decide +kernel
theorem d_PA_readBehindDollar_1 : decode b_PA_readBehindDollar 1 = .ok (.iload_n 1, 1) := by decide +kernel
theorem d_PA_readBehindDollar_2 : decode b_PA_readBehindDollar 2 = .ok (.invokestatic 61, 3) := by decide +kernel
theorem d_PA_readBehindDollar_5 : decode b_PA_readBehindDollar 5 = .ok (.iconst 5, 1) := by decide +kernel
theorem d_PA_readBehindDollar_6 : decode b_PA_readBehindDollar 6 = .ok (.iadd, 1) := by decide +kernel
theorem d_PA_readBehindDollar_7 : decode b_PA_readBehindDollar 7 = .ok (.aload_n 0, 1) := by decide +kernel
theorem d_PA_readBehindDollar_8 : decode b_PA_readBehindDollar 8 = .ok (.getfield 30, 3) := by decide +kernel
theorem d_PA_readBehindDollar_11 : decode b_PA_readBehindDollar 11 = .ok (.iload_n 1, 1) := by decide +kernel
theorem d_PA_readBehindDollar_12 : decode b_PA_readBehindDollar 12 = .ok (.invokevirtual 64, 3) := by decide +kernel
theorem d_PA_readBehindDollar_15 : decode b_PA_readBehindDollar 15 = .ok (.iconst 1, 1) := by decide +kernel
theorem d_PA_readBehindDollar_16 : decode b_PA_readBehindDollar 16 = .ok (.isub, 1) := by decide +kernel
theorem d_PA_readBehindDollar_17 : decode b_PA_readBehindDollar 17 = .ok (.invokevirtual 67, 3) := by decide +kernel
theorem d_PA_readBehindDollar_20 : decode b_PA_readBehindDollar 20 = .ok (.ireturn, 1) := by decide +kernel
abbrev b_PA_readExpression : ByteArray := prog_7_method_5_code
def y_PA_readExpression : MethodName := ⟨R_PA, "readExpression", "(I)Z"⟩
theorem kc_PA_readExpression : Cond.code y_PA_readExpression b_PA_readExpression 2 (some .boolean) ∈ lw_g := lw_gm (List.mem_append_right _ (List.mem_of_getElem? (i := 568) (by decide +kernel))) rfl
abbrev mw_PA_readExpression : List Cond := Cond.code y_PA_readExpression b_PA_readExpression 2 (some .boolean) :: lw_g
theorem hd_PA_readExpression : y_PA_readExpression.cls = R_PA ∧ y_PA_readExpression.cls ≠ "java/lang/invoke/MethodHandle" ∧ y_PA_readExpression.cls ≠ "java/lang/invoke/VarHandle" ∧ (parseMethodDescriptor y_PA_readExpression.desc).map (fun d => d.parameters.length) = some 1 := by decide +kernel
theorem d_PA_readExpression_0 : decode b_PA_readExpression 0 = .ok (.aload_n 0, 1) := by decide +kernel
theorem d_PA_readExpression_1 : decode b_PA_readExpression 1 = .ok (.iload_n 1, 1) := by decide +kernel
theorem d_PA_readExpression_2 : decode b_PA_readExpression 2 = .ok (.invokevirtual 71, 3) := by decide +kernel
theorem d_PA_readExpression_5 : decode b_PA_readExpression 5 = .ok (.ifCond .eq 24, 3) := by decide +kernel
theorem d_PA_readExpression_8 : decode b_PA_readExpression 8 = .ok (.aload_n 0, 1) := by decide +kernel
theorem d_PA_readExpression_9 : decode b_PA_readExpression 9 = .ok (.iload_n 1, 1) := by decide +kernel
theorem d_PA_readExpression_10 : decode b_PA_readExpression 10 = .ok (.invokestatic 61, 3) := by decide +kernel
theorem d_PA_readExpression_13 : decode b_PA_readExpression 13 = .ok (.iconst 5, 1) := by decide +kernel
theorem d_PA_readExpression_14 : decode b_PA_readExpression 14 = .ok (.iadd, 1) := by decide +kernel
theorem d_PA_readExpression_15 : decode b_PA_readExpression 15 = .ok (.aload_n 0, 1) := by decide +kernel
theorem d_PA_readExpression_16 : decode b_PA_readExpression 16 = .ok (.getfield 30, 3) := by decide +kernel
theorem d_PA_readExpression_19 : decode b_PA_readExpression 19 = .ok (.iload_n 1, 1) := by decide +kernel
theorem d_PA_readExpression_20 : decode b_PA_readExpression 20 = .ok (.invokevirtual 64, 3) := by decide +kernel
theorem d_PA_readExpression_23 : decode b_PA_readExpression 23 = .ok (.iconst 1, 1) := by decide +kernel
theorem d_PA_readExpression_24 : decode b_PA_readExpression 24 = .ok (.isub, 1) := by decide +kernel
theorem d_PA_readExpression_25 : decode b_PA_readExpression 25 = .ok (.invokevirtual 67, 3) := by decide +kernel
theorem d_PA_readExpression_28 : decode b_PA_readExpression 28 = .ok (.ireturn, 1) := by decide +kernel
theorem d_PA_readExpression_29 : decode b_PA_readExpression 29 = .ok (.aload_n 0, 1) := by decide +kernel
theorem d_PA_readExpression_30 : decode b_PA_readExpression 30 = .ok (.iconst 1, 1) := by decide +kernel
theorem d_PA_readExpression_31 : decode b_PA_readExpression 31 = .ok (.putfield 43, 3) := by decide +kernel
theorem d_PA_readExpression_34 : decode b_PA_readExpression 34 = .ok (.aload_n 0, 1) := by decide +kernel
theorem d_PA_readExpression_35 : decode b_PA_readExpression 35 = .ok (.iload_n 1, 1) := by decide +kernel
theorem d_PA_readExpression_36 : decode b_PA_readExpression 36 = .ok (.putfield 75, 3) := by decide +kernel
theorem d_PA_readExpression_39 : decode b_PA_readExpression 39 = .ok (.iconst 1, 1) := by decide +kernel
theorem d_PA_readExpression_40 : decode b_PA_readExpression 40 = .ok (.ireturn, 1) := by decide +kernel
abbrev b_PA_throughDocuments : ByteArray := prog_7_method_8_code
def y_PA_throughDocuments : MethodName := ⟨R_PA, "throughDocuments", "(I)I"⟩
theorem kc_PA_throughDocuments : Cond.code y_PA_throughDocuments b_PA_throughDocuments 4 (some .int) ∈ lw_g := lw_gm (List.mem_append_right _ (List.mem_of_getElem? (i := 681) (by decide +kernel))) rfl
abbrev mw_PA_throughDocuments : List Cond := Cond.code y_PA_throughDocuments b_PA_throughDocuments 4 (some .int) :: lw_g
theorem hd_PA_throughDocuments : y_PA_throughDocuments.cls = R_PA ∧ y_PA_throughDocuments.cls ≠ "java/lang/invoke/MethodHandle" ∧ y_PA_throughDocuments.cls ≠ "java/lang/invoke/VarHandle" ∧ (parseMethodDescriptor y_PA_throughDocuments.desc).map (fun d => d.parameters.length) = some 1 := by decide +kernel
theorem d_PA_throughDocuments_0 : decode b_PA_throughDocuments 0 = .ok (.iload_n 1, 1) := by decide +kernel
theorem d_PA_throughDocuments_1 : decode b_PA_throughDocuments 1 = .ok (.istore_n 2, 1) := by decide +kernel
theorem d_PA_throughDocuments_2 : decode b_PA_throughDocuments 2 = .ok (.iconst 0, 1) := by decide +kernel
theorem d_PA_throughDocuments_3 : decode b_PA_throughDocuments 3 = .ok (.istore_n 3, 1) := by decide +kernel
theorem d_PA_throughDocuments_4 : decode b_PA_throughDocuments 4 = .ok (.iload_n 3, 1) := by decide +kernel
theorem d_PA_throughDocuments_5 : decode b_PA_throughDocuments 5 = .ok (.aload_n 0, 1) := by decide +kernel
theorem d_PA_throughDocuments_6 : decode b_PA_throughDocuments 6 = .ok (.getfield 47, 3) := by decide +kernel
theorem d_PA_throughDocuments_9 : decode b_PA_throughDocuments 9 = .ok (.if_icmp .ge 56, 3) := by decide +kernel
theorem d_PA_throughDocuments_12 : decode b_PA_throughDocuments 12 = .ok (.iload_n 3, 1) := by decide +kernel
theorem d_PA_throughDocuments_13 : decode b_PA_throughDocuments 13 = .ok (.bipush 8, 2) := by decide +kernel
theorem d_PA_throughDocuments_15 : decode b_PA_throughDocuments 15 = .ok (.if_icmp .ge 50, 3) := by decide +kernel
theorem d_PA_throughDocuments_18 : decode b_PA_throughDocuments 18 = .ok (.iload_n 2, 1) := by decide +kernel
theorem d_PA_throughDocuments_19 : decode b_PA_throughDocuments 19 = .ok (.invokestatic 78, 3) := by decide +kernel
theorem d_PA_throughDocuments_22 : decode b_PA_throughDocuments 22 = .ok (.iconst 3, 1) := by decide +kernel
theorem d_PA_throughDocuments_23 : decode b_PA_throughDocuments 23 = .ok (.if_icmp .eq 5, 3) := by decide +kernel
theorem d_PA_throughDocuments_26 : decode b_PA_throughDocuments 26 = .ok (.iconst 0, 1) := by decide +kernel
theorem d_PA_throughDocuments_27 : decode b_PA_throughDocuments 27 = .ok (.ireturn, 1) := by decide +kernel
theorem d_PA_throughDocuments_28 : decode b_PA_throughDocuments 28 = .ok (.aload_n 0, 1) := by decide +kernel
theorem d_PA_throughDocuments_29 : decode b_PA_throughDocuments 29 = .ok (.getfield 21, 3) := by decide +kernel
theorem d_PA_throughDocuments_32 : decode b_PA_throughDocuments 32 = .ok (.iload_n 3, 1) := by decide +kernel
theorem d_PA_throughDocuments_33 : decode b_PA_throughDocuments 33 = .ok (.iload_n 2, 1) := by decide +kernel
theorem d_PA_throughDocuments_34 : decode b_PA_throughDocuments 34 = .ok (.invokestatic 61, 3) := by decide +kernel
theorem d_PA_throughDocuments_37 : decode b_PA_throughDocuments 37 = .ok (.iastore, 1) := by decide +kernel
theorem d_PA_throughDocuments_38 : decode b_PA_throughDocuments 38 = .ok (.aload_n 0, 1) := by decide +kernel
theorem d_PA_throughDocuments_39 : decode b_PA_throughDocuments 39 = .ok (.getfield 30, 3) := by decide +kernel
theorem d_PA_throughDocuments_42 : decode b_PA_throughDocuments 42 = .ok (.iload_n 2, 1) := by decide +kernel
theorem d_PA_throughDocuments_43 : decode b_PA_throughDocuments 43 = .ok (.aload_n 0, 1) := by decide +kernel
theorem d_PA_throughDocuments_44 : decode b_PA_throughDocuments 44 = .ok (.getfield 9, 3) := by decide +kernel
theorem d_PA_throughDocuments_47 : decode b_PA_throughDocuments 47 = .ok (.iload_n 3, 1) := by decide +kernel
theorem d_PA_throughDocuments_48 : decode b_PA_throughDocuments 48 = .ok (.iaload, 1) := by decide +kernel
theorem d_PA_throughDocuments_49 : decode b_PA_throughDocuments 49 = .ok (.aload_n 0, 1) := by decide +kernel
theorem d_PA_throughDocuments_50 : decode b_PA_throughDocuments 50 = .ok (.getfield 15, 3) := by decide +kernel
theorem d_PA_throughDocuments_53 : decode b_PA_throughDocuments 53 = .ok (.iload_n 3, 1) := by decide +kernel
theorem d_PA_throughDocuments_54 : decode b_PA_throughDocuments 54 = .ok (.iaload, 1) := by decide +kernel
theorem d_PA_throughDocuments_55 : decode b_PA_throughDocuments 55 = .ok (.invokevirtual 81, 3) := by decide +kernel
theorem d_PA_throughDocuments_58 : decode b_PA_throughDocuments 58 = .ok (.istore_n 2, 1) := by decide +kernel
theorem d_PA_throughDocuments_59 : decode b_PA_throughDocuments 59 = .ok (.iinc 3 1, 3) := by decide +kernel
theorem d_PA_throughDocuments_62 : decode b_PA_throughDocuments 62 = .ok (.goto (-58), 3) := by decide +kernel
theorem d_PA_throughDocuments_65 : decode b_PA_throughDocuments 65 = .ok (.iload_n 2, 1) := by decide +kernel
theorem d_PA_throughDocuments_66 : decode b_PA_throughDocuments 66 = .ok (.ireturn, 1) := by decide +kernel
abbrev b_PA_makeRowsAt : ByteArray := prog_7_method_9_code
def y_PA_makeRowsAt : MethodName := ⟨R_PA, "makeRowsAt", "(I)V"⟩
theorem kc_PA_makeRowsAt : Cond.code y_PA_makeRowsAt b_PA_makeRowsAt 2 none ∈ lw_g := lw_gm (List.mem_append_right _ (List.mem_of_getElem? (i := 619) (by decide +kernel))) rfl
abbrev mw_PA_makeRowsAt : List Cond := Cond.code y_PA_makeRowsAt b_PA_makeRowsAt 2 none :: lw_g
theorem hd_PA_makeRowsAt : y_PA_makeRowsAt.cls = R_PA ∧ y_PA_makeRowsAt.cls ≠ "java/lang/invoke/MethodHandle" ∧ y_PA_makeRowsAt.cls ≠ "java/lang/invoke/VarHandle" ∧ (parseMethodDescriptor y_PA_makeRowsAt.desc).map (fun d => d.parameters.length) = some 1 := by decide +kernel
theorem d_PA_makeRowsAt_0 : decode b_PA_makeRowsAt 0 = .ok (.aload_n 0, 1) := by decide +kernel
theorem d_PA_makeRowsAt_1 : decode b_PA_makeRowsAt 1 = .ok (.getfield 39, 3) := by decide +kernel
theorem d_PA_makeRowsAt_4 : decode b_PA_makeRowsAt 4 = .ok (.iload_n 1, 1) := by decide +kernel
theorem d_PA_makeRowsAt_5 : decode b_PA_makeRowsAt 5 = .ok (.ldc 85, 2) := by decide +kernel
theorem d_PA_makeRowsAt_7 : decode b_PA_makeRowsAt 7 = .ok (.invokevirtual 86, 3) := by decide +kernel
theorem d_PA_makeRowsAt_10 : decode b_PA_makeRowsAt 10 = .ok (.return_, 1) := by decide +kernel
abbrev b_PA_meet : ByteArray := prog_7_method_16_code
def y_PA_meet : MethodName := ⟨R_PA, "meet", "(I)V"⟩
theorem kc_PA_meet : Cond.code y_PA_meet b_PA_meet 4 none ∈ lw_g := lw_gm (List.mem_append_right _ (List.mem_of_getElem? (i := 882) (by decide +kernel))) rfl
abbrev mw_PA_meet : List Cond := Cond.code y_PA_meet b_PA_meet 4 none :: lw_g
theorem hd_PA_meet : y_PA_meet.cls = R_PA ∧ y_PA_meet.cls ≠ "java/lang/invoke/MethodHandle" ∧ y_PA_meet.cls ≠ "java/lang/invoke/VarHandle" ∧ (parseMethodDescriptor y_PA_meet.desc).map (fun d => d.parameters.length) = some 1 := by decide +kernel
theorem kp_PA_meet : Cond.selects R_PA y_PA_meet y_PA_meet ∈ lw_g := lw_gm (List.mem_append_left _ (by decide +kernel)) rfl
theorem d_PA_meet_0 : decode b_PA_meet 0 = .ok (.iload_n 1, 1) := by decide +kernel
theorem d_PA_meet_1 : decode b_PA_meet 1 = .ok (.invokestatic 61, 3) := by decide +kernel
theorem d_PA_meet_4 : decode b_PA_meet 4 = .ok (.aload_n 0, 1) := by decide +kernel
theorem d_PA_meet_5 : decode b_PA_meet 5 = .ok (.getfield 136, 3) := by decide +kernel
theorem d_PA_meet_8 : decode b_PA_meet 8 = .ok (.isub, 1) := by decide +kernel
theorem d_PA_meet_9 : decode b_PA_meet 9 = .ok (.istore_n 2, 1) := by decide +kernel
theorem d_PA_meet_10 : decode b_PA_meet 10 = .ok (.aload_n 0, 1) := by decide +kernel
theorem d_PA_meet_11 : decode b_PA_meet 11 = .ok (.getfield 130, 3) := by decide +kernel
theorem d_PA_meet_14 : decode b_PA_meet 14 = .ok (.istore_n 3, 1) := by decide +kernel
theorem d_PA_meet_15 : decode b_PA_meet 15 = .ok (.iload_n 1, 1) := by decide +kernel
theorem d_PA_meet_16 : decode b_PA_meet 16 = .ok (.ifCond .ne 11, 3) := by decide +kernel
theorem d_PA_meet_19 : decode b_PA_meet 19 = .ok (.aload_n 0, 1) := by decide +kernel
theorem d_PA_meet_20 : decode b_PA_meet 20 = .ok (.iconst 1, 1) := by decide +kernel
theorem d_PA_meet_21 : decode b_PA_meet 21 = .ok (.putfield 130, 3) := by decide +kernel
theorem d_PA_meet_24 : decode b_PA_meet 24 = .ok (.goto 43, 3) := by decide +kernel
theorem d_PA_meet_27 : decode b_PA_meet 27 = .ok (.iload_n 2, 1) := by decide +kernel
theorem d_PA_meet_28 : decode b_PA_meet 28 = .ok (.ifCond .lt 39, 3) := by decide +kernel
theorem d_PA_meet_31 : decode b_PA_meet 31 = .ok (.iload_n 2, 1) := by decide +kernel
theorem d_PA_meet_32 : decode b_PA_meet 32 = .ok (.sipush 2000, 3) := by decide +kernel
theorem d_PA_meet_35 : decode b_PA_meet 35 = .ok (.if_icmp .ge 32, 3) := by decide +kernel
theorem d_PA_meet_38 : decode b_PA_meet 38 = .ok (.aload_n 0, 1) := by decide +kernel
theorem d_PA_meet_39 : decode b_PA_meet 39 = .ok (.getfield 27, 3) := by decide +kernel
theorem d_PA_meet_42 : decode b_PA_meet 42 = .ok (.iload_n 2, 1) := by decide +kernel
theorem d_PA_meet_43 : decode b_PA_meet 43 = .ok (.iaload, 1) := by decide +kernel
theorem d_PA_meet_44 : decode b_PA_meet 44 = .ok (.aload_n 0, 1) := by decide +kernel
theorem d_PA_meet_45 : decode b_PA_meet 45 = .ok (.getfield 133, 3) := by decide +kernel
theorem d_PA_meet_48 : decode b_PA_meet 48 = .ok (.if_icmp .ne 7, 3) := by decide +kernel
theorem d_PA_meet_51 : decode b_PA_meet 51 = .ok (.iconst 1, 1) := by decide +kernel
theorem d_PA_meet_52 : decode b_PA_meet 52 = .ok (.goto 4, 3) := by decide +kernel
theorem d_PA_meet_55 : decode b_PA_meet 55 = .ok (.iconst 0, 1) := by decide +kernel
theorem d_PA_meet_56 : decode b_PA_meet 56 = .ok (.istore_n 3, 1) := by decide +kernel
theorem d_PA_meet_57 : decode b_PA_meet 57 = .ok (.aload_n 0, 1) := by decide +kernel
theorem d_PA_meet_58 : decode b_PA_meet 58 = .ok (.getfield 27, 3) := by decide +kernel
theorem d_PA_meet_61 : decode b_PA_meet 61 = .ok (.iload_n 2, 1) := by decide +kernel
theorem d_PA_meet_62 : decode b_PA_meet 62 = .ok (.aload_n 0, 1) := by decide +kernel
theorem d_PA_meet_63 : decode b_PA_meet 63 = .ok (.getfield 133, 3) := by decide +kernel
theorem d_PA_meet_66 : decode b_PA_meet 66 = .ok (.iastore, 1) := by decide +kernel
theorem d_PA_meet_67 : decode b_PA_meet 67 = .ok (.iload_n 3, 1) := by decide +kernel
theorem d_PA_meet_68 : decode b_PA_meet 68 = .ok (.ifCond .ne 35, 3) := by decide +kernel
theorem d_PA_meet_71 : decode b_PA_meet 71 = .ok (.aload_n 0, 1) := by decide +kernel
theorem d_PA_meet_72 : decode b_PA_meet 72 = .ok (.getfield 127, 3) := by decide +kernel
theorem d_PA_meet_75 : decode b_PA_meet 75 = .ok (.aload_n 0, 1) := by decide +kernel
theorem d_PA_meet_76 : decode b_PA_meet 76 = .ok (.getfield 24, 3) := by decide +kernel
theorem d_PA_meet_79 : decode b_PA_meet 79 = .ok (.arraylength, 1) := by decide +kernel
theorem d_PA_meet_80 : decode b_PA_meet 80 = .ok (.if_icmp .ge 23, 3) := by decide +kernel
theorem d_PA_meet_83 : decode b_PA_meet 83 = .ok (.aload_n 0, 1) := by decide +kernel
theorem d_PA_meet_84 : decode b_PA_meet 84 = .ok (.getfield 24, 3) := by decide +kernel
theorem d_PA_meet_87 : decode b_PA_meet 87 = .ok (.aload_n 0, 1) := by decide +kernel
theorem d_PA_meet_88 : decode b_PA_meet 88 = .ok (.getfield 127, 3) := by decide +kernel
theorem d_PA_meet_91 : decode b_PA_meet 91 = .ok (.iload_n 1, 1) := by decide +kernel
theorem d_PA_meet_92 : decode b_PA_meet 92 = .ok (.iastore, 1) := by decide +kernel
theorem d_PA_meet_93 : decode b_PA_meet 93 = .ok (.aload_n 0, 1) := by decide +kernel
theorem d_PA_meet_94 : decode b_PA_meet 94 = .ok (.dup, 1) := by decide +kernel
theorem d_PA_meet_95 : decode b_PA_meet 95 = .ok (.getfield 127, 3) := by decide +kernel
theorem d_PA_meet_98 : decode b_PA_meet 98 = .ok (.iconst 1, 1) := by decide +kernel
theorem d_PA_meet_99 : decode b_PA_meet 99 = .ok (.iadd, 1) := by decide +kernel
theorem d_PA_meet_100 : decode b_PA_meet 100 = .ok (.putfield 127, 3) := by decide +kernel
theorem d_PA_meet_103 : decode b_PA_meet 103 = .ok (.return_, 1) := by decide +kernel
abbrev b_PA_meetItems : ByteArray := prog_7_method_15_code
def y_PA_meetItems : MethodName := ⟨R_PA, "meetItems", "(I)V"⟩
theorem kc_PA_meetItems : Cond.code y_PA_meetItems b_PA_meetItems 6 none ∈ lw_g := lw_gm (List.mem_append_right _ (List.mem_of_getElem? (i := 886) (by decide +kernel))) rfl
abbrev mw_PA_meetItems : List Cond := Cond.code y_PA_meetItems b_PA_meetItems 6 none :: lw_g
theorem hd_PA_meetItems : y_PA_meetItems.cls = R_PA ∧ y_PA_meetItems.cls ≠ "java/lang/invoke/MethodHandle" ∧ y_PA_meetItems.cls ≠ "java/lang/invoke/VarHandle" ∧ (parseMethodDescriptor y_PA_meetItems.desc).map (fun d => d.parameters.length) = some 1 := by decide +kernel
theorem kp_PA_meetItems : Cond.selects R_PA y_PA_meetItems y_PA_meetItems ∈ lw_g := lw_gm (List.mem_append_left _ (by decide +kernel)) rfl
theorem d_PA_meetItems_0 : decode b_PA_meetItems 0 = .ok (.aload_n 0, 1) := by decide +kernel
theorem d_PA_meetItems_1 : decode b_PA_meetItems 1 = .ok (.getfield 30, 3) := by decide +kernel
theorem d_PA_meetItems_4 : decode b_PA_meetItems 4 = .ok (.iload_n 1, 1) := by decide +kernel
theorem d_PA_meetItems_5 : decode b_PA_meetItems 5 = .ok (.invokevirtual 64, 3) := by decide +kernel
theorem d_PA_meetItems_8 : decode b_PA_meetItems 8 = .ok (.iconst 1, 1) := by decide +kernel
theorem d_PA_meetItems_9 : decode b_PA_meetItems 9 = .ok (.isub, 1) := by decide +kernel
theorem d_PA_meetItems_10 : decode b_PA_meetItems 10 = .ok (.istore_n 2, 1) := by decide +kernel
theorem d_PA_meetItems_11 : decode b_PA_meetItems 11 = .ok (.iload_n 1, 1) := by decide +kernel
theorem d_PA_meetItems_12 : decode b_PA_meetItems 12 = .ok (.invokestatic 61, 3) := by decide +kernel
theorem d_PA_meetItems_15 : decode b_PA_meetItems 15 = .ok (.iconst 4, 1) := by decide +kernel
theorem d_PA_meetItems_16 : decode b_PA_meetItems 16 = .ok (.iadd, 1) := by decide +kernel
theorem d_PA_meetItems_17 : decode b_PA_meetItems 17 = .ok (.istore_n 3, 1) := by decide +kernel
theorem d_PA_meetItems_18 : decode b_PA_meetItems 18 = .ok (.iconst 0, 1) := by decide +kernel
theorem d_PA_meetItems_19 : decode b_PA_meetItems 19 = .ok (.istore 4, 2) := by decide +kernel
theorem d_PA_meetItems_21 : decode b_PA_meetItems 21 = .ok (.iload 4, 2) := by decide +kernel
theorem d_PA_meetItems_23 : decode b_PA_meetItems 23 = .ok (.sipush 1000, 3) := by decide +kernel
theorem d_PA_meetItems_26 : decode b_PA_meetItems 26 = .ok (.if_icmp .ge 40, 3) := by decide +kernel
theorem d_PA_meetItems_29 : decode b_PA_meetItems 29 = .ok (.iload_n 3, 1) := by decide +kernel
theorem d_PA_meetItems_30 : decode b_PA_meetItems 30 = .ok (.iload_n 2, 1) := by decide +kernel
theorem d_PA_meetItems_31 : decode b_PA_meetItems 31 = .ok (.if_icmp .ge 35, 3) := by decide +kernel
theorem d_PA_meetItems_34 : decode b_PA_meetItems 34 = .ok (.aload_n 0, 1) := by decide +kernel
theorem d_PA_meetItems_35 : decode b_PA_meetItems 35 = .ok (.getfield 30, 3) := by decide +kernel
theorem d_PA_meetItems_38 : decode b_PA_meetItems 38 = .ok (.iload_n 3, 1) := by decide +kernel
theorem d_PA_meetItems_39 : decode b_PA_meetItems 39 = .ok (.invokevirtual 102, 3) := by decide +kernel
theorem d_PA_meetItems_42 : decode b_PA_meetItems 42 = .ok (.istore 5, 2) := by decide +kernel
theorem d_PA_meetItems_44 : decode b_PA_meetItems 44 = .ok (.aload_n 0, 1) := by decide +kernel
theorem d_PA_meetItems_45 : decode b_PA_meetItems 45 = .ok (.iload 5, 2) := by decide +kernel
theorem d_PA_meetItems_47 : decode b_PA_meetItems 47 = .ok (.invokevirtual 143, 3) := by decide +kernel
theorem d_PA_meetItems_50 : decode b_PA_meetItems 50 = .ok (.aload_n 0, 1) := by decide +kernel
theorem d_PA_meetItems_51 : decode b_PA_meetItems 51 = .ok (.getfield 30, 3) := by decide +kernel
theorem d_PA_meetItems_54 : decode b_PA_meetItems 54 = .ok (.iload 5, 2) := by decide +kernel
theorem d_PA_meetItems_56 : decode b_PA_meetItems 56 = .ok (.invokevirtual 64, 3) := by decide +kernel
theorem d_PA_meetItems_59 : decode b_PA_meetItems 59 = .ok (.istore_n 3, 1) := by decide +kernel
theorem d_PA_meetItems_60 : decode b_PA_meetItems 60 = .ok (.iinc 4 1, 3) := by decide +kernel
theorem d_PA_meetItems_63 : decode b_PA_meetItems 63 = .ok (.goto (-42), 3) := by decide +kernel
theorem d_PA_meetItems_66 : decode b_PA_meetItems 66 = .ok (.return_, 1) := by decide +kernel
/-- how far a path's reading may still go: behind the store's end there is nothing but 0 -/
theorem at_in {b : Nat → UInt8} {x : Int32} (h : ¬ tw_ST_at b x = 0) : 0 ≤ x.toInt ∧ x.toInt < 202000 := by
  unfold tw_ST_at at h
  by_cases c : x < 0
  · rw [if_pos c] at h
    exact absurd rfl h
  · rw [if_neg c] at h
    by_cases d : 202000 ≤ x
    · rw [if_pos d] at h
      exact absurd rfl h
    · have y : (202000 : Int32).toInt = 202000 := rfl
      exact ⟨i_nn c, by have := i_nle d; omega⟩
theorem rd_s {b : Nat → UInt8} {to i : Int32} {n : Nat} (h : rd_mu to i < n + 1) (c : ¬ to < i) (d : ¬ tw_ST_at b i = 0) : rd_mu to (i + 1) < n := by
  obtain ⟨h1, h2⟩ := at_in d
  have e : (i + 1).toInt = i.toInt + 1 := i_add (a := i) (b := 1) (by show _ ≤ i.toInt + 1; omega) (by show i.toInt + 1 < _; omega)
  unfold rd_mu at h ⊢
  rw [if_neg c, if_pos ⟨h1, h2⟩] at h
  split
  · omega
  · split
    · omega
    · split <;> omega
theorem rd_e {to i : Int32} {n : Nat} (h : rd_mu to i < n + 1) (c : ¬ to < i) (d : to ≤ i) : rd_mu to (i + 1) < n := by
  have q1 := i_nlt c
  have q2 := i_le.mp d
  have e0 : i = to := Int32.toInt_inj.mp (by omega)
  subst e0
  have hn : 1 ≤ rd_mu i i := by
    unfold rd_mu
    rw [if_neg c]
    split
    · omega
    · rw [if_pos rfl]; omega
  have hz : rd_mu i (i + 1) = 0 := by
    unfold rd_mu
    by_cases f : i < i + 1
    · rw [if_pos f]
    · rw [if_neg f]
      have g1 := i_nlt f
      have lo := i_lo i
      have hi := i_hi i
      have g2 : i.toInt = 2147483647 := by
        rcases Int.lt_or_le i.toInt 2147483647 with q | q
        · have e : (i + 1).toInt = i.toInt + 1 := i_add (a := i) (b := 1) (by show _ ≤ i.toInt + 1; omega) (by show i.toInt + 1 < _; omega)
          omega
        · omega
      have g3 : i = 2147483647 := Int32.toInt_inj.mp (by rw [g2]; rfl)
      subst g3
      decide
  omega
theorem lp_le {i b : Int32} {n : Nat} (h : (b.toInt + 1 - i.toInt).toNat < n + 1) (c : ¬ b < i) (hb : b.toInt ≤ 1073741824) : (b.toInt + 1 - (i + 1).toInt).toNat < n := by
  have c1 := i_nlt c
  have h2 := i_lo i
  have e : (i + 1).toInt = i.toInt + 1 := i_add (a := i) (b := 1) (by show _ ≤ i.toInt + 1; omega) (by show i.toInt + 1 < _; omega)
  rw [e]
  omega
theorem in_m1 {x N : Int32} {n : Nat} (h0 : 0 < x) (h1 : x ≤ N) (hn : N.toInt = n) : vp_in (x - 1) n := by
  have a := i_lt.mp h0
  have b := i_le.mp h1
  have z : (0 : Int32).toInt = 0 := rfl
  have o : (1 : Int32).toInt = 1 := rfl
  have h2 := i_hi x
  rw [vp_in_iff, i_sub (by omega) (by omega)]
  omega
/-- leaves that are counted -/
def l_ok (k : Int32) : Prop := 0 ≤ k.toInt ∧ k.toInt ≤ 1001
theorem l_0 : l_ok 0 := by unfold l_ok; decide
theorem l_inc {k : Int32} (h : l_ok k) (c : ¬ 1001 ≤ k) : l_ok (k + 1) := by
  have a := i_nle c
  have y : (1001 : Int32).toInt = 1001 := rfl
  have e : (k + 1).toInt = k.toInt + 1 := i_toInt1 (i_lt_of c)
  unfold l_ok at h ⊢
  omega
theorem l_in {k : Int32} (h : l_ok k) (c : ¬ 1001 ≤ k) : vp_in k 1001 := by
  have a := i_nle c
  have y : (1001 : Int32).toInt = 1001 := rfl
  unfold l_ok at h
  rw [vp_in_iff]
  omega
theorem mx_le {x : Int32} : x ≤ (if x < 0 then 0 else x) := by
  rw [i_le]
  split
  · rename_i q
    have := i_lt.mp q
    omega
  · omega
theorem st_up {p x : Int32} (h : p ≤ x) (c : ¬ 8 ≤ x) : p ≤ x + 1 := by
  have a := i_le.mp h
  have e : (x + 1).toInt = x.toInt + 1 := i_toInt1 (i_lt_of c)
  rw [i_le]
  omega
theorem st_lt {p x : Int32} (h : p ≤ x) (c : ¬ 8 ≤ x) : p < x + 1 := by
  have a := i_le.mp h
  have e : (x + 1).toInt = x.toInt + 1 := i_toInt1 (i_lt_of c)
  rw [i_lt]
  omega
theorem st_row {p x v : Int32} (h : p < x ∨ tw_ST_kindOf v = 3) (c : tw_ST_kindOf v = 4) : p < x := by
  rcases h with h | h
  · exact h
  · rw [c] at h
    exact absurd h (by decide)
theorem pl_le (x : Int32) : (tw_ST_placeOf x).toInt ≤ 1073741824 := by
  unfold tw_ST_placeOf
  have h := pk_ushr x 5 5 (by decide)
  have h2 : x.toBitVec.toNat < 2 ^ 32 := x.toBitVec.isLt
  generalize (x.toUInt32 >>> ((5 : Int32).toUInt32 &&& Int32.toUInt32 31)).toInt32 = y at h ⊢
  have h3 : y.toBitVec.toNat < 2 ^ 27 := by rw [h]; omega
  have h4 : y.toInt = y.toBitVec.toInt := rfl
  rw [BitVec.toInt_eq_toNat_of_lt (by omega)] at h4
  omega

set_option maxHeartbeats 4000000 in
set_option maxRecDepth 100000 in
theorem c_PA_startsWithDollar (l : Launch) (D : va_G) (cB cI : ClassId) (aP aS aV aPs aPe aPi aPh aPl aPn aB : Nat) (pcnt : Int32) (pfix : Bool) (pown : Int32) (plc : Int32) (psr : Int32) (pbs : Int32) (pms : Bool) (b : Nat → UInt8) (p0 : Int32) : Met l y_PA_startsWithDollar mw_PA_startsWithDollar { frames := 1, cells := 0, slots := 0, locals := 21 } (va_Pc [.ref aP, .int p0] (fun U => va_P D vwCl [(aP, .inr (5, [.ref aS, .ref aV, .ref aPs, .ref aPe, .ref aPi, .ref aPh, .int pcnt, .int (b2i pfix), .int pown, .ref aPl, .ref aPn, .int plc, .int psr, .int pbs, .int (b2i pms)])), (aS, .inr (0, [.ref aB])), (aB, .inl (cB, 202000, .inl (by_ b)))] U.heap ∧ hk_ D cB cI U)) (vp_Si (fun r => r = b2i (tw_PA_startsWithDollar b p0))) 0 0 (fun _ => False) := by
  refine Met.ofW (cc := b_PA_startsWithDollar) (maxL := 2) (ret := (some .boolean)) (by decide) rfl ?_
  intro p e s m args below meth c s₁ B0 hml hv
  obtain ⟨rfl, hP, hk⟩ := hv
  have hK := hk.1
  have hN := hk.2.1
  have hx := B0.exec
  have hb := B0.bytes
  have hr := B0.returns
  have hT : ∀ w ∈ lw_g, w.before _ s = true := fun w h => atoms_spec (ws := mw_PA_startsWithDollar) B0.pre w (List.mem_cons_of_mem _ h)
  have hown : s.vm.findClass R_PA = some m.cls := findClass_of_methodNamed B0.named
  have hlocks := B0.notSynchronized
  have hl := lv_entry ([.ref aP, .int p0]) (n := 2) (Nat.le_of_ble_eq_true rfl)
  rw [lg_entry_eq]
  generalize (lg_sl ([.ref aP, .int p0]) ++ List.replicate (2 - (lg_sl ([.ref aP, .int p0])).length) Slot.unset).toArray = ls at hl ⊢
  have hl : lv_has ls 2 [(0, .ref aP), (1, .int p0)] := hl
  refine lv_iload_n hx hb d_PA_startsWithDollar_0 rfl (lv_at hl 1 rfl) ?_
  refine rd_S (val := tw_ST_kindOf p0) (As := [.int p0]) (rest := []) ⟨hx, hb, hml, hown, hT⟩ (c_ST_kindOf l D cB cI p0) (va_cwS 1 hT (gS_of k_573 k_555 k_2 kc_ST_kindOf) rfl rfl rfl hd_ST_kindOf ⟨Nat.le_of_ble_eq_true rfl, Nat.le_of_ble_eq_true rfl⟩) hk (va_P_nil) rfl hl.1 rfl (Nat.le_of_ble_eq_true rfl) d_PA_startsWithDollar_1 ⟨Nat.zero_le _, Nat.zero_le _⟩ ?_
  refine lv_iconst (v := 2) hx hb d_PA_startsWithDollar_4 (by decide) ?_
  refine lv_icmp_ne (tgt := 30) hx hb d_PA_startsWithDollar_5 (by decide) (fun c_1 => ?_) (fun c_1 => ?_)
  · refine lv_iconst (v := 0) hx hb d_PA_startsWithDollar_30 (by decide) ?_
    exact W.zret (v := 0) (ty := .boolean) hx hb hr (rfl) (fun t ht hW => ⟨0, rfl, (by rw [tw_PA_startsWithDollar, if_neg c_1]; first | done | rfl), ht⟩) (fun _ h => by cases h) d_PA_startsWithDollar_31
  · refine lv_aload_n hx hb d_PA_startsWithDollar_8 rfl (lv_at hl 0 rfl) ?_
    refine va_get (D := D) (ci := 5) (v := .ref aS) (C := R_PA) (T := T_PA) (N := 15) hx hb hT u_PA hown hK hP 0 rfl rfl 0 (by decide) (hT _ k_140) (fun _ h9 => h9) rfl d_PA_startsWithDollar_9 ?_
    refine lv_iload_n hx hb d_PA_startsWithDollar_12 rfl (lv_at hl 1 rfl) ?_
    refine rd_S (val := tw_ST_placeOf p0) (As := [.int p0]) (rest := [.ref aS]) ⟨hx, hb, hml, hown, hT⟩ (c_ST_placeOf l D cB cI p0) (va_cwS 1 hT (gS_of k_574 k_403 k_2 kc_ST_placeOf) rfl rfl rfl hd_ST_placeOf ⟨Nat.le_of_ble_eq_true rfl, Nat.le_of_ble_eq_true rfl⟩) hk (va_P_nil) rfl hl.1 rfl (Nat.le_of_ble_eq_true rfl) d_PA_startsWithDollar_13 ⟨Nat.zero_le _, Nat.zero_le _⟩ ?_
    refine lv_iconst (v := 4) hx hb d_PA_startsWithDollar_16 (by decide) ?_
    refine lv_iadd hx hb d_PA_startsWithDollar_17 ?_
    refine rd_V (val := tw_ST_at b ((tw_ST_placeOf p0) + 4)) (As := [.int ((tw_ST_placeOf p0) + 4)]) (rest := []) ⟨hx, hb, hml, hown, hT⟩ (c_ST_at l D cB cI aS aB b ((tw_ST_placeOf p0) + 4)) (cwV 1 hT (gV_of k_575 k_378 k_379 k_2 kc_ST_at) rfl rfl rfl hd_ST_at ⟨Nat.le_of_ble_eq_true rfl, Nat.le_of_ble_eq_true rfl⟩) hk (hP.sub (ws' := [(aS, .inr (0, [.ref aB])), (aB, .inl (cB, 202000, .inl (by_ b)))]) [1, 2] rfl) (q0 := 0) rfl rfl rfl rfl hl.1 rfl (Nat.le_of_ble_eq_true rfl) d_PA_startsWithDollar_18 ⟨Nat.zero_le _, Nat.zero_le _⟩ ?_
    refine lv_bipush (v := 36) hx hb d_PA_startsWithDollar_21 (by decide) ?_
    refine lv_icmp_ne (tgt := 30) hx hb d_PA_startsWithDollar_23 (by decide) (fun c_2 => ?_) (fun c_2 => ?_)
    · refine lv_iconst (v := 0) hx hb d_PA_startsWithDollar_30 (by decide) ?_
      exact W.zret (v := 0) (ty := .boolean) hx hb hr (rfl) (fun t ht hW => ⟨0, rfl, (by rw [tw_PA_startsWithDollar, if_pos c_1, if_neg c_2]; first | done | rfl), ht⟩) (fun _ h => by cases h) d_PA_startsWithDollar_31
    · refine lv_iconst (v := 1) hx hb d_PA_startsWithDollar_26 (by decide) ?_
      refine lv_goto (tgt := 31) hx hb d_PA_startsWithDollar_27 (by decide) ?_
      exact W.zret (v := 1) (ty := .boolean) hx hb hr (rfl) (fun t ht hW => ⟨1, rfl, (by rw [tw_PA_startsWithDollar, if_pos c_1, if_pos c_2]; first | done | rfl), ht⟩) (fun _ h => by cases h) d_PA_startsWithDollar_31
set_option maxHeartbeats 4000000 in
set_option maxRecDepth 100000 in
theorem c_PA_lengthOfLastName (l : Launch) (D : va_G) (cB cI : ClassId) (aP aS aV aPs aPe aPi aPh aPl aPn : Nat) (pcnt : Int32) (pfix : Bool) (pown : Int32) (plc : Int32) (psr : Int32) (pbs : Int32) (pms : Bool) (pst : Nat → Int32) (pen : Nat → Int32) : Met l y_PA_lengthOfLastName mw_PA_lengthOfLastName { frames := 0, cells := 0, slots := 0, locals := 0 } (va_Pc [.ref aP] (fun U => va_P D vwCl [(aP, .inr (5, [.ref aS, .ref aV, .ref aPs, .ref aPe, .ref aPi, .ref aPh, .int pcnt, .int (b2i pfix), .int pown, .ref aPl, .ref aPn, .int plc, .int psr, .int pbs, .int (b2i pms)])), (aPs, .inl (cI, 8, .inl pst)), (aPe, .inl (cI, 8, .inl pen))] U.heap ∧ hk_ D cB cI U)) (vp_Si (fun r => r = tw_PA_lengthOfLastName pcnt pst pen)) 0 0 (fun _ => False) := by
  refine Met.ofW (cc := b_PA_lengthOfLastName) (maxL := 1) (ret := (some .int)) (by decide) rfl ?_
  intro p e s m args below meth c s₁ B0 hml hv
  obtain ⟨rfl, hP, hk⟩ := hv
  have hK := hk.1
  have hN := hk.2.1
  have hx := B0.exec
  have hb := B0.bytes
  have hr := B0.returns
  have hT : ∀ w ∈ lw_g, w.before _ s = true := fun w h => atoms_spec (ws := mw_PA_lengthOfLastName) B0.pre w (List.mem_cons_of_mem _ h)
  have hown : s.vm.findClass R_PA = some m.cls := findClass_of_methodNamed B0.named
  have hlocks := B0.notSynchronized
  have hl := lv_entry ([.ref aP]) (n := 1) (Nat.le_of_ble_eq_true rfl)
  rw [lg_entry_eq]
  generalize (lg_sl ([.ref aP]) ++ List.replicate (1 - (lg_sl ([.ref aP])).length) Slot.unset).toArray = ls at hl ⊢
  have hl : lv_has ls 1 [(0, .ref aP)] := hl
  refine lv_aload_n hx hb d_PA_lengthOfLastName_0 rfl (lv_at hl 0 rfl) ?_
  refine va_get (D := D) (ci := 5) (v := .int pcnt) (C := R_PA) (T := T_PA) (N := 15) hx hb hT u_PA hown hK hP 0 rfl rfl 6 (by decide) (hT _ k_147) (fun _ h9 => h9) rfl d_PA_lengthOfLastName_1 ?_
  refine lv_if_le (tgt := 42) hx hb d_PA_lengthOfLastName_4 (by decide) (fun c_1 => ?_) (fun c_1 => ?_)
  · refine lv_iconst (v := 0) hx hb d_PA_lengthOfLastName_42 (by decide) ?_
    exact W.iret (v := 0) hx hb hr (fun t ht hW => ⟨0, rfl, (by rw [tw_PA_lengthOfLastName, if_pos c_1]; first | done | rfl), ht⟩) (fun _ h => by cases h) d_PA_lengthOfLastName_43
  · refine lv_aload_n hx hb d_PA_lengthOfLastName_7 rfl (lv_at hl 0 rfl) ?_
    refine va_get (D := D) (ci := 5) (v := .int pcnt) (C := R_PA) (T := T_PA) (N := 15) hx hb hT u_PA hown hK hP 0 rfl rfl 6 (by decide) (hT _ k_147) (fun _ h9 => h9) rfl d_PA_lengthOfLastName_8 ?_
    refine lv_bipush (v := 8) hx hb d_PA_lengthOfLastName_11 (by decide) ?_
    refine lv_icmp_gt (tgt := 42) hx hb d_PA_lengthOfLastName_13 (by decide) (fun c_2 => ?_) (fun c_2 => ?_)
    · refine lv_iconst (v := 0) hx hb d_PA_lengthOfLastName_42 (by decide) ?_
      exact W.iret (v := 0) hx hb hr (fun t ht hW => ⟨0, rfl, (by rw [tw_PA_lengthOfLastName, if_neg c_1, if_pos c_2]; first | done | rfl), ht⟩) (fun _ h => by cases h) d_PA_lengthOfLastName_43
    · refine lv_aload_n hx hb d_PA_lengthOfLastName_16 rfl (lv_at hl 0 rfl) ?_
      refine va_get (D := D) (ci := 5) (v := .ref aPe) (C := R_PA) (T := T_PA) (N := 15) hx hb hT u_PA hown hK hP 0 rfl rfl 3 (by decide) (hT _ k_143) (fun _ h9 => h9) rfl d_PA_lengthOfLastName_17 ?_
      refine lv_aload_n hx hb d_PA_lengthOfLastName_20 rfl (lv_at hl 0 rfl) ?_
      refine va_get (D := D) (ci := 5) (v := .int pcnt) (C := R_PA) (T := T_PA) (N := 15) hx hb hT u_PA hown hK hP 0 rfl rfl 6 (by decide) (hT _ k_147) (fun _ h9 => h9) rfl d_PA_lengthOfLastName_21 ?_
      refine lv_iconst (v := 1) hx hb d_PA_lengthOfLastName_24 (by decide) ?_
      refine lv_isub hx hb d_PA_lengthOfLastName_25 ?_
      refine va_iald hx hb hK hP 2 1 rfl rfl (in_m1 (i_lt_of c_1) (i_le_of c_2) rfl) d_PA_lengthOfLastName_26 ?_
      refine lv_aload_n hx hb d_PA_lengthOfLastName_27 rfl (lv_at hl 0 rfl) ?_
      refine va_get (D := D) (ci := 5) (v := .ref aPs) (C := R_PA) (T := T_PA) (N := 15) hx hb hT u_PA hown hK hP 0 rfl rfl 2 (by decide) (hT _ k_142) (fun _ h9 => h9) rfl d_PA_lengthOfLastName_28 ?_
      refine lv_aload_n hx hb d_PA_lengthOfLastName_31 rfl (lv_at hl 0 rfl) ?_
      refine va_get (D := D) (ci := 5) (v := .int pcnt) (C := R_PA) (T := T_PA) (N := 15) hx hb hT u_PA hown hK hP 0 rfl rfl 6 (by decide) (hT _ k_147) (fun _ h9 => h9) rfl d_PA_lengthOfLastName_32 ?_
      refine lv_iconst (v := 1) hx hb d_PA_lengthOfLastName_35 (by decide) ?_
      refine lv_isub hx hb d_PA_lengthOfLastName_36 ?_
      refine va_iald hx hb hK hP 1 1 rfl rfl (in_m1 (i_lt_of c_1) (i_le_of c_2) rfl) d_PA_lengthOfLastName_37 ?_
      refine lv_isub hx hb d_PA_lengthOfLastName_38 ?_
      refine lv_goto (tgt := 43) hx hb d_PA_lengthOfLastName_39 (by decide) ?_
      exact W.iret (v := (pen (pcnt - 1).toNatClampNeg) - (pst (pcnt - 1).toNatClampNeg)) hx hb hr (fun t ht hW => ⟨(pen (pcnt - 1).toNatClampNeg) - (pst (pcnt - 1).toNatClampNeg), rfl, (by rw [tw_PA_lengthOfLastName, if_neg c_1, if_neg c_2]; first | done | rfl), ht⟩) (fun _ h => by cases h) d_PA_lengthOfLastName_43
set_option maxHeartbeats 4000000 in
set_option maxRecDepth 100000 in
theorem c_PA_leaf (l : Launch) (D : va_G) (cB cI : ClassId) (aP aS aV aPs aPe aPi aPh aPl aPn : Nat) (pcnt : Int32) (pfix : Bool) (pown : Int32) (plc : Int32) (psr : Int32) (pbs : Int32) (pms : Bool) (plv : Nat → Int32) (p0 : Int32) : Met l y_PA_leaf mw_PA_leaf { frames := 0, cells := 0, slots := 0, locals := 0 } (va_Pc [.ref aP, .int p0] (fun U => va_P D vwCl [(aP, .inr (5, [.ref aS, .ref aV, .ref aPs, .ref aPe, .ref aPi, .ref aPh, .int pcnt, .int (b2i pfix), .int pown, .ref aPl, .ref aPn, .int plc, .int psr, .int pbs, .int (b2i pms)])), (aPl, .inl (cI, 1001, .inl plv))] U.heap ∧ hk_ D cB cI U)) (vp_Si (fun r => r = tw_PA_leaf plc plv p0)) 0 0 (fun _ => False) := by
  refine Met.ofW (cc := b_PA_leaf) (maxL := 2) (ret := (some .int)) (by decide) rfl ?_
  intro p e s m args below meth c s₁ B0 hml hv
  obtain ⟨rfl, hP, hk⟩ := hv
  have hK := hk.1
  have hN := hk.2.1
  have hx := B0.exec
  have hb := B0.bytes
  have hr := B0.returns
  have hT : ∀ w ∈ lw_g, w.before _ s = true := fun w h => atoms_spec (ws := mw_PA_leaf) B0.pre w (List.mem_cons_of_mem _ h)
  have hown : s.vm.findClass R_PA = some m.cls := findClass_of_methodNamed B0.named
  have hlocks := B0.notSynchronized
  have hl := lv_entry ([.ref aP, .int p0]) (n := 2) (Nat.le_of_ble_eq_true rfl)
  rw [lg_entry_eq]
  generalize (lg_sl ([.ref aP, .int p0]) ++ List.replicate (2 - (lg_sl ([.ref aP, .int p0])).length) Slot.unset).toArray = ls at hl ⊢
  have hl : lv_has ls 2 [(0, .ref aP), (1, .int p0)] := hl
  refine lv_iload_n hx hb d_PA_leaf_0 rfl (lv_at hl 1 rfl) ?_
  refine lv_if_lt (tgt := 30) hx hb d_PA_leaf_1 (by decide) (fun c_1 => ?_) (fun c_1 => ?_)
  · refine lv_iconst (v := 0) hx hb d_PA_leaf_30 (by decide) ?_
    exact W.iret (v := 0) hx hb hr (fun t ht hW => ⟨0, rfl, (by rw [tw_PA_leaf, if_pos c_1]; first | done | rfl), ht⟩) (fun _ h => by cases h) d_PA_leaf_31
  · refine lv_iload_n hx hb d_PA_leaf_4 rfl (lv_at hl 1 rfl) ?_
    refine lv_aload_n hx hb d_PA_leaf_5 rfl (lv_at hl 0 rfl) ?_
    refine va_get (D := D) (ci := 5) (v := .int plc) (C := R_PA) (T := T_PA) (N := 15) hx hb hT u_PA hown hK hP 0 rfl rfl 11 (by decide) (hT _ k_155) (fun _ h9 => h9) rfl d_PA_leaf_6 ?_
    refine lv_icmp_ge (tgt := 30) hx hb d_PA_leaf_9 (by decide) (fun c_2 => ?_) (fun c_2 => ?_)
    · refine lv_iconst (v := 0) hx hb d_PA_leaf_30 (by decide) ?_
      exact W.iret (v := 0) hx hb hr (fun t ht hW => ⟨0, rfl, (by rw [tw_PA_leaf, if_neg c_1, if_pos c_2]; first | done | rfl), ht⟩) (fun _ h => by cases h) d_PA_leaf_31
    · refine lv_iload_n hx hb d_PA_leaf_12 rfl (lv_at hl 1 rfl) ?_
      refine lv_aload_n hx hb d_PA_leaf_13 rfl (lv_at hl 0 rfl) ?_
      refine va_get (D := D) (ci := 5) (v := .ref aPl) (C := R_PA) (T := T_PA) (N := 15) hx hb hT u_PA hown hK hP 0 rfl rfl 9 (by decide) (hT _ k_151) (fun _ h9 => h9) rfl d_PA_leaf_14 ?_
      refine va_alen (v := 1001) hx hb hK hP 1 1 rfl rfl rfl d_PA_leaf_17 ?_
      refine lv_icmp_ge (tgt := 30) hx hb d_PA_leaf_18 (by decide) (fun c_3 => ?_) (fun c_3 => ?_)
      · refine lv_iconst (v := 0) hx hb d_PA_leaf_30 (by decide) ?_
        exact W.iret (v := 0) hx hb hr (fun t ht hW => ⟨0, rfl, (by rw [tw_PA_leaf, if_neg c_1, if_neg c_2, if_pos c_3]; first | done | rfl), ht⟩) (fun _ h => by cases h) d_PA_leaf_31
      · refine lv_aload_n hx hb d_PA_leaf_21 rfl (lv_at hl 0 rfl) ?_
        refine va_get (D := D) (ci := 5) (v := .ref aPl) (C := R_PA) (T := T_PA) (N := 15) hx hb hT u_PA hown hK hP 0 rfl rfl 9 (by decide) (hT _ k_151) (fun _ h9 => h9) rfl d_PA_leaf_22 ?_
        refine lv_iload_n hx hb d_PA_leaf_25 rfl (lv_at hl 1 rfl) ?_
        refine va_iald hx hb hK hP 1 1 rfl rfl (in_nn c_1 c_3 rfl) d_PA_leaf_26 ?_
        refine lv_goto (tgt := 31) hx hb d_PA_leaf_27 (by decide) ?_
        exact W.iret (v := plv p0.toNatClampNeg) hx hb hr (fun t ht hW => ⟨plv p0.toNatClampNeg, rfl, (by rw [tw_PA_leaf, if_neg c_1, if_neg c_2, if_neg c_3]; first | done | rfl), ht⟩) (fun _ h => by cases h) d_PA_leaf_31
abbrev wd_PA_read (aP aS aV aPs aPe aPi aPh aPl aPn aB : Nat) (cB cI : ClassId) (pown : Int32) (plc : Int32) (psr : Int32) (pbs : Int32) (pms : Bool) (b : Nat → UInt8) (pcnt : Int32) (pfix : Bool) (pst : Nat → Int32) (pen : Nat → Int32) (pix : Nat → Int32) : va_W := [(aP, .inr (5, [.ref aS, .ref aV, .ref aPs, .ref aPe, .ref aPi, .ref aPh, .int pcnt, .int (b2i pfix), .int pown, .ref aPl, .ref aPn, .int plc, .int psr, .int pbs, .int (b2i pms)])), (aS, .inr (0, [.ref aB])), (aB, .inl (cB, 202000, .inl (by_ b))), (aPs, .inl (cI, 8, .inl pst)), (aPe, .inl (cI, 8, .inl pen)), (aPi, .inl (cI, 8, .inl pix))]
set_option maxHeartbeats 4000000 in
set_option maxRecDepth 100000 in
theorem l_PA_read_h15 {p : Program} {e : Env} {s : State} {m : MethodId} {args : Array Value} {below : List Frame} {meth : Method} {c : Code} {V : Bool × Int32 × Bool × (Nat → Int32) × (Nat → Int32) × (Nat → Int32)} (C0 : lc_C p s m meth c args b_PA_read 6 (some .boolean) R_PA lw_g) (l : Launch) (D : va_G) (cB cI : ClassId) (aP aS aV aPs aPe aPi aPh aPl aPn aB : Nat) (pown : Int32) (plc : Int32) (psr : Int32) (pbs : Int32) (pms : Bool) (b : Nat → UInt8) {A : Nat → Prop} (hk : hk_ D cB cI s) (hA : ∀ q : Nat, s.heap.size ≤ q → A q) (p1 : Int32) : ∀ (n : Nat) (x3 : Int32) (x4 : Int32) (pcnt : Int32) (pfix : Bool) (pst : Nat → Int32) (pen : Nat → Int32) (pix : Nat → Int32), rd_mu p1 x4 < n → ¬ pcnt < 0 → V = tw_PA_read_h15 b p1 n x3 x4 pcnt pfix pst pen pix → ∀ (H : Heap) (locs : List Loc), va_P D vwCl [(aP, .inr (5, [.ref aS, .ref aV, .ref aPs, .ref aPe, .ref aPi, .ref aPh, .int pcnt, .int (b2i pfix), .int pown, .ref aPl, .ref aPn, .int plc, .int psr, .int pbs, .int (b2i pms)])), (aS, .inr (0, [.ref aB])), (aB, .inl (cB, 202000, .inl (by_ b))), (aPs, .inl (cI, 8, .inl pst)), (aPe, .inl (cI, 8, .inl pen)), (aPi, .inl (cI, 8, .inl pix))] H → va_D A [(aP, .inr (5, [.ref aS, .ref aV, .ref aPs, .ref aPe, .ref aPi, .ref aPh, .int pcnt, .int (b2i pfix), .int pown, .ref aPl, .ref aPn, .int plc, .int psr, .int pbs, .int (b2i pms)])), (aS, .inr (0, [.ref aB])), (aB, .inl (cB, 202000, .inl (by_ b))), (aPs, .inl (cI, 8, .inl pst)), (aPe, .inl (cI, 8, .inl pen)), (aPi, .inl (cI, 8, .inl pix))] → va_S A s.heap H locs → ∀ ls : Array Slot, lv_has ls 6 [(0, .ref aP), (2, .int p1), (3, .int x3), (4, .int x4)] → W p l e ({ frames := 2, cells := 0, slots := 0, locals := 47 }) s m args below meth c H locs 0 0 (MQ below (va_Qi (fun (r : Int32) (u : Int32 × Bool × (Nat → Int32) × (Nat → Int32) × (Nat → Int32)) => ∃ z9 : Bool, r = b2i z9 ∧ (z9, u) = V) (mt_B D A (fun u => wd_PA_read aP aS aV aPs aPe aPi aPh aPl aPn aB cB cI pown plc psr pbs pms b u.1 u.2.1 u.2.2.1 u.2.2.2.1 u.2.2.2.2)) A) args s 0 0 A) (F0 m 15 ls []) := by
  obtain ⟨hx, hb, hml, hr, hown, hlocks, hT⟩ := id C0
  have hK := hk.1
  have hN := hk.2.1
  intro n
  induction n with
  | zero =>
    intro x3 x4 pcnt pfix pst pen pix hm
    exact absurd hm (Nat.not_lt_zero _)
  | succ n ih =>
    intro x3 x4 pcnt pfix pst pen pix hm hv1 hV H locs hP hD hS ls hl
    refine lv_iload hx hb d_PA_read_15 (lv_at hl 3 rfl) ?_
    refine lv_iload_n hx hb d_PA_read_17 rfl (lv_at hl 1 rfl) ?_
    refine lv_icmp_gt (tgt := 148) hx hb d_PA_read_18 (by decide) (fun c_1 => ?_) (fun c_1 => ?_)
    · refine lv_aload_n hx hb d_PA_read_148 rfl (lv_at hl 0 rfl) ?_
      refine va_get (D := D) (ci := 5) (v := .int pcnt) (C := R_PA) (T := T_PA) (N := 15) hx hb hT u_PA hown hK hP 0 rfl rfl 6 (by decide) (hT _ k_147) (fun _ h9 => h9) rfl d_PA_read_149 ?_
      refine lv_if_le (tgt := 159) hx hb d_PA_read_152 (by decide) (fun c_2 => ?_) (fun c_2 => ?_)
      · refine lv_iconst (v := 0) hx hb d_PA_read_159 (by decide) ?_
        exact W.zret (v := 0) (ty := .boolean) hx hb hr (rfl) (fun t ht hW => ⟨⟨0, (pcnt, pfix, pst, pen, pix), rfl, ⟨false, rfl, (by rw [hV, tw_PA_read_h15, if_pos c_1, if_pos c_2]; first | done | rfl)⟩, by rw [ht]; exact hP, hD⟩, hS.F ht⟩) hS.2.2 d_PA_read_160
      · refine lv_iconst (v := 1) hx hb d_PA_read_155 (by decide) ?_
        refine lv_goto (tgt := 160) hx hb d_PA_read_156 (by decide) ?_
        exact W.zret (v := 1) (ty := .boolean) hx hb hr (rfl) (fun t ht hW => ⟨⟨1, (pcnt, pfix, pst, pen, pix), rfl, ⟨true, rfl, (by rw [hV, tw_PA_read_h15, if_pos c_1, if_neg c_2]; first | done | rfl)⟩, by rw [ht]; exact hP, hD⟩, hS.F ht⟩) hS.2.2 d_PA_read_160
    · refine lv_iload hx hb d_PA_read_21 (lv_at hl 3 rfl) ?_
      refine lv_iload_n hx hb d_PA_read_23 rfl (lv_at hl 1 rfl) ?_
      refine lv_icmp_ge (tgt := 39) hx hb d_PA_read_24 (by decide) (fun c_3 => ?_) (fun c_3 => ?_)
      · refine lv_bipush (v := 46) hx hb d_PA_read_39 (by decide) ?_
        refine lv_istore (lv' := [(5, .int 46), (0, .ref aP), (2, .int p1), (3, .int x3), (4, .int x4)]) hx hb d_PA_read_41 hl (by decide) rfl (fun ls hl => ?_)
        refine lv_iload hx hb d_PA_read_43 (lv_at hl 0 rfl) ?_
        refine lv_if_ne (tgt := 50) hx hb d_PA_read_45 (by decide) (fun c_4 => ?_) (fun c_4 => ?_)
        · refine lv_iload hx hb d_PA_read_50 (lv_at hl 0 rfl) ?_
          refine lv_bipush (v := 46) hx hb d_PA_read_52 (by decide) ?_
          refine lv_icmp_ne (tgt := 142) hx hb d_PA_read_54 (by decide) (fun c_5 => ?_) (fun c_5 => ?_)
          · exact absurd c_5 (by decide)
          · refine lv_iload hx hb d_PA_read_57 (lv_at hl 4 rfl) ?_
            refine lv_iload_n hx hb d_PA_read_59 rfl (lv_at hl 3 rfl) ?_
            refine lv_icmp_eq (tgt := 85) hx hb d_PA_read_60 (by decide) (fun c_6 => ?_) (fun c_6 => ?_)
            · refine lv_iconst (v := 0) hx hb d_PA_read_85 (by decide) ?_
              exact W.zret (v := 0) (ty := .boolean) hx hb hr (rfl) (fun t ht hW => ⟨⟨0, (pcnt, pfix, pst, pen, pix), rfl, ⟨false, rfl, (by rw [hV, tw_PA_read_h15, if_neg c_1, if_pos c_3, if_pos c_6]; first | done | rfl)⟩, by rw [ht]; exact hP, hD⟩, hS.F ht⟩) hS.2.2 d_PA_read_86
            · refine lv_aload_n hx hb d_PA_read_63 rfl (lv_at hl 1 rfl) ?_
              refine va_get (D := D) (ci := 5) (v := .ref aS) (C := R_PA) (T := T_PA) (N := 15) hx hb hT u_PA hown hK hP 0 rfl rfl 0 (by decide) (hT _ k_140) (fun _ h9 => h9) rfl d_PA_read_64 ?_
              refine lv_iload_n hx hb d_PA_read_67 rfl (lv_at hl 3 rfl) ?_
              refine rd_V (val := tw_ST_at b x3) (As := [.int x3]) (rest := []) ⟨hx, hb, hml, hown, hT⟩ (c_ST_at l D cB cI aS aB b x3) (cwV 1 hT (gV_of k_575 k_378 k_379 k_2 kc_ST_at) rfl rfl rfl hd_ST_at ⟨Nat.le_of_ble_eq_true rfl, Nat.le_of_ble_eq_true rfl⟩) hk (hP.sub (ws' := [(aS, .inr (0, [.ref aB])), (aB, .inl (cB, 202000, .inl (by_ b)))]) [1, 2] rfl) (q0 := 0) rfl rfl rfl rfl hl.1 rfl (Nat.le_of_ble_eq_true rfl) d_PA_read_68 ⟨Nat.zero_le _, Nat.zero_le _⟩ ?_
              refine lv_bipush (v := 36) hx hb d_PA_read_71 (by decide) ?_
              refine lv_icmp_eq (tgt := 85) hx hb d_PA_read_73 (by decide) (fun c_7 => ?_) (fun c_7 => ?_)
              · refine lv_iconst (v := 0) hx hb d_PA_read_85 (by decide) ?_
                exact W.zret (v := 0) (ty := .boolean) hx hb hr (rfl) (fun t ht hW => ⟨⟨0, (pcnt, pfix, pst, pen, pix), rfl, ⟨false, rfl, (by rw [hV, tw_PA_read_h15, if_neg c_1, if_pos c_3, if_neg c_6, if_pos c_7]; first | done | rfl)⟩, by rw [ht]; exact hP, hD⟩, hS.F ht⟩) hS.2.2 d_PA_read_86
              · refine lv_aload_n hx hb d_PA_read_76 rfl (lv_at hl 1 rfl) ?_
                refine va_get (D := D) (ci := 5) (v := .int pcnt) (C := R_PA) (T := T_PA) (N := 15) hx hb hT u_PA hown hK hP 0 rfl rfl 6 (by decide) (hT _ k_147) (fun _ h9 => h9) rfl d_PA_read_77 ?_
                refine lv_bipush (v := 8) hx hb d_PA_read_80 (by decide) ?_
                refine lv_icmp_lt (tgt := 87) hx hb d_PA_read_82 (by decide) (fun c_8 => ?_) (fun c_8 => ?_)
                · refine lv_aload_n hx hb d_PA_read_87 rfl (lv_at hl 1 rfl) ?_
                  refine va_get (D := D) (ci := 5) (v := .ref aPs) (C := R_PA) (T := T_PA) (N := 15) hx hb hT u_PA hown hK hP 0 rfl rfl 2 (by decide) (hT _ k_142) (fun _ h9 => h9) rfl d_PA_read_88 ?_
                  refine lv_aload_n hx hb d_PA_read_91 rfl (lv_at hl 1 rfl) ?_
                  refine va_get (D := D) (ci := 5) (v := .int pcnt) (C := R_PA) (T := T_PA) (N := 15) hx hb hT u_PA hown hK hP 0 rfl rfl 6 (by decide) (hT _ k_147) (fun _ h9 => h9) rfl d_PA_read_92 ?_
                  refine lv_iload_n hx hb d_PA_read_95 rfl (lv_at hl 3 rfl) ?_
                  refine va_iast hx hb hK hP hD hS 3 1 rfl rfl (in_np hv1 c_8 rfl) d_PA_read_96 (fun H locs hP hD hS => ?_)
                  have hP : va_P D vwCl [(aP, .inr (5, [.ref aS, .ref aV, .ref aPs, .ref aPe, .ref aPi, .ref aPh, .int pcnt, .int (b2i pfix), .int pown, .ref aPl, .ref aPn, .int plc, .int psr, .int pbs, .int (b2i pms)])), (aS, .inr (0, [.ref aB])), (aB, .inl (cB, 202000, .inl (by_ b))), (aPs, .inl (cI, 8, .inl (upd pst pcnt.toNatClampNeg x3))), (aPe, .inl (cI, 8, .inl pen)), (aPi, .inl (cI, 8, .inl pix))] H := hP
                  have hD : va_D A [(aP, .inr (5, [.ref aS, .ref aV, .ref aPs, .ref aPe, .ref aPi, .ref aPh, .int pcnt, .int (b2i pfix), .int pown, .ref aPl, .ref aPn, .int plc, .int psr, .int pbs, .int (b2i pms)])), (aS, .inr (0, [.ref aB])), (aB, .inl (cB, 202000, .inl (by_ b))), (aPs, .inl (cI, 8, .inl (upd pst pcnt.toNatClampNeg x3))), (aPe, .inl (cI, 8, .inl pen)), (aPi, .inl (cI, 8, .inl pix))] := hD
                  refine lv_aload_n hx hb d_PA_read_97 rfl (lv_at hl 1 rfl) ?_
                  refine va_get (D := D) (ci := 5) (v := .ref aPe) (C := R_PA) (T := T_PA) (N := 15) hx hb hT u_PA hown hK hP 0 rfl rfl 3 (by decide) (hT _ k_143) (fun _ h9 => h9) rfl d_PA_read_98 ?_
                  refine lv_aload_n hx hb d_PA_read_101 rfl (lv_at hl 1 rfl) ?_
                  refine va_get (D := D) (ci := 5) (v := .int pcnt) (C := R_PA) (T := T_PA) (N := 15) hx hb hT u_PA hown hK hP 0 rfl rfl 6 (by decide) (hT _ k_147) (fun _ h9 => h9) rfl d_PA_read_102 ?_
                  refine lv_iload hx hb d_PA_read_105 (lv_at hl 4 rfl) ?_
                  refine va_iast hx hb hK hP hD hS 4 1 rfl rfl (in_np hv1 c_8 rfl) d_PA_read_107 (fun H locs hP hD hS => ?_)
                  have hP : va_P D vwCl [(aP, .inr (5, [.ref aS, .ref aV, .ref aPs, .ref aPe, .ref aPi, .ref aPh, .int pcnt, .int (b2i pfix), .int pown, .ref aPl, .ref aPn, .int plc, .int psr, .int pbs, .int (b2i pms)])), (aS, .inr (0, [.ref aB])), (aB, .inl (cB, 202000, .inl (by_ b))), (aPs, .inl (cI, 8, .inl (upd pst pcnt.toNatClampNeg x3))), (aPe, .inl (cI, 8, .inl (upd pen pcnt.toNatClampNeg x4))), (aPi, .inl (cI, 8, .inl pix))] H := hP
                  have hD : va_D A [(aP, .inr (5, [.ref aS, .ref aV, .ref aPs, .ref aPe, .ref aPi, .ref aPh, .int pcnt, .int (b2i pfix), .int pown, .ref aPl, .ref aPn, .int plc, .int psr, .int pbs, .int (b2i pms)])), (aS, .inr (0, [.ref aB])), (aB, .inl (cB, 202000, .inl (by_ b))), (aPs, .inl (cI, 8, .inl (upd pst pcnt.toNatClampNeg x3))), (aPe, .inl (cI, 8, .inl (upd pen pcnt.toNatClampNeg x4))), (aPi, .inl (cI, 8, .inl pix))] := hD
                  refine lv_aload_n hx hb d_PA_read_108 rfl (lv_at hl 1 rfl) ?_
                  refine va_get (D := D) (ci := 5) (v := .ref aPi) (C := R_PA) (T := T_PA) (N := 15) hx hb hT u_PA hown hK hP 0 rfl rfl 4 (by decide) (hT _ k_144) (fun _ h9 => h9) rfl d_PA_read_109 ?_
                  refine lv_aload_n hx hb d_PA_read_112 rfl (lv_at hl 1 rfl) ?_
                  refine va_get (D := D) (ci := 5) (v := .int pcnt) (C := R_PA) (T := T_PA) (N := 15) hx hb hT u_PA hown hK hP 0 rfl rfl 6 (by decide) (hT _ k_147) (fun _ h9 => h9) rfl d_PA_read_113 ?_
                  refine lv_aload_n hx hb d_PA_read_116 rfl (lv_at hl 1 rfl) ?_
                  refine va_get (D := D) (ci := 5) (v := .ref aS) (C := R_PA) (T := T_PA) (N := 15) hx hb hT u_PA hown hK hP 0 rfl rfl 0 (by decide) (hT _ k_140) (fun _ h9 => h9) rfl d_PA_read_117 ?_
                  refine lv_iload_n hx hb d_PA_read_120 rfl (lv_at hl 3 rfl) ?_
                  refine lv_iload hx hb d_PA_read_121 (lv_at hl 4 rfl) ?_
                  refine rd_V (val := tw_ST_indexNamed b x3 x4) (As := [.int x3, .int x4]) (rest := [.int pcnt, .ref aPi]) ⟨hx, hb, hml, hown, hT⟩ (c_ST_indexNamed l D cB cI aS aB b x3 x4) (cwV 2 hT (gV_of k_581 k_382 k_383 k_2 kc_ST_indexNamed) rfl rfl rfl hd_ST_indexNamed ⟨Nat.le_of_ble_eq_true rfl, Nat.le_of_ble_eq_true rfl⟩) hk (hP.sub (ws' := [(aS, .inr (0, [.ref aB])), (aB, .inl (cB, 202000, .inl (by_ b)))]) [1, 2] rfl) (q0 := 0) rfl rfl rfl rfl hl.1 rfl (Nat.le_of_ble_eq_true rfl) d_PA_read_123 ⟨Nat.zero_le _, Nat.zero_le _⟩ ?_
                  refine va_iast hx hb hK hP hD hS 5 1 rfl rfl (in_np hv1 c_8 rfl) d_PA_read_126 (fun H locs hP hD hS => ?_)
                  have hP : va_P D vwCl [(aP, .inr (5, [.ref aS, .ref aV, .ref aPs, .ref aPe, .ref aPi, .ref aPh, .int pcnt, .int (b2i pfix), .int pown, .ref aPl, .ref aPn, .int plc, .int psr, .int pbs, .int (b2i pms)])), (aS, .inr (0, [.ref aB])), (aB, .inl (cB, 202000, .inl (by_ b))), (aPs, .inl (cI, 8, .inl (upd pst pcnt.toNatClampNeg x3))), (aPe, .inl (cI, 8, .inl (upd pen pcnt.toNatClampNeg x4))), (aPi, .inl (cI, 8, .inl (upd pix pcnt.toNatClampNeg (tw_ST_indexNamed b x3 x4))))] H := hP
                  have hD : va_D A [(aP, .inr (5, [.ref aS, .ref aV, .ref aPs, .ref aPe, .ref aPi, .ref aPh, .int pcnt, .int (b2i pfix), .int pown, .ref aPl, .ref aPn, .int plc, .int psr, .int pbs, .int (b2i pms)])), (aS, .inr (0, [.ref aB])), (aB, .inl (cB, 202000, .inl (by_ b))), (aPs, .inl (cI, 8, .inl (upd pst pcnt.toNatClampNeg x3))), (aPe, .inl (cI, 8, .inl (upd pen pcnt.toNatClampNeg x4))), (aPi, .inl (cI, 8, .inl (upd pix pcnt.toNatClampNeg (tw_ST_indexNamed b x3 x4))))] := hD
                  refine lv_aload_n hx hb d_PA_read_127 rfl (lv_at hl 1 rfl) ?_
                  refine lv_dup hx hb d_PA_read_128 rfl ?_
                  refine va_get (D := D) (ci := 5) (v := .int pcnt) (C := R_PA) (T := T_PA) (N := 15) hx hb hT u_PA hown hK hP 0 rfl rfl 6 (by decide) (hT _ k_147) (fun _ h9 => h9) rfl d_PA_read_129 ?_
                  refine lv_iconst (v := 1) hx hb d_PA_read_132 (by decide) ?_
                  refine lv_iadd hx hb d_PA_read_133 ?_
                  refine va_put (D := D) (ci := 5) (v := .int (pcnt + 1)) (ty := .int) (C := R_PA) (T := T_PA) (N := 15) hx hb hT u_PA ty_PA tyok_PA nm_PA hown hK hP hD hS 0 rfl rfl 6 (by decide) (hT _ k_147) (fun _ h9 => h9) rfl (by decide +kernel) (rfl) (rfl) (Nat.le_of_ble_eq_true rfl) d_PA_read_134 (fun H locs hP hD hS => ?_)
                  have hP : va_P D vwCl [(aP, .inr (5, [.ref aS, .ref aV, .ref aPs, .ref aPe, .ref aPi, .ref aPh, .int (pcnt + 1), .int (b2i pfix), .int pown, .ref aPl, .ref aPn, .int plc, .int psr, .int pbs, .int (b2i pms)])), (aS, .inr (0, [.ref aB])), (aB, .inl (cB, 202000, .inl (by_ b))), (aPs, .inl (cI, 8, .inl (upd pst pcnt.toNatClampNeg x3))), (aPe, .inl (cI, 8, .inl (upd pen pcnt.toNatClampNeg x4))), (aPi, .inl (cI, 8, .inl (upd pix pcnt.toNatClampNeg (tw_ST_indexNamed b x3 x4))))] H := hP
                  have hD : va_D A [(aP, .inr (5, [.ref aS, .ref aV, .ref aPs, .ref aPe, .ref aPi, .ref aPh, .int (pcnt + 1), .int (b2i pfix), .int pown, .ref aPl, .ref aPn, .int plc, .int psr, .int pbs, .int (b2i pms)])), (aS, .inr (0, [.ref aB])), (aB, .inl (cB, 202000, .inl (by_ b))), (aPs, .inl (cI, 8, .inl (upd pst pcnt.toNatClampNeg x3))), (aPe, .inl (cI, 8, .inl (upd pen pcnt.toNatClampNeg x4))), (aPi, .inl (cI, 8, .inl (upd pix pcnt.toNatClampNeg (tw_ST_indexNamed b x3 x4))))] := hD
                  refine lv_iload hx hb d_PA_read_137 (lv_at hl 4 rfl) ?_
                  refine lv_iconst (v := 1) hx hb d_PA_read_139 (by decide) ?_
                  refine lv_iadd hx hb d_PA_read_140 ?_
                  refine lv_istore_n (lv' := [(3, .int (x4 + 1)), (5, .int 46), (0, .ref aP), (2, .int p1), (4, .int x4)]) hx hb d_PA_read_141 rfl hl (by decide) rfl (fun ls hl => ?_)
                  refine lv_iinc (v := x4 + 1) (lv' := [(4, .int (x4 + 1)), (3, .int (x4 + 1)), (5, .int 46), (0, .ref aP), (2, .int p1)]) hx hb d_PA_read_142 hl (k := 4) rfl rfl (by decide) rfl (fun ls hl => ?_)
                  refine lv_goto (tgt := 15) hx hb d_PA_read_145 (by decide) ?_
                  exact ih (x4 + 1) (x4 + 1) (pcnt + 1) pfix (upd pst pcnt.toNatClampNeg x3) (upd pen pcnt.toNatClampNeg x4) (upd pix pcnt.toNatClampNeg (tw_ST_indexNamed b x3 x4)) (rd_e hm c_1 c_3) (i_up hv1 c_8) (by rw [hV, tw_PA_read_h15, if_neg c_1, if_pos c_3, if_neg c_6, if_neg c_7, if_pos c_8]) _ _ hP hD hS ls (lv_sub hl [3, 4, 1, 0] rfl)
                · refine lv_iconst (v := 0) hx hb d_PA_read_85 (by decide) ?_
                  exact W.zret (v := 0) (ty := .boolean) hx hb hr (rfl) (fun t ht hW => ⟨⟨0, (pcnt, pfix, pst, pen, pix), rfl, ⟨false, rfl, (by rw [hV, tw_PA_read_h15, if_neg c_1, if_pos c_3, if_neg c_6, if_neg c_7, if_neg c_8]; first | done | rfl)⟩, by rw [ht]; exact hP, hD⟩, hS.F ht⟩) hS.2.2 d_PA_read_86
        · exact absurd c_4 (by decide)
      · refine lv_aload_n hx hb d_PA_read_27 rfl (lv_at hl 0 rfl) ?_
        refine va_get (D := D) (ci := 5) (v := .ref aS) (C := R_PA) (T := T_PA) (N := 15) hx hb hT u_PA hown hK hP 0 rfl rfl 0 (by decide) (hT _ k_140) (fun _ h9 => h9) rfl d_PA_read_28 ?_
        refine lv_iload hx hb d_PA_read_31 (lv_at hl 3 rfl) ?_
        refine rd_V (val := tw_ST_at b x4) (As := [.int x4]) (rest := []) ⟨hx, hb, hml, hown, hT⟩ (c_ST_at l D cB cI aS aB b x4) (cwV 1 hT (gV_of k_575 k_378 k_379 k_2 kc_ST_at) rfl rfl rfl hd_ST_at ⟨Nat.le_of_ble_eq_true rfl, Nat.le_of_ble_eq_true rfl⟩) hk (hP.sub (ws' := [(aS, .inr (0, [.ref aB])), (aB, .inl (cB, 202000, .inl (by_ b)))]) [1, 2] rfl) (q0 := 0) rfl rfl rfl rfl hl.1 rfl (Nat.le_of_ble_eq_true rfl) d_PA_read_33 ⟨Nat.zero_le _, Nat.zero_le _⟩ ?_
        refine lv_goto (tgt := 41) hx hb d_PA_read_36 (by decide) ?_
        refine lv_istore (lv' := [(5, .int (tw_ST_at b x4)), (0, .ref aP), (2, .int p1), (3, .int x3), (4, .int x4)]) hx hb d_PA_read_41 hl (by decide) rfl (fun ls hl => ?_)
        refine lv_iload hx hb d_PA_read_43 (lv_at hl 0 rfl) ?_
        refine lv_if_ne (tgt := 50) hx hb d_PA_read_45 (by decide) (fun c_9 => ?_) (fun c_9 => ?_)
        · refine lv_iload hx hb d_PA_read_50 (lv_at hl 0 rfl) ?_
          refine lv_bipush (v := 46) hx hb d_PA_read_52 (by decide) ?_
          refine lv_icmp_ne (tgt := 142) hx hb d_PA_read_54 (by decide) (fun c_10 => ?_) (fun c_10 => ?_)
          · refine lv_iinc (v := x4 + 1) (lv' := [(4, .int (x4 + 1)), (5, .int (tw_ST_at b x4)), (0, .ref aP), (2, .int p1), (3, .int x3)]) hx hb d_PA_read_142 hl (k := 4) rfl rfl (by decide) rfl (fun ls hl => ?_)
            refine lv_goto (tgt := 15) hx hb d_PA_read_145 (by decide) ?_
            exact ih x3 (x4 + 1) pcnt pfix pst pen pix (rd_s hm c_1 c_9) (hv1) (by rw [hV, tw_PA_read_h15, if_neg c_1, if_neg c_3, if_neg c_9, if_neg c_10]) _ _ hP hD hS ls (lv_sub hl [2, 3, 4, 0] rfl)
          · refine lv_iload hx hb d_PA_read_57 (lv_at hl 4 rfl) ?_
            refine lv_iload_n hx hb d_PA_read_59 rfl (lv_at hl 3 rfl) ?_
            refine lv_icmp_eq (tgt := 85) hx hb d_PA_read_60 (by decide) (fun c_11 => ?_) (fun c_11 => ?_)
            · refine lv_iconst (v := 0) hx hb d_PA_read_85 (by decide) ?_
              exact W.zret (v := 0) (ty := .boolean) hx hb hr (rfl) (fun t ht hW => ⟨⟨0, (pcnt, pfix, pst, pen, pix), rfl, ⟨false, rfl, (by rw [hV, tw_PA_read_h15, if_neg c_1, if_neg c_3, if_neg c_9, if_pos c_10, if_pos c_11]; first | done | rfl)⟩, by rw [ht]; exact hP, hD⟩, hS.F ht⟩) hS.2.2 d_PA_read_86
            · refine lv_aload_n hx hb d_PA_read_63 rfl (lv_at hl 1 rfl) ?_
              refine va_get (D := D) (ci := 5) (v := .ref aS) (C := R_PA) (T := T_PA) (N := 15) hx hb hT u_PA hown hK hP 0 rfl rfl 0 (by decide) (hT _ k_140) (fun _ h9 => h9) rfl d_PA_read_64 ?_
              refine lv_iload_n hx hb d_PA_read_67 rfl (lv_at hl 3 rfl) ?_
              refine rd_V (val := tw_ST_at b x3) (As := [.int x3]) (rest := []) ⟨hx, hb, hml, hown, hT⟩ (c_ST_at l D cB cI aS aB b x3) (cwV 1 hT (gV_of k_575 k_378 k_379 k_2 kc_ST_at) rfl rfl rfl hd_ST_at ⟨Nat.le_of_ble_eq_true rfl, Nat.le_of_ble_eq_true rfl⟩) hk (hP.sub (ws' := [(aS, .inr (0, [.ref aB])), (aB, .inl (cB, 202000, .inl (by_ b)))]) [1, 2] rfl) (q0 := 0) rfl rfl rfl rfl hl.1 rfl (Nat.le_of_ble_eq_true rfl) d_PA_read_68 ⟨Nat.zero_le _, Nat.zero_le _⟩ ?_
              refine lv_bipush (v := 36) hx hb d_PA_read_71 (by decide) ?_
              refine lv_icmp_eq (tgt := 85) hx hb d_PA_read_73 (by decide) (fun c_12 => ?_) (fun c_12 => ?_)
              · refine lv_iconst (v := 0) hx hb d_PA_read_85 (by decide) ?_
                exact W.zret (v := 0) (ty := .boolean) hx hb hr (rfl) (fun t ht hW => ⟨⟨0, (pcnt, pfix, pst, pen, pix), rfl, ⟨false, rfl, (by rw [hV, tw_PA_read_h15, if_neg c_1, if_neg c_3, if_neg c_9, if_pos c_10, if_neg c_11, if_pos c_12]; first | done | rfl)⟩, by rw [ht]; exact hP, hD⟩, hS.F ht⟩) hS.2.2 d_PA_read_86
              · refine lv_aload_n hx hb d_PA_read_76 rfl (lv_at hl 1 rfl) ?_
                refine va_get (D := D) (ci := 5) (v := .int pcnt) (C := R_PA) (T := T_PA) (N := 15) hx hb hT u_PA hown hK hP 0 rfl rfl 6 (by decide) (hT _ k_147) (fun _ h9 => h9) rfl d_PA_read_77 ?_
                refine lv_bipush (v := 8) hx hb d_PA_read_80 (by decide) ?_
                refine lv_icmp_lt (tgt := 87) hx hb d_PA_read_82 (by decide) (fun c_13 => ?_) (fun c_13 => ?_)
                · refine lv_aload_n hx hb d_PA_read_87 rfl (lv_at hl 1 rfl) ?_
                  refine va_get (D := D) (ci := 5) (v := .ref aPs) (C := R_PA) (T := T_PA) (N := 15) hx hb hT u_PA hown hK hP 0 rfl rfl 2 (by decide) (hT _ k_142) (fun _ h9 => h9) rfl d_PA_read_88 ?_
                  refine lv_aload_n hx hb d_PA_read_91 rfl (lv_at hl 1 rfl) ?_
                  refine va_get (D := D) (ci := 5) (v := .int pcnt) (C := R_PA) (T := T_PA) (N := 15) hx hb hT u_PA hown hK hP 0 rfl rfl 6 (by decide) (hT _ k_147) (fun _ h9 => h9) rfl d_PA_read_92 ?_
                  refine lv_iload_n hx hb d_PA_read_95 rfl (lv_at hl 3 rfl) ?_
                  refine va_iast hx hb hK hP hD hS 3 1 rfl rfl (in_np hv1 c_13 rfl) d_PA_read_96 (fun H locs hP hD hS => ?_)
                  have hP : va_P D vwCl [(aP, .inr (5, [.ref aS, .ref aV, .ref aPs, .ref aPe, .ref aPi, .ref aPh, .int pcnt, .int (b2i pfix), .int pown, .ref aPl, .ref aPn, .int plc, .int psr, .int pbs, .int (b2i pms)])), (aS, .inr (0, [.ref aB])), (aB, .inl (cB, 202000, .inl (by_ b))), (aPs, .inl (cI, 8, .inl (upd pst pcnt.toNatClampNeg x3))), (aPe, .inl (cI, 8, .inl pen)), (aPi, .inl (cI, 8, .inl pix))] H := hP
                  have hD : va_D A [(aP, .inr (5, [.ref aS, .ref aV, .ref aPs, .ref aPe, .ref aPi, .ref aPh, .int pcnt, .int (b2i pfix), .int pown, .ref aPl, .ref aPn, .int plc, .int psr, .int pbs, .int (b2i pms)])), (aS, .inr (0, [.ref aB])), (aB, .inl (cB, 202000, .inl (by_ b))), (aPs, .inl (cI, 8, .inl (upd pst pcnt.toNatClampNeg x3))), (aPe, .inl (cI, 8, .inl pen)), (aPi, .inl (cI, 8, .inl pix))] := hD
                  refine lv_aload_n hx hb d_PA_read_97 rfl (lv_at hl 1 rfl) ?_
                  refine va_get (D := D) (ci := 5) (v := .ref aPe) (C := R_PA) (T := T_PA) (N := 15) hx hb hT u_PA hown hK hP 0 rfl rfl 3 (by decide) (hT _ k_143) (fun _ h9 => h9) rfl d_PA_read_98 ?_
                  refine lv_aload_n hx hb d_PA_read_101 rfl (lv_at hl 1 rfl) ?_
                  refine va_get (D := D) (ci := 5) (v := .int pcnt) (C := R_PA) (T := T_PA) (N := 15) hx hb hT u_PA hown hK hP 0 rfl rfl 6 (by decide) (hT _ k_147) (fun _ h9 => h9) rfl d_PA_read_102 ?_
                  refine lv_iload hx hb d_PA_read_105 (lv_at hl 4 rfl) ?_
                  refine va_iast hx hb hK hP hD hS 4 1 rfl rfl (in_np hv1 c_13 rfl) d_PA_read_107 (fun H locs hP hD hS => ?_)
                  have hP : va_P D vwCl [(aP, .inr (5, [.ref aS, .ref aV, .ref aPs, .ref aPe, .ref aPi, .ref aPh, .int pcnt, .int (b2i pfix), .int pown, .ref aPl, .ref aPn, .int plc, .int psr, .int pbs, .int (b2i pms)])), (aS, .inr (0, [.ref aB])), (aB, .inl (cB, 202000, .inl (by_ b))), (aPs, .inl (cI, 8, .inl (upd pst pcnt.toNatClampNeg x3))), (aPe, .inl (cI, 8, .inl (upd pen pcnt.toNatClampNeg x4))), (aPi, .inl (cI, 8, .inl pix))] H := hP
                  have hD : va_D A [(aP, .inr (5, [.ref aS, .ref aV, .ref aPs, .ref aPe, .ref aPi, .ref aPh, .int pcnt, .int (b2i pfix), .int pown, .ref aPl, .ref aPn, .int plc, .int psr, .int pbs, .int (b2i pms)])), (aS, .inr (0, [.ref aB])), (aB, .inl (cB, 202000, .inl (by_ b))), (aPs, .inl (cI, 8, .inl (upd pst pcnt.toNatClampNeg x3))), (aPe, .inl (cI, 8, .inl (upd pen pcnt.toNatClampNeg x4))), (aPi, .inl (cI, 8, .inl pix))] := hD
                  refine lv_aload_n hx hb d_PA_read_108 rfl (lv_at hl 1 rfl) ?_
                  refine va_get (D := D) (ci := 5) (v := .ref aPi) (C := R_PA) (T := T_PA) (N := 15) hx hb hT u_PA hown hK hP 0 rfl rfl 4 (by decide) (hT _ k_144) (fun _ h9 => h9) rfl d_PA_read_109 ?_
                  refine lv_aload_n hx hb d_PA_read_112 rfl (lv_at hl 1 rfl) ?_
                  refine va_get (D := D) (ci := 5) (v := .int pcnt) (C := R_PA) (T := T_PA) (N := 15) hx hb hT u_PA hown hK hP 0 rfl rfl 6 (by decide) (hT _ k_147) (fun _ h9 => h9) rfl d_PA_read_113 ?_
                  refine lv_aload_n hx hb d_PA_read_116 rfl (lv_at hl 1 rfl) ?_
                  refine va_get (D := D) (ci := 5) (v := .ref aS) (C := R_PA) (T := T_PA) (N := 15) hx hb hT u_PA hown hK hP 0 rfl rfl 0 (by decide) (hT _ k_140) (fun _ h9 => h9) rfl d_PA_read_117 ?_
                  refine lv_iload_n hx hb d_PA_read_120 rfl (lv_at hl 3 rfl) ?_
                  refine lv_iload hx hb d_PA_read_121 (lv_at hl 4 rfl) ?_
                  refine rd_V (val := tw_ST_indexNamed b x3 x4) (As := [.int x3, .int x4]) (rest := [.int pcnt, .ref aPi]) ⟨hx, hb, hml, hown, hT⟩ (c_ST_indexNamed l D cB cI aS aB b x3 x4) (cwV 2 hT (gV_of k_581 k_382 k_383 k_2 kc_ST_indexNamed) rfl rfl rfl hd_ST_indexNamed ⟨Nat.le_of_ble_eq_true rfl, Nat.le_of_ble_eq_true rfl⟩) hk (hP.sub (ws' := [(aS, .inr (0, [.ref aB])), (aB, .inl (cB, 202000, .inl (by_ b)))]) [1, 2] rfl) (q0 := 0) rfl rfl rfl rfl hl.1 rfl (Nat.le_of_ble_eq_true rfl) d_PA_read_123 ⟨Nat.zero_le _, Nat.zero_le _⟩ ?_
                  refine va_iast hx hb hK hP hD hS 5 1 rfl rfl (in_np hv1 c_13 rfl) d_PA_read_126 (fun H locs hP hD hS => ?_)
                  have hP : va_P D vwCl [(aP, .inr (5, [.ref aS, .ref aV, .ref aPs, .ref aPe, .ref aPi, .ref aPh, .int pcnt, .int (b2i pfix), .int pown, .ref aPl, .ref aPn, .int plc, .int psr, .int pbs, .int (b2i pms)])), (aS, .inr (0, [.ref aB])), (aB, .inl (cB, 202000, .inl (by_ b))), (aPs, .inl (cI, 8, .inl (upd pst pcnt.toNatClampNeg x3))), (aPe, .inl (cI, 8, .inl (upd pen pcnt.toNatClampNeg x4))), (aPi, .inl (cI, 8, .inl (upd pix pcnt.toNatClampNeg (tw_ST_indexNamed b x3 x4))))] H := hP
                  have hD : va_D A [(aP, .inr (5, [.ref aS, .ref aV, .ref aPs, .ref aPe, .ref aPi, .ref aPh, .int pcnt, .int (b2i pfix), .int pown, .ref aPl, .ref aPn, .int plc, .int psr, .int pbs, .int (b2i pms)])), (aS, .inr (0, [.ref aB])), (aB, .inl (cB, 202000, .inl (by_ b))), (aPs, .inl (cI, 8, .inl (upd pst pcnt.toNatClampNeg x3))), (aPe, .inl (cI, 8, .inl (upd pen pcnt.toNatClampNeg x4))), (aPi, .inl (cI, 8, .inl (upd pix pcnt.toNatClampNeg (tw_ST_indexNamed b x3 x4))))] := hD
                  refine lv_aload_n hx hb d_PA_read_127 rfl (lv_at hl 1 rfl) ?_
                  refine lv_dup hx hb d_PA_read_128 rfl ?_
                  refine va_get (D := D) (ci := 5) (v := .int pcnt) (C := R_PA) (T := T_PA) (N := 15) hx hb hT u_PA hown hK hP 0 rfl rfl 6 (by decide) (hT _ k_147) (fun _ h9 => h9) rfl d_PA_read_129 ?_
                  refine lv_iconst (v := 1) hx hb d_PA_read_132 (by decide) ?_
                  refine lv_iadd hx hb d_PA_read_133 ?_
                  refine va_put (D := D) (ci := 5) (v := .int (pcnt + 1)) (ty := .int) (C := R_PA) (T := T_PA) (N := 15) hx hb hT u_PA ty_PA tyok_PA nm_PA hown hK hP hD hS 0 rfl rfl 6 (by decide) (hT _ k_147) (fun _ h9 => h9) rfl (by decide +kernel) (rfl) (rfl) (Nat.le_of_ble_eq_true rfl) d_PA_read_134 (fun H locs hP hD hS => ?_)
                  have hP : va_P D vwCl [(aP, .inr (5, [.ref aS, .ref aV, .ref aPs, .ref aPe, .ref aPi, .ref aPh, .int (pcnt + 1), .int (b2i pfix), .int pown, .ref aPl, .ref aPn, .int plc, .int psr, .int pbs, .int (b2i pms)])), (aS, .inr (0, [.ref aB])), (aB, .inl (cB, 202000, .inl (by_ b))), (aPs, .inl (cI, 8, .inl (upd pst pcnt.toNatClampNeg x3))), (aPe, .inl (cI, 8, .inl (upd pen pcnt.toNatClampNeg x4))), (aPi, .inl (cI, 8, .inl (upd pix pcnt.toNatClampNeg (tw_ST_indexNamed b x3 x4))))] H := hP
                  have hD : va_D A [(aP, .inr (5, [.ref aS, .ref aV, .ref aPs, .ref aPe, .ref aPi, .ref aPh, .int (pcnt + 1), .int (b2i pfix), .int pown, .ref aPl, .ref aPn, .int plc, .int psr, .int pbs, .int (b2i pms)])), (aS, .inr (0, [.ref aB])), (aB, .inl (cB, 202000, .inl (by_ b))), (aPs, .inl (cI, 8, .inl (upd pst pcnt.toNatClampNeg x3))), (aPe, .inl (cI, 8, .inl (upd pen pcnt.toNatClampNeg x4))), (aPi, .inl (cI, 8, .inl (upd pix pcnt.toNatClampNeg (tw_ST_indexNamed b x3 x4))))] := hD
                  refine lv_iload hx hb d_PA_read_137 (lv_at hl 4 rfl) ?_
                  refine lv_iconst (v := 1) hx hb d_PA_read_139 (by decide) ?_
                  refine lv_iadd hx hb d_PA_read_140 ?_
                  refine lv_istore_n (lv' := [(3, .int (x4 + 1)), (5, .int (tw_ST_at b x4)), (0, .ref aP), (2, .int p1), (4, .int x4)]) hx hb d_PA_read_141 rfl hl (by decide) rfl (fun ls hl => ?_)
                  refine lv_iinc (v := x4 + 1) (lv' := [(4, .int (x4 + 1)), (3, .int (x4 + 1)), (5, .int (tw_ST_at b x4)), (0, .ref aP), (2, .int p1)]) hx hb d_PA_read_142 hl (k := 4) rfl rfl (by decide) rfl (fun ls hl => ?_)
                  refine lv_goto (tgt := 15) hx hb d_PA_read_145 (by decide) ?_
                  exact ih (x4 + 1) (x4 + 1) (pcnt + 1) pfix (upd pst pcnt.toNatClampNeg x3) (upd pen pcnt.toNatClampNeg x4) (upd pix pcnt.toNatClampNeg (tw_ST_indexNamed b x3 x4)) (rd_s hm c_1 c_9) (i_up hv1 c_13) (by rw [hV, tw_PA_read_h15, if_neg c_1, if_neg c_3, if_neg c_9, if_pos c_10, if_neg c_11, if_neg c_12, if_pos c_13]) _ _ hP hD hS ls (lv_sub hl [3, 4, 1, 0] rfl)
                · refine lv_iconst (v := 0) hx hb d_PA_read_85 (by decide) ?_
                  exact W.zret (v := 0) (ty := .boolean) hx hb hr (rfl) (fun t ht hW => ⟨⟨0, (pcnt, pfix, pst, pen, pix), rfl, ⟨false, rfl, (by rw [hV, tw_PA_read_h15, if_neg c_1, if_neg c_3, if_neg c_9, if_pos c_10, if_neg c_11, if_neg c_12, if_neg c_13]; first | done | rfl)⟩, by rw [ht]; exact hP, hD⟩, hS.F ht⟩) hS.2.2 d_PA_read_86
        · refine lv_iconst (v := 0) hx hb d_PA_read_48 (by decide) ?_
          exact W.zret (v := 0) (ty := .boolean) hx hb hr (rfl) (fun t ht hW => ⟨⟨0, (pcnt, pfix, pst, pen, pix), rfl, ⟨false, rfl, (by rw [hV, tw_PA_read_h15, if_neg c_1, if_neg c_3, if_pos c_9]; first | done | rfl)⟩, by rw [ht]; exact hP, hD⟩, hS.F ht⟩) hS.2.2 d_PA_read_49
set_option maxHeartbeats 4000000 in
set_option maxRecDepth 100000 in
theorem c_PA_read (l : Launch) (D : va_G) (cB cI : ClassId) (aP aS aV aPs aPe aPi aPh aPl aPn aB : Nat) (pown : Int32) (plc : Int32) (psr : Int32) (pbs : Int32) (pms : Bool) (b : Nat → UInt8) (sz : Nat) (pcnt : Int32) (pfix : Bool) (pst : Nat → Int32) (pen : Nat → Int32) (pix : Nat → Int32) (p0 : Int32) (p1 : Int32) : Met l y_PA_read mw_PA_read { frames := 2, cells := 0, slots := 0, locals := 47 } (va_Pc [.ref aP, .int p0, .int p1] (mt_P D cB cI (wd_PA_read aP aS aV aPs aPe aPi aPh aPl aPn aB cB cI pown plc psr pbs pms b pcnt pfix pst pen pix) sz)) (va_Qi (fun (r : Int32) (u : Int32 × Bool × (Nat → Int32) × (Nat → Int32) × (Nat → Int32)) => ∃ z9 : Bool, r = b2i z9 ∧ (z9, u) = tw_PA_read b pcnt pfix pst pen pix p0 p1) (mt_B D (va_A (wd_PA_read aP aS aV aPs aPe aPi aPh aPl aPn aB cB cI pown plc psr pbs pms b pcnt pfix pst pen pix) sz) (fun u => wd_PA_read aP aS aV aPs aPe aPi aPh aPl aPn aB cB cI pown plc psr pbs pms b u.1 u.2.1 u.2.2.1 u.2.2.2.1 u.2.2.2.2)) (va_A (wd_PA_read aP aS aV aPs aPe aPi aPh aPl aPn aB cB cI pown plc psr pbs pms b pcnt pfix pst pen pix) sz)) 0 0 (va_A (wd_PA_read aP aS aV aPs aPe aPi aPh aPl aPn aB cB cI pown plc psr pbs pms b pcnt pfix pst pen pix) sz) := by
  refine Met.ofW (cc := b_PA_read) (maxL := 6) (ret := (some .boolean)) (by decide) rfl ?_
  intro p e s m args below meth c s₁ B0 hml hv
  obtain ⟨rfl, hsz, hP, hk, hD0⟩ := hv
  have hK := hk.1
  have hN := hk.2.1
  have hx := B0.exec
  have hb := B0.bytes
  have hr := B0.returns
  have hT : ∀ w ∈ lw_g, w.before _ s = true := fun w h => atoms_spec (ws := mw_PA_read) B0.pre w (List.mem_cons_of_mem _ h)
  have hown : s.vm.findClass R_PA = some m.cls := findClass_of_methodNamed B0.named
  have hlocks := B0.notSynchronized
  subst hsz
  have hD := hD0.self (sz := s.heap.size)
  generalize hAe : va_A [(aP, .inr (5, [.ref aS, .ref aV, .ref aPs, .ref aPe, .ref aPi, .ref aPh, .int pcnt, .int (b2i pfix), .int pown, .ref aPl, .ref aPn, .int plc, .int psr, .int pbs, .int (b2i pms)])), (aS, .inr (0, [.ref aB])), (aB, .inl (cB, 202000, .inl (by_ b))), (aPs, .inl (cI, 8, .inl pst)), (aPe, .inl (cI, 8, .inl pen)), (aPi, .inl (cI, 8, .inl pix))] s.heap.size = A at hD ⊢
  have hA : ∀ q : Nat, s.heap.size ≤ q → A q := fun q h => by rw [← hAe]; exact Or.inr h
  have hS : va_S A s.heap s.heap [] := va_S.rf
  have hl := lv_entry ([.ref aP, .int p0, .int p1]) (n := 6) (Nat.le_of_ble_eq_true rfl)
  rw [lg_entry_eq]
  generalize (lg_sl ([.ref aP, .int p0, .int p1]) ++ List.replicate (6 - (lg_sl ([.ref aP, .int p0, .int p1])).length) Slot.unset).toArray = ls at hl ⊢
  have hl : lv_has ls 6 [(0, .ref aP), (1, .int p0), (2, .int p1)] := hl
  have C0 : lc_C p s m meth c _ b_PA_read 6 (some .boolean) R_PA lw_g := ⟨hx, hb, hml, hr, hown, hlocks, hT⟩
  refine lv_aload_n hx hb d_PA_read_0 rfl (lv_at hl 0 rfl) ?_
  refine lv_iconst (v := 0) hx hb d_PA_read_1 (by decide) ?_
  refine va_put (D := D) (ci := 5) (v := .int 0) (ty := .boolean) (C := R_PA) (T := T_PA) (N := 15) hx hb hT u_PA ty_PA tyok_PA nm_PA hown hK hP hD hS 0 rfl rfl 7 (by decide) (hT _ k_149) (fun _ h9 => h9) rfl (by decide +kernel) (rfl) (rfl) (Nat.le_of_ble_eq_true rfl) d_PA_read_2 (fun H locs hP hD hS => ?_)
  have hP : va_P D vwCl [(aP, .inr (5, [.ref aS, .ref aV, .ref aPs, .ref aPe, .ref aPi, .ref aPh, .int pcnt, .int 0, .int pown, .ref aPl, .ref aPn, .int plc, .int psr, .int pbs, .int (b2i pms)])), (aS, .inr (0, [.ref aB])), (aB, .inl (cB, 202000, .inl (by_ b))), (aPs, .inl (cI, 8, .inl pst)), (aPe, .inl (cI, 8, .inl pen)), (aPi, .inl (cI, 8, .inl pix))] H := hP
  have hD : va_D A [(aP, .inr (5, [.ref aS, .ref aV, .ref aPs, .ref aPe, .ref aPi, .ref aPh, .int pcnt, .int 0, .int pown, .ref aPl, .ref aPn, .int plc, .int psr, .int pbs, .int (b2i pms)])), (aS, .inr (0, [.ref aB])), (aB, .inl (cB, 202000, .inl (by_ b))), (aPs, .inl (cI, 8, .inl pst)), (aPe, .inl (cI, 8, .inl pen)), (aPi, .inl (cI, 8, .inl pix))] := hD
  refine lv_aload_n hx hb d_PA_read_5 rfl (lv_at hl 0 rfl) ?_
  refine lv_iconst (v := 0) hx hb d_PA_read_6 (by decide) ?_
  refine va_put (D := D) (ci := 5) (v := .int 0) (ty := .int) (C := R_PA) (T := T_PA) (N := 15) hx hb hT u_PA ty_PA tyok_PA nm_PA hown hK hP hD hS 0 rfl rfl 6 (by decide) (hT _ k_147) (fun _ h9 => h9) rfl (by decide +kernel) (rfl) (rfl) (Nat.le_of_ble_eq_true rfl) d_PA_read_7 (fun H locs hP hD hS => ?_)
  have hP : va_P D vwCl [(aP, .inr (5, [.ref aS, .ref aV, .ref aPs, .ref aPe, .ref aPi, .ref aPh, .int 0, .int 0, .int pown, .ref aPl, .ref aPn, .int plc, .int psr, .int pbs, .int (b2i pms)])), (aS, .inr (0, [.ref aB])), (aB, .inl (cB, 202000, .inl (by_ b))), (aPs, .inl (cI, 8, .inl pst)), (aPe, .inl (cI, 8, .inl pen)), (aPi, .inl (cI, 8, .inl pix))] H := hP
  have hD : va_D A [(aP, .inr (5, [.ref aS, .ref aV, .ref aPs, .ref aPe, .ref aPi, .ref aPh, .int 0, .int 0, .int pown, .ref aPl, .ref aPn, .int plc, .int psr, .int pbs, .int (b2i pms)])), (aS, .inr (0, [.ref aB])), (aB, .inl (cB, 202000, .inl (by_ b))), (aPs, .inl (cI, 8, .inl pst)), (aPe, .inl (cI, 8, .inl pen)), (aPi, .inl (cI, 8, .inl pix))] := hD
  refine lv_iload_n hx hb d_PA_read_10 rfl (lv_at hl 1 rfl) ?_
  refine lv_istore_n (lv' := [(3, .int p0), (0, .ref aP), (1, .int p0), (2, .int p1)]) hx hb d_PA_read_11 rfl hl (by decide) rfl (fun ls hl => ?_)
  refine lv_iload_n hx hb d_PA_read_12 rfl (lv_at hl 2 rfl) ?_
  refine lv_istore (lv' := [(4, .int p0), (3, .int p0), (0, .ref aP), (1, .int p0), (2, .int p1)]) hx hb d_PA_read_13 hl (by decide) rfl (fun ls hl => ?_)
  exact l_PA_read_h15 C0 l D cB cI aP aS aV aPs aPe aPi aPh aPl aPn aB pown plc psr pbs pms b hk hA p1  ((rd_mu p1 p0) + 1) p0 p0 0 false pst pen pix (Nat.lt_succ_self _) (by decide) (by rw [tw_PA_read]) _ _ hP hD hS ls (lv_sub hl [2, 4, 1, 0] rfl)
abbrev wd_PA_readText (aP aS aV aPs aPe aPi aPh aPl aPn aB : Nat) (cB cI : ClassId) (pown : Int32) (plc : Int32) (psr : Int32) (pbs : Int32) (pms : Bool) (b : Nat → UInt8) (pcnt : Int32) (pfix : Bool) (pst : Nat → Int32) (pen : Nat → Int32) (pix : Nat → Int32) : va_W := [(aP, .inr (5, [.ref aS, .ref aV, .ref aPs, .ref aPe, .ref aPi, .ref aPh, .int pcnt, .int (b2i pfix), .int pown, .ref aPl, .ref aPn, .int plc, .int psr, .int pbs, .int (b2i pms)])), (aS, .inr (0, [.ref aB])), (aB, .inl (cB, 202000, .inl (by_ b))), (aPs, .inl (cI, 8, .inl pst)), (aPe, .inl (cI, 8, .inl pen)), (aPi, .inl (cI, 8, .inl pix))]
set_option maxHeartbeats 4000000 in
set_option maxRecDepth 100000 in
theorem c_PA_readText (l : Launch) (D : va_G) (cB cI : ClassId) (aP aS aV aPs aPe aPi aPh aPl aPn aB : Nat) (pown : Int32) (plc : Int32) (psr : Int32) (pbs : Int32) (pms : Bool) (b : Nat → UInt8) (sz : Nat) (pcnt : Int32) (pfix : Bool) (pst : Nat → Int32) (pen : Nat → Int32) (pix : Nat → Int32) (p0 : Int32) : Met l y_PA_readText mw_PA_readText { frames := 3, cells := 0, slots := 0, locals := 72 } (va_Pc [.ref aP, .int p0] (mt_P D cB cI (wd_PA_readText aP aS aV aPs aPe aPi aPh aPl aPn aB cB cI pown plc psr pbs pms b pcnt pfix pst pen pix) sz)) (va_Qi (fun (r : Int32) (u : Int32 × Bool × (Nat → Int32) × (Nat → Int32) × (Nat → Int32)) => ∃ z9 : Bool, r = b2i z9 ∧ (z9, u) = tw_PA_readText b pcnt pfix pst pen pix p0) (mt_B D (va_A (wd_PA_readText aP aS aV aPs aPe aPi aPh aPl aPn aB cB cI pown plc psr pbs pms b pcnt pfix pst pen pix) sz) (fun u => wd_PA_readText aP aS aV aPs aPe aPi aPh aPl aPn aB cB cI pown plc psr pbs pms b u.1 u.2.1 u.2.2.1 u.2.2.2.1 u.2.2.2.2)) (va_A (wd_PA_readText aP aS aV aPs aPe aPi aPh aPl aPn aB cB cI pown plc psr pbs pms b pcnt pfix pst pen pix) sz)) 0 0 (va_A (wd_PA_readText aP aS aV aPs aPe aPi aPh aPl aPn aB cB cI pown plc psr pbs pms b pcnt pfix pst pen pix) sz) := by
  refine Met.ofW (cc := b_PA_readText) (maxL := 2) (ret := (some .boolean)) (by decide) rfl ?_
  intro p e s m args below meth c s₁ B0 hml hv
  obtain ⟨rfl, hsz, hP, hk, hD0⟩ := hv
  have hK := hk.1
  have hN := hk.2.1
  have hx := B0.exec
  have hb := B0.bytes
  have hr := B0.returns
  have hT : ∀ w ∈ lw_g, w.before _ s = true := fun w h => atoms_spec (ws := mw_PA_readText) B0.pre w (List.mem_cons_of_mem _ h)
  have hown : s.vm.findClass R_PA = some m.cls := findClass_of_methodNamed B0.named
  have hlocks := B0.notSynchronized
  subst hsz
  have hD := hD0.self (sz := s.heap.size)
  generalize hAe : va_A [(aP, .inr (5, [.ref aS, .ref aV, .ref aPs, .ref aPe, .ref aPi, .ref aPh, .int pcnt, .int (b2i pfix), .int pown, .ref aPl, .ref aPn, .int plc, .int psr, .int pbs, .int (b2i pms)])), (aS, .inr (0, [.ref aB])), (aB, .inl (cB, 202000, .inl (by_ b))), (aPs, .inl (cI, 8, .inl pst)), (aPe, .inl (cI, 8, .inl pen)), (aPi, .inl (cI, 8, .inl pix))] s.heap.size = A at hD ⊢
  have hA : ∀ q : Nat, s.heap.size ≤ q → A q := fun q h => by rw [← hAe]; exact Or.inr h
  have hS : va_S A s.heap s.heap [] := va_S.rf
  have hl := lv_entry ([.ref aP, .int p0]) (n := 2) (Nat.le_of_ble_eq_true rfl)
  rw [lg_entry_eq]
  generalize (lg_sl ([.ref aP, .int p0]) ++ List.replicate (2 - (lg_sl ([.ref aP, .int p0])).length) Slot.unset).toArray = ls at hl ⊢
  have hl : lv_has ls 2 [(0, .ref aP), (1, .int p0)] := hl
  refine lv_aload_n hx hb d_PA_readText_0 rfl (lv_at hl 0 rfl) ?_
  refine lv_iload_n hx hb d_PA_readText_1 rfl (lv_at hl 1 rfl) ?_
  refine rd_S (val := tw_ST_placeOf p0) (As := [.int p0]) (rest := [.ref aP]) ⟨hx, hb, hml, hown, hT⟩ (c_ST_placeOf l D cB cI p0) (va_cwS 1 hT (gS_of k_574 k_403 k_2 kc_ST_placeOf) rfl rfl rfl hd_ST_placeOf ⟨Nat.le_of_ble_eq_true rfl, Nat.le_of_ble_eq_true rfl⟩) hk (va_P_nil) rfl hl.1 rfl (Nat.le_of_ble_eq_true rfl) d_PA_readText_2 ⟨Nat.zero_le _, Nat.zero_le _⟩ ?_
  refine lv_iconst (v := 4) hx hb d_PA_readText_5 (by decide) ?_
  refine lv_iadd hx hb d_PA_readText_6 ?_
  refine lv_aload_n hx hb d_PA_readText_7 rfl (lv_at hl 0 rfl) ?_
  refine va_get (D := D) (ci := 5) (v := .ref aS) (C := R_PA) (T := T_PA) (N := 15) hx hb hT u_PA hown hK hP 0 rfl rfl 0 (by decide) (hT _ k_140) (fun _ h9 => h9) rfl d_PA_readText_8 ?_
  refine lv_iload_n hx hb d_PA_readText_11 rfl (lv_at hl 1 rfl) ?_
  refine rd_V (val := tw_ST_endOf b p0) (As := [.int p0]) (rest := [.int ((tw_ST_placeOf p0) + 4), .ref aP]) ⟨hx, hb, hml, hown, hT⟩ (c_ST_endOf l D cB cI aS aB b p0) (cwV 1 hT (gV_of k_576 k_416 k_417 k_2 kc_ST_endOf) rfl rfl rfl hd_ST_endOf ⟨Nat.le_of_ble_eq_true rfl, Nat.le_of_ble_eq_true rfl⟩) hk (hP.sub (ws' := [(aS, .inr (0, [.ref aB])), (aB, .inl (cB, 202000, .inl (by_ b)))]) [1, 2] rfl) (q0 := 0) rfl rfl rfl rfl hl.1 rfl (Nat.le_of_ble_eq_true rfl) d_PA_readText_12 ⟨Nat.zero_le _, Nat.zero_le _⟩ ?_
  refine lv_iconst (v := 1) hx hb d_PA_readText_15 (by decide) ?_
  refine lv_isub hx hb d_PA_readText_16 ?_
  refine mt_Vi (As := [.int ((tw_ST_placeOf p0) + 4), .int ((tw_ST_endOf b p0) - 1)]) (rest := []) (wr := []) ⟨hx, hb, hml, hown, hT⟩ (c_PA_read l D cB cI aP aS aV aPs aPe aPi aPh aPl aPn aB pown plc psr pbs pms b _ pcnt pfix pst pen pix ((tw_ST_placeOf p0) + 4) ((tw_ST_endOf b p0) - 1)) (cwV 2 hT (gV_of k_577 k_578 k_579 k_7 kc_PA_read) rfl rfl rfl hd_PA_read ⟨Nat.le_of_ble_eq_true rfl, Nat.le_of_ble_eq_true rfl⟩) hk hP hD hS hA [0, 1, 2, 3, 4, 5] [] rfl rfl rfl (by decide) (by decide) (by decide) (q0 := 0) rfl rfl rfl rfl hl.1 rfl (Nat.le_of_ble_eq_true rfl) d_PA_readText_17 ⟨Nat.zero_le _, Nat.zero_le _⟩ (fun r_1 u_1 H locs hw_1 hP hD hS => ?_)
  obtain ⟨pcnt_1, pfix_1, pst_1, pen_1, pix_1⟩ := u_1
  obtain ⟨r_1, rfl, hw_1⟩ := hw_1
  have hP : va_P D vwCl [(aP, .inr (5, [.ref aS, .ref aV, .ref aPs, .ref aPe, .ref aPi, .ref aPh, .int pcnt_1, .int (b2i pfix_1), .int pown, .ref aPl, .ref aPn, .int plc, .int psr, .int pbs, .int (b2i pms)])), (aS, .inr (0, [.ref aB])), (aB, .inl (cB, 202000, .inl (by_ b))), (aPs, .inl (cI, 8, .inl pst_1)), (aPe, .inl (cI, 8, .inl pen_1)), (aPi, .inl (cI, 8, .inl pix_1))] H := hP.sub [0, 1, 2, 3, 4, 5] rfl
  have hD : va_D A [(aP, .inr (5, [.ref aS, .ref aV, .ref aPs, .ref aPe, .ref aPi, .ref aPh, .int pcnt_1, .int (b2i pfix_1), .int pown, .ref aPl, .ref aPn, .int plc, .int psr, .int pbs, .int (b2i pms)])), (aS, .inr (0, [.ref aB])), (aB, .inl (cB, 202000, .inl (by_ b))), (aPs, .inl (cI, 8, .inl pst_1)), (aPe, .inl (cI, 8, .inl pen_1)), (aPi, .inl (cI, 8, .inl pix_1))] := hD.sub [0, 1, 2, 3, 4, 5] (by decide) rfl
  exact W.zret (v := b2i r_1) (ty := .boolean) hx hb hr (b2i_nar _) (fun t ht hW => ⟨⟨b2i r_1, (pcnt_1, pfix_1, pst_1, pen_1, pix_1), rfl, ⟨r_1, rfl, (by rw [tw_PA_readText, ← hw_1, tp6_mk]; first | done | rfl)⟩, by rw [ht]; exact hP, hD⟩, hS.F ht⟩) hS.2.2 d_PA_readText_20
abbrev wd_PA_readBehindDollar (aP aS aV aPs aPe aPi aPh aPl aPn aB : Nat) (cB cI : ClassId) (pown : Int32) (plc : Int32) (psr : Int32) (pbs : Int32) (pms : Bool) (b : Nat → UInt8) (pcnt : Int32) (pfix : Bool) (pst : Nat → Int32) (pen : Nat → Int32) (pix : Nat → Int32) : va_W := [(aP, .inr (5, [.ref aS, .ref aV, .ref aPs, .ref aPe, .ref aPi, .ref aPh, .int pcnt, .int (b2i pfix), .int pown, .ref aPl, .ref aPn, .int plc, .int psr, .int pbs, .int (b2i pms)])), (aS, .inr (0, [.ref aB])), (aB, .inl (cB, 202000, .inl (by_ b))), (aPs, .inl (cI, 8, .inl pst)), (aPe, .inl (cI, 8, .inl pen)), (aPi, .inl (cI, 8, .inl pix))]
set_option maxHeartbeats 4000000 in
set_option maxRecDepth 100000 in
theorem c_PA_readBehindDollar (l : Launch) (D : va_G) (cB cI : ClassId) (aP aS aV aPs aPe aPi aPh aPl aPn aB : Nat) (pown : Int32) (plc : Int32) (psr : Int32) (pbs : Int32) (pms : Bool) (b : Nat → UInt8) (sz : Nat) (pcnt : Int32) (pfix : Bool) (pst : Nat → Int32) (pen : Nat → Int32) (pix : Nat → Int32) (p0 : Int32) : Met l y_PA_readBehindDollar mw_PA_readBehindDollar { frames := 3, cells := 0, slots := 0, locals := 72 } (va_Pc [.ref aP, .int p0] (mt_P D cB cI (wd_PA_readBehindDollar aP aS aV aPs aPe aPi aPh aPl aPn aB cB cI pown plc psr pbs pms b pcnt pfix pst pen pix) sz)) (va_Qi (fun (r : Int32) (u : Int32 × Bool × (Nat → Int32) × (Nat → Int32) × (Nat → Int32)) => ∃ z9 : Bool, r = b2i z9 ∧ (z9, u) = tw_PA_readBehindDollar b pcnt pfix pst pen pix p0) (mt_B D (va_A (wd_PA_readBehindDollar aP aS aV aPs aPe aPi aPh aPl aPn aB cB cI pown plc psr pbs pms b pcnt pfix pst pen pix) sz) (fun u => wd_PA_readBehindDollar aP aS aV aPs aPe aPi aPh aPl aPn aB cB cI pown plc psr pbs pms b u.1 u.2.1 u.2.2.1 u.2.2.2.1 u.2.2.2.2)) (va_A (wd_PA_readBehindDollar aP aS aV aPs aPe aPi aPh aPl aPn aB cB cI pown plc psr pbs pms b pcnt pfix pst pen pix) sz)) 0 0 (va_A (wd_PA_readBehindDollar aP aS aV aPs aPe aPi aPh aPl aPn aB cB cI pown plc psr pbs pms b pcnt pfix pst pen pix) sz) := by
  refine Met.ofW (cc := b_PA_readBehindDollar) (maxL := 2) (ret := (some .boolean)) (by decide) rfl ?_
  intro p e s m args below meth c s₁ B0 hml hv
  obtain ⟨rfl, hsz, hP, hk, hD0⟩ := hv
  have hK := hk.1
  have hN := hk.2.1
  have hx := B0.exec
  have hb := B0.bytes
  have hr := B0.returns
  have hT : ∀ w ∈ lw_g, w.before _ s = true := fun w h => atoms_spec (ws := mw_PA_readBehindDollar) B0.pre w (List.mem_cons_of_mem _ h)
  have hown : s.vm.findClass R_PA = some m.cls := findClass_of_methodNamed B0.named
  have hlocks := B0.notSynchronized
  subst hsz
  have hD := hD0.self (sz := s.heap.size)
  generalize hAe : va_A [(aP, .inr (5, [.ref aS, .ref aV, .ref aPs, .ref aPe, .ref aPi, .ref aPh, .int pcnt, .int (b2i pfix), .int pown, .ref aPl, .ref aPn, .int plc, .int psr, .int pbs, .int (b2i pms)])), (aS, .inr (0, [.ref aB])), (aB, .inl (cB, 202000, .inl (by_ b))), (aPs, .inl (cI, 8, .inl pst)), (aPe, .inl (cI, 8, .inl pen)), (aPi, .inl (cI, 8, .inl pix))] s.heap.size = A at hD ⊢
  have hA : ∀ q : Nat, s.heap.size ≤ q → A q := fun q h => by rw [← hAe]; exact Or.inr h
  have hS : va_S A s.heap s.heap [] := va_S.rf
  have hl := lv_entry ([.ref aP, .int p0]) (n := 2) (Nat.le_of_ble_eq_true rfl)
  rw [lg_entry_eq]
  generalize (lg_sl ([.ref aP, .int p0]) ++ List.replicate (2 - (lg_sl ([.ref aP, .int p0])).length) Slot.unset).toArray = ls at hl ⊢
  have hl : lv_has ls 2 [(0, .ref aP), (1, .int p0)] := hl
  refine lv_aload_n hx hb d_PA_readBehindDollar_0 rfl (lv_at hl 0 rfl) ?_
  refine lv_iload_n hx hb d_PA_readBehindDollar_1 rfl (lv_at hl 1 rfl) ?_
  refine rd_S (val := tw_ST_placeOf p0) (As := [.int p0]) (rest := [.ref aP]) ⟨hx, hb, hml, hown, hT⟩ (c_ST_placeOf l D cB cI p0) (va_cwS 1 hT (gS_of k_574 k_403 k_2 kc_ST_placeOf) rfl rfl rfl hd_ST_placeOf ⟨Nat.le_of_ble_eq_true rfl, Nat.le_of_ble_eq_true rfl⟩) hk (va_P_nil) rfl hl.1 rfl (Nat.le_of_ble_eq_true rfl) d_PA_readBehindDollar_2 ⟨Nat.zero_le _, Nat.zero_le _⟩ ?_
  refine lv_iconst (v := 5) hx hb d_PA_readBehindDollar_5 (by decide) ?_
  refine lv_iadd hx hb d_PA_readBehindDollar_6 ?_
  refine lv_aload_n hx hb d_PA_readBehindDollar_7 rfl (lv_at hl 0 rfl) ?_
  refine va_get (D := D) (ci := 5) (v := .ref aS) (C := R_PA) (T := T_PA) (N := 15) hx hb hT u_PA hown hK hP 0 rfl rfl 0 (by decide) (hT _ k_140) (fun _ h9 => h9) rfl d_PA_readBehindDollar_8 ?_
  refine lv_iload_n hx hb d_PA_readBehindDollar_11 rfl (lv_at hl 1 rfl) ?_
  refine rd_V (val := tw_ST_endOf b p0) (As := [.int p0]) (rest := [.int ((tw_ST_placeOf p0) + 5), .ref aP]) ⟨hx, hb, hml, hown, hT⟩ (c_ST_endOf l D cB cI aS aB b p0) (cwV 1 hT (gV_of k_576 k_416 k_417 k_2 kc_ST_endOf) rfl rfl rfl hd_ST_endOf ⟨Nat.le_of_ble_eq_true rfl, Nat.le_of_ble_eq_true rfl⟩) hk (hP.sub (ws' := [(aS, .inr (0, [.ref aB])), (aB, .inl (cB, 202000, .inl (by_ b)))]) [1, 2] rfl) (q0 := 0) rfl rfl rfl rfl hl.1 rfl (Nat.le_of_ble_eq_true rfl) d_PA_readBehindDollar_12 ⟨Nat.zero_le _, Nat.zero_le _⟩ ?_
  refine lv_iconst (v := 1) hx hb d_PA_readBehindDollar_15 (by decide) ?_
  refine lv_isub hx hb d_PA_readBehindDollar_16 ?_
  refine mt_Vi (As := [.int ((tw_ST_placeOf p0) + 5), .int ((tw_ST_endOf b p0) - 1)]) (rest := []) (wr := []) ⟨hx, hb, hml, hown, hT⟩ (c_PA_read l D cB cI aP aS aV aPs aPe aPi aPh aPl aPn aB pown plc psr pbs pms b _ pcnt pfix pst pen pix ((tw_ST_placeOf p0) + 5) ((tw_ST_endOf b p0) - 1)) (cwV 2 hT (gV_of k_577 k_578 k_579 k_7 kc_PA_read) rfl rfl rfl hd_PA_read ⟨Nat.le_of_ble_eq_true rfl, Nat.le_of_ble_eq_true rfl⟩) hk hP hD hS hA [0, 1, 2, 3, 4, 5] [] rfl rfl rfl (by decide) (by decide) (by decide) (q0 := 0) rfl rfl rfl rfl hl.1 rfl (Nat.le_of_ble_eq_true rfl) d_PA_readBehindDollar_17 ⟨Nat.zero_le _, Nat.zero_le _⟩ (fun r_1 u_1 H locs hw_1 hP hD hS => ?_)
  obtain ⟨pcnt_1, pfix_1, pst_1, pen_1, pix_1⟩ := u_1
  obtain ⟨r_1, rfl, hw_1⟩ := hw_1
  have hP : va_P D vwCl [(aP, .inr (5, [.ref aS, .ref aV, .ref aPs, .ref aPe, .ref aPi, .ref aPh, .int pcnt_1, .int (b2i pfix_1), .int pown, .ref aPl, .ref aPn, .int plc, .int psr, .int pbs, .int (b2i pms)])), (aS, .inr (0, [.ref aB])), (aB, .inl (cB, 202000, .inl (by_ b))), (aPs, .inl (cI, 8, .inl pst_1)), (aPe, .inl (cI, 8, .inl pen_1)), (aPi, .inl (cI, 8, .inl pix_1))] H := hP.sub [0, 1, 2, 3, 4, 5] rfl
  have hD : va_D A [(aP, .inr (5, [.ref aS, .ref aV, .ref aPs, .ref aPe, .ref aPi, .ref aPh, .int pcnt_1, .int (b2i pfix_1), .int pown, .ref aPl, .ref aPn, .int plc, .int psr, .int pbs, .int (b2i pms)])), (aS, .inr (0, [.ref aB])), (aB, .inl (cB, 202000, .inl (by_ b))), (aPs, .inl (cI, 8, .inl pst_1)), (aPe, .inl (cI, 8, .inl pen_1)), (aPi, .inl (cI, 8, .inl pix_1))] := hD.sub [0, 1, 2, 3, 4, 5] (by decide) rfl
  exact W.zret (v := b2i r_1) (ty := .boolean) hx hb hr (b2i_nar _) (fun t ht hW => ⟨⟨b2i r_1, (pcnt_1, pfix_1, pst_1, pen_1, pix_1), rfl, ⟨r_1, rfl, (by rw [tw_PA_readBehindDollar, ← hw_1, tp6_mk]; first | done | rfl)⟩, by rw [ht]; exact hP, hD⟩, hS.F ht⟩) hS.2.2 d_PA_readBehindDollar_20
abbrev wd_PA_readExpression (aP aS aV aPs aPe aPi aPh aPl aPn aB : Nat) (cB cI : ClassId) (plc : Int32) (psr : Int32) (pbs : Int32) (pms : Bool) (b : Nat → UInt8) (pcnt : Int32) (pfix : Bool) (pown : Int32) (pst : Nat → Int32) (pen : Nat → Int32) (pix : Nat → Int32) : va_W := [(aP, .inr (5, [.ref aS, .ref aV, .ref aPs, .ref aPe, .ref aPi, .ref aPh, .int pcnt, .int (b2i pfix), .int pown, .ref aPl, .ref aPn, .int plc, .int psr, .int pbs, .int (b2i pms)])), (aS, .inr (0, [.ref aB])), (aB, .inl (cB, 202000, .inl (by_ b))), (aPs, .inl (cI, 8, .inl pst)), (aPe, .inl (cI, 8, .inl pen)), (aPi, .inl (cI, 8, .inl pix))]
set_option maxHeartbeats 4000000 in
set_option maxRecDepth 100000 in
theorem c_PA_readExpression (l : Launch) (D : va_G) (cB cI : ClassId) (aP aS aV aPs aPe aPi aPh aPl aPn aB : Nat) (plc : Int32) (psr : Int32) (pbs : Int32) (pms : Bool) (b : Nat → UInt8) (sz : Nat) (pcnt : Int32) (pfix : Bool) (pown : Int32) (pst : Nat → Int32) (pen : Nat → Int32) (pix : Nat → Int32) (p0 : Int32) : Met l y_PA_readExpression mw_PA_readExpression { frames := 3, cells := 0, slots := 0, locals := 72 } (va_Pc [.ref aP, .int p0] (mt_P D cB cI (wd_PA_readExpression aP aS aV aPs aPe aPi aPh aPl aPn aB cB cI plc psr pbs pms b pcnt pfix pown pst pen pix) sz)) (va_Qi (fun (r : Int32) (u : Int32 × Bool × Int32 × (Nat → Int32) × (Nat → Int32) × (Nat → Int32)) => ∃ z9 : Bool, r = b2i z9 ∧ (z9, u) = tw_PA_readExpression b pcnt pfix pown pst pen pix p0) (mt_B D (va_A (wd_PA_readExpression aP aS aV aPs aPe aPi aPh aPl aPn aB cB cI plc psr pbs pms b pcnt pfix pown pst pen pix) sz) (fun u => wd_PA_readExpression aP aS aV aPs aPe aPi aPh aPl aPn aB cB cI plc psr pbs pms b u.1 u.2.1 u.2.2.1 u.2.2.2.1 u.2.2.2.2.1 u.2.2.2.2.2)) (va_A (wd_PA_readExpression aP aS aV aPs aPe aPi aPh aPl aPn aB cB cI plc psr pbs pms b pcnt pfix pown pst pen pix) sz)) 0 0 (va_A (wd_PA_readExpression aP aS aV aPs aPe aPi aPh aPl aPn aB cB cI plc psr pbs pms b pcnt pfix pown pst pen pix) sz) := by
  refine Met.ofW (cc := b_PA_readExpression) (maxL := 2) (ret := (some .boolean)) (by decide) rfl ?_
  intro p e s m args below meth c s₁ B0 hml hv
  obtain ⟨rfl, hsz, hP, hk, hD0⟩ := hv
  have hK := hk.1
  have hN := hk.2.1
  have hx := B0.exec
  have hb := B0.bytes
  have hr := B0.returns
  have hT : ∀ w ∈ lw_g, w.before _ s = true := fun w h => atoms_spec (ws := mw_PA_readExpression) B0.pre w (List.mem_cons_of_mem _ h)
  have hown : s.vm.findClass R_PA = some m.cls := findClass_of_methodNamed B0.named
  have hlocks := B0.notSynchronized
  subst hsz
  have hD := hD0.self (sz := s.heap.size)
  generalize hAe : va_A [(aP, .inr (5, [.ref aS, .ref aV, .ref aPs, .ref aPe, .ref aPi, .ref aPh, .int pcnt, .int (b2i pfix), .int pown, .ref aPl, .ref aPn, .int plc, .int psr, .int pbs, .int (b2i pms)])), (aS, .inr (0, [.ref aB])), (aB, .inl (cB, 202000, .inl (by_ b))), (aPs, .inl (cI, 8, .inl pst)), (aPe, .inl (cI, 8, .inl pen)), (aPi, .inl (cI, 8, .inl pix))] s.heap.size = A at hD ⊢
  have hA : ∀ q : Nat, s.heap.size ≤ q → A q := fun q h => by rw [← hAe]; exact Or.inr h
  have hS : va_S A s.heap s.heap [] := va_S.rf
  have hl := lv_entry ([.ref aP, .int p0]) (n := 2) (Nat.le_of_ble_eq_true rfl)
  rw [lg_entry_eq]
  generalize (lg_sl ([.ref aP, .int p0]) ++ List.replicate (2 - (lg_sl ([.ref aP, .int p0])).length) Slot.unset).toArray = ls at hl ⊢
  have hl : lv_has ls 2 [(0, .ref aP), (1, .int p0)] := hl
  refine lv_aload_n hx hb d_PA_readExpression_0 rfl (lv_at hl 0 rfl) ?_
  refine lv_iload_n hx hb d_PA_readExpression_1 rfl (lv_at hl 1 rfl) ?_
  refine rd_V (val := b2i (tw_PA_startsWithDollar b p0)) (As := [.int p0]) (rest := []) ⟨hx, hb, hml, hown, hT⟩ (c_PA_startsWithDollar l D cB cI aP aS aV aPs aPe aPi aPh aPl aPn aB pcnt pfix pown plc psr pbs pms b p0) (cwV 1 hT (gV_of k_569 k_570 k_571 k_7 kc_PA_startsWithDollar) rfl rfl rfl hd_PA_startsWithDollar ⟨Nat.le_of_ble_eq_true rfl, Nat.le_of_ble_eq_true rfl⟩) hk (hP.sub (ws' := [(aP, .inr (5, [.ref aS, .ref aV, .ref aPs, .ref aPe, .ref aPi, .ref aPh, .int pcnt, .int (b2i pfix), .int pown, .ref aPl, .ref aPn, .int plc, .int psr, .int pbs, .int (b2i pms)])), (aS, .inr (0, [.ref aB])), (aB, .inl (cB, 202000, .inl (by_ b)))]) [0, 1, 2] rfl) (q0 := 0) rfl rfl rfl rfl hl.1 rfl (Nat.le_of_ble_eq_true rfl) d_PA_readExpression_2 ⟨Nat.zero_le _, Nat.zero_le _⟩ ?_
  refine lv_if_eq (tgt := 29) hx hb d_PA_readExpression_5 (by decide) (fun c_1 => ?_) (fun c_1 => ?_)
  · refine lv_aload_n hx hb d_PA_readExpression_29 rfl (lv_at hl 0 rfl) ?_
    refine lv_iconst (v := 1) hx hb d_PA_readExpression_30 (by decide) ?_
    refine va_put (D := D) (ci := 5) (v := .int 1) (ty := .boolean) (C := R_PA) (T := T_PA) (N := 15) hx hb hT u_PA ty_PA tyok_PA nm_PA hown hK hP hD hS 0 rfl rfl 7 (by decide) (hT _ k_149) (fun _ h9 => h9) rfl (by decide +kernel) (rfl) (rfl) (Nat.le_of_ble_eq_true rfl) d_PA_readExpression_31 (fun H locs hP hD hS => ?_)
    have hP : va_P D vwCl [(aP, .inr (5, [.ref aS, .ref aV, .ref aPs, .ref aPe, .ref aPi, .ref aPh, .int pcnt, .int 1, .int pown, .ref aPl, .ref aPn, .int plc, .int psr, .int pbs, .int (b2i pms)])), (aS, .inr (0, [.ref aB])), (aB, .inl (cB, 202000, .inl (by_ b))), (aPs, .inl (cI, 8, .inl pst)), (aPe, .inl (cI, 8, .inl pen)), (aPi, .inl (cI, 8, .inl pix))] H := hP
    have hD : va_D A [(aP, .inr (5, [.ref aS, .ref aV, .ref aPs, .ref aPe, .ref aPi, .ref aPh, .int pcnt, .int 1, .int pown, .ref aPl, .ref aPn, .int plc, .int psr, .int pbs, .int (b2i pms)])), (aS, .inr (0, [.ref aB])), (aB, .inl (cB, 202000, .inl (by_ b))), (aPs, .inl (cI, 8, .inl pst)), (aPe, .inl (cI, 8, .inl pen)), (aPi, .inl (cI, 8, .inl pix))] := hD
    refine lv_aload_n hx hb d_PA_readExpression_34 rfl (lv_at hl 0 rfl) ?_
    refine lv_iload_n hx hb d_PA_readExpression_35 rfl (lv_at hl 1 rfl) ?_
    refine va_put (D := D) (ci := 5) (v := .int p0) (ty := .int) (C := R_PA) (T := T_PA) (N := 15) hx hb hT u_PA ty_PA tyok_PA nm_PA hown hK hP hD hS 0 rfl rfl 8 (by decide) (hT _ k_150) (fun _ h9 => h9) rfl (by decide +kernel) (rfl) (rfl) (Nat.le_of_ble_eq_true rfl) d_PA_readExpression_36 (fun H locs hP hD hS => ?_)
    have hP : va_P D vwCl [(aP, .inr (5, [.ref aS, .ref aV, .ref aPs, .ref aPe, .ref aPi, .ref aPh, .int pcnt, .int 1, .int p0, .ref aPl, .ref aPn, .int plc, .int psr, .int pbs, .int (b2i pms)])), (aS, .inr (0, [.ref aB])), (aB, .inl (cB, 202000, .inl (by_ b))), (aPs, .inl (cI, 8, .inl pst)), (aPe, .inl (cI, 8, .inl pen)), (aPi, .inl (cI, 8, .inl pix))] H := hP
    have hD : va_D A [(aP, .inr (5, [.ref aS, .ref aV, .ref aPs, .ref aPe, .ref aPi, .ref aPh, .int pcnt, .int 1, .int p0, .ref aPl, .ref aPn, .int plc, .int psr, .int pbs, .int (b2i pms)])), (aS, .inr (0, [.ref aB])), (aB, .inl (cB, 202000, .inl (by_ b))), (aPs, .inl (cI, 8, .inl pst)), (aPe, .inl (cI, 8, .inl pen)), (aPi, .inl (cI, 8, .inl pix))] := hD
    refine lv_iconst (v := 1) hx hb d_PA_readExpression_39 (by decide) ?_
    exact W.zret (v := 1) (ty := .boolean) hx hb hr (rfl) (fun t ht hW => ⟨⟨1, (pcnt, true, p0, pst, pen, pix), rfl, ⟨true, rfl, (by rw [tw_PA_readExpression, if_pos c_1]; first | done | rfl)⟩, by rw [ht]; exact hP, hD⟩, hS.F ht⟩) hS.2.2 d_PA_readExpression_40
  · refine lv_aload_n hx hb d_PA_readExpression_8 rfl (lv_at hl 0 rfl) ?_
    refine lv_iload_n hx hb d_PA_readExpression_9 rfl (lv_at hl 1 rfl) ?_
    refine rd_S (val := tw_ST_placeOf p0) (As := [.int p0]) (rest := [.ref aP]) ⟨hx, hb, hml, hown, hT⟩ (c_ST_placeOf l D cB cI p0) (va_cwS 1 hT (gS_of k_574 k_403 k_2 kc_ST_placeOf) rfl rfl rfl hd_ST_placeOf ⟨Nat.le_of_ble_eq_true rfl, Nat.le_of_ble_eq_true rfl⟩) hk (va_P_nil) rfl hl.1 rfl (Nat.le_of_ble_eq_true rfl) d_PA_readExpression_10 ⟨Nat.zero_le _, Nat.zero_le _⟩ ?_
    refine lv_iconst (v := 5) hx hb d_PA_readExpression_13 (by decide) ?_
    refine lv_iadd hx hb d_PA_readExpression_14 ?_
    refine lv_aload_n hx hb d_PA_readExpression_15 rfl (lv_at hl 0 rfl) ?_
    refine va_get (D := D) (ci := 5) (v := .ref aS) (C := R_PA) (T := T_PA) (N := 15) hx hb hT u_PA hown hK hP 0 rfl rfl 0 (by decide) (hT _ k_140) (fun _ h9 => h9) rfl d_PA_readExpression_16 ?_
    refine lv_iload_n hx hb d_PA_readExpression_19 rfl (lv_at hl 1 rfl) ?_
    refine rd_V (val := tw_ST_endOf b p0) (As := [.int p0]) (rest := [.int ((tw_ST_placeOf p0) + 5), .ref aP]) ⟨hx, hb, hml, hown, hT⟩ (c_ST_endOf l D cB cI aS aB b p0) (cwV 1 hT (gV_of k_576 k_416 k_417 k_2 kc_ST_endOf) rfl rfl rfl hd_ST_endOf ⟨Nat.le_of_ble_eq_true rfl, Nat.le_of_ble_eq_true rfl⟩) hk (hP.sub (ws' := [(aS, .inr (0, [.ref aB])), (aB, .inl (cB, 202000, .inl (by_ b)))]) [1, 2] rfl) (q0 := 0) rfl rfl rfl rfl hl.1 rfl (Nat.le_of_ble_eq_true rfl) d_PA_readExpression_20 ⟨Nat.zero_le _, Nat.zero_le _⟩ ?_
    refine lv_iconst (v := 1) hx hb d_PA_readExpression_23 (by decide) ?_
    refine lv_isub hx hb d_PA_readExpression_24 ?_
    refine mt_Vi (As := [.int ((tw_ST_placeOf p0) + 5), .int ((tw_ST_endOf b p0) - 1)]) (rest := []) (wr := []) ⟨hx, hb, hml, hown, hT⟩ (c_PA_read l D cB cI aP aS aV aPs aPe aPi aPh aPl aPn aB pown plc psr pbs pms b _ pcnt pfix pst pen pix ((tw_ST_placeOf p0) + 5) ((tw_ST_endOf b p0) - 1)) (cwV 2 hT (gV_of k_577 k_578 k_579 k_7 kc_PA_read) rfl rfl rfl hd_PA_read ⟨Nat.le_of_ble_eq_true rfl, Nat.le_of_ble_eq_true rfl⟩) hk hP hD hS hA [0, 1, 2, 3, 4, 5] [] rfl rfl rfl (by decide) (by decide) (by decide) (q0 := 0) rfl rfl rfl rfl hl.1 rfl (Nat.le_of_ble_eq_true rfl) d_PA_readExpression_25 ⟨Nat.zero_le _, Nat.zero_le _⟩ (fun r_2 u_2 H locs hw_2 hP hD hS => ?_)
    obtain ⟨pcnt_2, pfix_2, pst_2, pen_2, pix_2⟩ := u_2
    obtain ⟨r_2, rfl, hw_2⟩ := hw_2
    have hP : va_P D vwCl [(aP, .inr (5, [.ref aS, .ref aV, .ref aPs, .ref aPe, .ref aPi, .ref aPh, .int pcnt_2, .int (b2i pfix_2), .int pown, .ref aPl, .ref aPn, .int plc, .int psr, .int pbs, .int (b2i pms)])), (aS, .inr (0, [.ref aB])), (aB, .inl (cB, 202000, .inl (by_ b))), (aPs, .inl (cI, 8, .inl pst_2)), (aPe, .inl (cI, 8, .inl pen_2)), (aPi, .inl (cI, 8, .inl pix_2))] H := hP.sub [0, 1, 2, 3, 4, 5] rfl
    have hD : va_D A [(aP, .inr (5, [.ref aS, .ref aV, .ref aPs, .ref aPe, .ref aPi, .ref aPh, .int pcnt_2, .int (b2i pfix_2), .int pown, .ref aPl, .ref aPn, .int plc, .int psr, .int pbs, .int (b2i pms)])), (aS, .inr (0, [.ref aB])), (aB, .inl (cB, 202000, .inl (by_ b))), (aPs, .inl (cI, 8, .inl pst_2)), (aPe, .inl (cI, 8, .inl pen_2)), (aPi, .inl (cI, 8, .inl pix_2))] := hD.sub [0, 1, 2, 3, 4, 5] (by decide) rfl
    exact W.zret (v := b2i r_2) (ty := .boolean) hx hb hr (b2i_nar _) (fun t ht hW => ⟨⟨b2i r_2, (pcnt_2, pfix_2, pown, pst_2, pen_2, pix_2), rfl, ⟨r_2, rfl, (by rw [tw_PA_readExpression, if_neg c_1, ← hw_2, tp6_mk]; first | done | rfl)⟩, by rw [ht]; exact hP, hD⟩, hS.F ht⟩) hS.2.2 d_PA_readExpression_28
abbrev wd_PA_throughDocuments (aP aS aV aPs aPe aPi aPh aPl aPn aB : Nat) (cB cI : ClassId) (pcnt : Int32) (pfix : Bool) (pown : Int32) (plc : Int32) (psr : Int32) (pbs : Int32) (pms : Bool) (b : Nat → UInt8) (pst : Nat → Int32) (pen : Nat → Int32) (pho : Nat → Int32) : va_W := [(aP, .inr (5, [.ref aS, .ref aV, .ref aPs, .ref aPe, .ref aPi, .ref aPh, .int pcnt, .int (b2i pfix), .int pown, .ref aPl, .ref aPn, .int plc, .int psr, .int pbs, .int (b2i pms)])), (aS, .inr (0, [.ref aB])), (aB, .inl (cB, 202000, .inl (by_ b))), (aPs, .inl (cI, 8, .inl pst)), (aPe, .inl (cI, 8, .inl pen)), (aPh, .inl (cI, 8, .inl pho))]
set_option maxHeartbeats 4000000 in
set_option maxRecDepth 100000 in
theorem l_PA_throughDocuments_h4 {p : Program} {e : Env} {s : State} {m : MethodId} {args : Array Value} {below : List Frame} {meth : Method} {c : Code} {V : Int32 × (Nat → Int32)} (C0 : lc_C p s m meth c args b_PA_throughDocuments 4 (some .int) R_PA lw_g) (l : Launch) (D : va_G) (cB cI : ClassId) (aP aS aV aPs aPe aPi aPh aPl aPn aB : Nat) (pcnt : Int32) (pfix : Bool) (pown : Int32) (plc : Int32) (psr : Int32) (pbs : Int32) (pms : Bool) (b : Nat → UInt8) (pst : Nat → Int32) (pen : Nat → Int32) {A : Nat → Prop} (hk : hk_ D cB cI s) (hA : ∀ q : Nat, s.heap.size ≤ q → A q)  : ∀ (n : Nat) (x2 : Int32) (x3 : Int32) (pho : Nat → Int32), ((8 : Int32).toInt - x3.toInt).toNat < n → ¬ x3 < 0 → V = tw_PA_throughDocuments_h4 pcnt b pst pen n x2 x3 pho → ∀ (H : Heap) (locs : List Loc), va_P D vwCl [(aP, .inr (5, [.ref aS, .ref aV, .ref aPs, .ref aPe, .ref aPi, .ref aPh, .int pcnt, .int (b2i pfix), .int pown, .ref aPl, .ref aPn, .int plc, .int psr, .int pbs, .int (b2i pms)])), (aS, .inr (0, [.ref aB])), (aB, .inl (cB, 202000, .inl (by_ b))), (aPs, .inl (cI, 8, .inl pst)), (aPe, .inl (cI, 8, .inl pen)), (aPh, .inl (cI, 8, .inl pho))] H → va_D A [(aP, .inr (5, [.ref aS, .ref aV, .ref aPs, .ref aPe, .ref aPi, .ref aPh, .int pcnt, .int (b2i pfix), .int pown, .ref aPl, .ref aPn, .int plc, .int psr, .int pbs, .int (b2i pms)])), (aS, .inr (0, [.ref aB])), (aB, .inl (cB, 202000, .inl (by_ b))), (aPs, .inl (cI, 8, .inl pst)), (aPe, .inl (cI, 8, .inl pen)), (aPh, .inl (cI, 8, .inl pho))] → va_S A s.heap H locs → ∀ ls : Array Slot, lv_has ls 4 [(0, .ref aP), (2, .int x2), (3, .int x3)] → W p l e ({ frames := 3, cells := 0, slots := 0, locals := 76 }) s m args below meth c H locs 0 0 (MQ below (va_Qi (fun (r : Int32) (u : (Nat → Int32)) => (r, u) = V) (mt_B D A (fun u => wd_PA_throughDocuments aP aS aV aPs aPe aPi aPh aPl aPn aB cB cI pcnt pfix pown plc psr pbs pms b pst pen u)) A) args s 0 0 A) (F0 m 4 ls []) := by
  obtain ⟨hx, hb, hml, hr, hown, hlocks, hT⟩ := id C0
  have hK := hk.1
  have hN := hk.2.1
  intro n
  induction n with
  | zero =>
    intro x2 x3 pho hm
    exact absurd hm (Nat.not_lt_zero _)
  | succ n ih =>
    intro x2 x3 pho hm hv1 hV H locs hP hD hS ls hl
    refine lv_iload_n hx hb d_PA_throughDocuments_4 rfl (lv_at hl 2 rfl) ?_
    refine lv_aload_n hx hb d_PA_throughDocuments_5 rfl (lv_at hl 0 rfl) ?_
    refine va_get (D := D) (ci := 5) (v := .int pcnt) (C := R_PA) (T := T_PA) (N := 15) hx hb hT u_PA hown hK hP 0 rfl rfl 6 (by decide) (hT _ k_147) (fun _ h9 => h9) rfl d_PA_throughDocuments_6 ?_
    refine lv_icmp_ge (tgt := 65) hx hb d_PA_throughDocuments_9 (by decide) (fun c_1 => ?_) (fun c_1 => ?_)
    · refine lv_iload_n hx hb d_PA_throughDocuments_65 rfl (lv_at hl 1 rfl) ?_
      exact W.iret (v := x2) hx hb hr (fun t ht hW => ⟨⟨x2, pho, rfl, (by rw [hV, tw_PA_throughDocuments_h4, if_pos c_1]; first | done | rfl), by rw [ht]; exact hP, hD⟩, hS.F ht⟩) hS.2.2 d_PA_throughDocuments_66
    · refine lv_iload_n hx hb d_PA_throughDocuments_12 rfl (lv_at hl 2 rfl) ?_
      refine lv_bipush (v := 8) hx hb d_PA_throughDocuments_13 (by decide) ?_
      refine lv_icmp_ge (tgt := 65) hx hb d_PA_throughDocuments_15 (by decide) (fun c_2 => ?_) (fun c_2 => ?_)
      · refine lv_iload_n hx hb d_PA_throughDocuments_65 rfl (lv_at hl 1 rfl) ?_
        exact W.iret (v := x2) hx hb hr (fun t ht hW => ⟨⟨x2, pho, rfl, (by rw [hV, tw_PA_throughDocuments_h4, if_neg c_1, if_pos c_2]; first | done | rfl), by rw [ht]; exact hP, hD⟩, hS.F ht⟩) hS.2.2 d_PA_throughDocuments_66
      · refine lv_iload_n hx hb d_PA_throughDocuments_18 rfl (lv_at hl 1 rfl) ?_
        refine rd_S (val := tw_ST_kindOf x2) (As := [.int x2]) (rest := []) ⟨hx, hb, hml, hown, hT⟩ (c_ST_kindOf l D cB cI x2) (va_cwS 1 hT (gS_of k_573 k_555 k_2 kc_ST_kindOf) rfl rfl rfl hd_ST_kindOf ⟨Nat.le_of_ble_eq_true rfl, Nat.le_of_ble_eq_true rfl⟩) hk (va_P_nil) rfl hl.1 rfl (Nat.le_of_ble_eq_true rfl) d_PA_throughDocuments_19 ⟨Nat.zero_le _, Nat.zero_le _⟩ ?_
        refine lv_iconst (v := 3) hx hb d_PA_throughDocuments_22 (by decide) ?_
        refine lv_icmp_eq (tgt := 28) hx hb d_PA_throughDocuments_23 (by decide) (fun c_3 => ?_) (fun c_3 => ?_)
        · refine lv_aload_n hx hb d_PA_throughDocuments_28 rfl (lv_at hl 0 rfl) ?_
          refine va_get (D := D) (ci := 5) (v := .ref aPh) (C := R_PA) (T := T_PA) (N := 15) hx hb hT u_PA hown hK hP 0 rfl rfl 5 (by decide) (hT _ k_145) (fun _ h9 => h9) rfl d_PA_throughDocuments_29 ?_
          refine lv_iload_n hx hb d_PA_throughDocuments_32 rfl (lv_at hl 2 rfl) ?_
          refine lv_iload_n hx hb d_PA_throughDocuments_33 rfl (lv_at hl 1 rfl) ?_
          refine rd_S (val := tw_ST_placeOf x2) (As := [.int x2]) (rest := [.int x3, .ref aPh]) ⟨hx, hb, hml, hown, hT⟩ (c_ST_placeOf l D cB cI x2) (va_cwS 1 hT (gS_of k_574 k_403 k_2 kc_ST_placeOf) rfl rfl rfl hd_ST_placeOf ⟨Nat.le_of_ble_eq_true rfl, Nat.le_of_ble_eq_true rfl⟩) hk (va_P_nil) rfl hl.1 rfl (Nat.le_of_ble_eq_true rfl) d_PA_throughDocuments_34 ⟨Nat.zero_le _, Nat.zero_le _⟩ ?_
          refine va_iast hx hb hK hP hD hS 5 1 rfl rfl (in_nn hv1 c_2 rfl) d_PA_throughDocuments_37 (fun H locs hP hD hS => ?_)
          have hP : va_P D vwCl [(aP, .inr (5, [.ref aS, .ref aV, .ref aPs, .ref aPe, .ref aPi, .ref aPh, .int pcnt, .int (b2i pfix), .int pown, .ref aPl, .ref aPn, .int plc, .int psr, .int pbs, .int (b2i pms)])), (aS, .inr (0, [.ref aB])), (aB, .inl (cB, 202000, .inl (by_ b))), (aPs, .inl (cI, 8, .inl pst)), (aPe, .inl (cI, 8, .inl pen)), (aPh, .inl (cI, 8, .inl (upd pho x3.toNatClampNeg (tw_ST_placeOf x2))))] H := hP
          have hD : va_D A [(aP, .inr (5, [.ref aS, .ref aV, .ref aPs, .ref aPe, .ref aPi, .ref aPh, .int pcnt, .int (b2i pfix), .int pown, .ref aPl, .ref aPn, .int plc, .int psr, .int pbs, .int (b2i pms)])), (aS, .inr (0, [.ref aB])), (aB, .inl (cB, 202000, .inl (by_ b))), (aPs, .inl (cI, 8, .inl pst)), (aPe, .inl (cI, 8, .inl pen)), (aPh, .inl (cI, 8, .inl (upd pho x3.toNatClampNeg (tw_ST_placeOf x2))))] := hD
          refine lv_aload_n hx hb d_PA_throughDocuments_38 rfl (lv_at hl 0 rfl) ?_
          refine va_get (D := D) (ci := 5) (v := .ref aS) (C := R_PA) (T := T_PA) (N := 15) hx hb hT u_PA hown hK hP 0 rfl rfl 0 (by decide) (hT _ k_140) (fun _ h9 => h9) rfl d_PA_throughDocuments_39 ?_
          refine lv_iload_n hx hb d_PA_throughDocuments_42 rfl (lv_at hl 1 rfl) ?_
          refine lv_aload_n hx hb d_PA_throughDocuments_43 rfl (lv_at hl 0 rfl) ?_
          refine va_get (D := D) (ci := 5) (v := .ref aPs) (C := R_PA) (T := T_PA) (N := 15) hx hb hT u_PA hown hK hP 0 rfl rfl 2 (by decide) (hT _ k_142) (fun _ h9 => h9) rfl d_PA_throughDocuments_44 ?_
          refine lv_iload_n hx hb d_PA_throughDocuments_47 rfl (lv_at hl 2 rfl) ?_
          refine va_iald hx hb hK hP 3 1 rfl rfl (in_nn hv1 c_2 rfl) d_PA_throughDocuments_48 ?_
          refine lv_aload_n hx hb d_PA_throughDocuments_49 rfl (lv_at hl 0 rfl) ?_
          refine va_get (D := D) (ci := 5) (v := .ref aPe) (C := R_PA) (T := T_PA) (N := 15) hx hb hT u_PA hown hK hP 0 rfl rfl 3 (by decide) (hT _ k_143) (fun _ h9 => h9) rfl d_PA_throughDocuments_50 ?_
          refine lv_iload_n hx hb d_PA_throughDocuments_53 rfl (lv_at hl 2 rfl) ?_
          refine va_iald hx hb hK hP 4 1 rfl rfl (in_nn hv1 c_2 rfl) d_PA_throughDocuments_54 ?_
          refine rd_V (val := tw_ST_find b x2 (pst x3.toNatClampNeg) (pen x3.toNatClampNeg)) (As := [.int x2, .int (pst x3.toNatClampNeg), .int (pen x3.toNatClampNeg)]) (rest := []) ⟨hx, hb, hml, hown, hT⟩ (c_ST_find l D cB cI aS aB b x2 (pst x3.toNatClampNeg) (pen x3.toNatClampNeg)) (cwV 3 hT (gV_of k_651 k_611 k_612 k_2 kc_ST_find) rfl rfl rfl hd_ST_find ⟨Nat.le_of_ble_eq_true rfl, Nat.le_of_ble_eq_true rfl⟩) hk (hP.sub (ws' := [(aS, .inr (0, [.ref aB])), (aB, .inl (cB, 202000, .inl (by_ b)))]) [1, 2] rfl) (q0 := 0) rfl rfl rfl rfl hl.1 rfl (Nat.le_of_ble_eq_true rfl) d_PA_throughDocuments_55 ⟨Nat.zero_le _, Nat.zero_le _⟩ ?_
          refine lv_istore_n (lv' := [(2, .int (tw_ST_find b x2 (pst x3.toNatClampNeg) (pen x3.toNatClampNeg))), (0, .ref aP), (3, .int x3)]) hx hb d_PA_throughDocuments_58 rfl hl (by decide) rfl (fun ls hl => ?_)
          refine lv_iinc (v := x3 + 1) (lv' := [(3, .int (x3 + 1)), (2, .int (tw_ST_find b x2 (pst x3.toNatClampNeg) (pen x3.toNatClampNeg))), (0, .ref aP)]) hx hb d_PA_throughDocuments_59 hl (k := 2) rfl rfl (by decide) rfl (fun ls hl => ?_)
          refine lv_goto (tgt := 4) hx hb d_PA_throughDocuments_62 (by decide) ?_
          exact ih (tw_ST_find b x2 (pst x3.toNatClampNeg) (pen x3.toNatClampNeg)) (x3 + 1) (upd pho x3.toNatClampNeg (tw_ST_placeOf x2)) (lp_up hm c_2) (i_upn hv1 c_2) (by rw [hV, tw_PA_throughDocuments_h4, if_neg c_1, if_neg c_2, if_pos c_3]) _ _ hP hD hS ls (lv_sub hl [2, 1, 0] rfl)
        · refine lv_iconst (v := 0) hx hb d_PA_throughDocuments_26 (by decide) ?_
          exact W.iret (v := 0) hx hb hr (fun t ht hW => ⟨⟨0, pho, rfl, (by rw [hV, tw_PA_throughDocuments_h4, if_neg c_1, if_neg c_2, if_neg c_3]; first | done | rfl), by rw [ht]; exact hP, hD⟩, hS.F ht⟩) hS.2.2 d_PA_throughDocuments_27
set_option maxHeartbeats 4000000 in
set_option maxRecDepth 100000 in
theorem c_PA_throughDocuments (l : Launch) (D : va_G) (cB cI : ClassId) (aP aS aV aPs aPe aPi aPh aPl aPn aB : Nat) (pcnt : Int32) (pfix : Bool) (pown : Int32) (plc : Int32) (psr : Int32) (pbs : Int32) (pms : Bool) (b : Nat → UInt8) (pst : Nat → Int32) (pen : Nat → Int32) (sz : Nat) (pho : Nat → Int32) (p0 : Int32) : Met l y_PA_throughDocuments mw_PA_throughDocuments { frames := 3, cells := 0, slots := 0, locals := 76 } (va_Pc [.ref aP, .int p0] (mt_P D cB cI (wd_PA_throughDocuments aP aS aV aPs aPe aPi aPh aPl aPn aB cB cI pcnt pfix pown plc psr pbs pms b pst pen pho) sz)) (va_Qi (fun (r : Int32) (u : (Nat → Int32)) => (r, u) = tw_PA_throughDocuments pcnt b pst pen pho p0) (mt_B D (va_A (wd_PA_throughDocuments aP aS aV aPs aPe aPi aPh aPl aPn aB cB cI pcnt pfix pown plc psr pbs pms b pst pen pho) sz) (fun u => wd_PA_throughDocuments aP aS aV aPs aPe aPi aPh aPl aPn aB cB cI pcnt pfix pown plc psr pbs pms b pst pen u)) (va_A (wd_PA_throughDocuments aP aS aV aPs aPe aPi aPh aPl aPn aB cB cI pcnt pfix pown plc psr pbs pms b pst pen pho) sz)) 0 0 (va_A (wd_PA_throughDocuments aP aS aV aPs aPe aPi aPh aPl aPn aB cB cI pcnt pfix pown plc psr pbs pms b pst pen pho) sz) := by
  refine Met.ofW (cc := b_PA_throughDocuments) (maxL := 4) (ret := (some .int)) (by decide) rfl ?_
  intro p e s m args below meth c s₁ B0 hml hv
  obtain ⟨rfl, hsz, hP, hk, hD0⟩ := hv
  have hK := hk.1
  have hN := hk.2.1
  have hx := B0.exec
  have hb := B0.bytes
  have hr := B0.returns
  have hT : ∀ w ∈ lw_g, w.before _ s = true := fun w h => atoms_spec (ws := mw_PA_throughDocuments) B0.pre w (List.mem_cons_of_mem _ h)
  have hown : s.vm.findClass R_PA = some m.cls := findClass_of_methodNamed B0.named
  have hlocks := B0.notSynchronized
  subst hsz
  have hD := hD0.self (sz := s.heap.size)
  generalize hAe : va_A [(aP, .inr (5, [.ref aS, .ref aV, .ref aPs, .ref aPe, .ref aPi, .ref aPh, .int pcnt, .int (b2i pfix), .int pown, .ref aPl, .ref aPn, .int plc, .int psr, .int pbs, .int (b2i pms)])), (aS, .inr (0, [.ref aB])), (aB, .inl (cB, 202000, .inl (by_ b))), (aPs, .inl (cI, 8, .inl pst)), (aPe, .inl (cI, 8, .inl pen)), (aPh, .inl (cI, 8, .inl pho))] s.heap.size = A at hD ⊢
  have hA : ∀ q : Nat, s.heap.size ≤ q → A q := fun q h => by rw [← hAe]; exact Or.inr h
  have hS : va_S A s.heap s.heap [] := va_S.rf
  have hl := lv_entry ([.ref aP, .int p0]) (n := 4) (Nat.le_of_ble_eq_true rfl)
  rw [lg_entry_eq]
  generalize (lg_sl ([.ref aP, .int p0]) ++ List.replicate (4 - (lg_sl ([.ref aP, .int p0])).length) Slot.unset).toArray = ls at hl ⊢
  have hl : lv_has ls 4 [(0, .ref aP), (1, .int p0)] := hl
  have C0 : lc_C p s m meth c _ b_PA_throughDocuments 4 (some .int) R_PA lw_g := ⟨hx, hb, hml, hr, hown, hlocks, hT⟩
  refine lv_iload_n hx hb d_PA_throughDocuments_0 rfl (lv_at hl 1 rfl) ?_
  refine lv_istore_n (lv' := [(2, .int p0), (0, .ref aP), (1, .int p0)]) hx hb d_PA_throughDocuments_1 rfl hl (by decide) rfl (fun ls hl => ?_)
  refine lv_iconst (v := 0) hx hb d_PA_throughDocuments_2 (by decide) ?_
  refine lv_istore_n (lv' := [(3, .int 0), (2, .int p0), (0, .ref aP), (1, .int p0)]) hx hb d_PA_throughDocuments_3 rfl hl (by decide) rfl (fun ls hl => ?_)
  exact l_PA_throughDocuments_h4 C0 l D cB cI aP aS aV aPs aPe aPi aPh aPl aPn aB pcnt pfix pown plc psr pbs pms b pst pen hk hA   ((((8 : Int32).toInt - (0 : Int32).toInt).toNat) + 1) p0 0 pho (Nat.lt_succ_self _) (by decide) (by rw [tw_PA_throughDocuments]) _ _ hP hD hS ls (lv_sub hl [2, 1, 0] rfl)
abbrev wd_PA_makeRowsAt (aP aS aV aPs aPe aPi aPh aPl aPn : Nat) (cB cI : ClassId) (pcnt : Int32) (pfix : Bool) (pown : Int32) (plc : Int32) (psr : Int32) (pbs : Int32) (pms : Bool) (vplace : Int32) (vlimit : Int32) (vfull : Bool) : va_W := [(aP, .inr (5, [.ref aS, .ref aV, .ref aPs, .ref aPe, .ref aPi, .ref aPh, .int pcnt, .int (b2i pfix), .int pown, .ref aPl, .ref aPn, .int plc, .int psr, .int pbs, .int (b2i pms)])), (aV, .inr (1, [.ref aS, .int vplace, .int vlimit, .int (b2i vfull)]))]
set_option maxHeartbeats 4000000 in
set_option maxRecDepth 100000 in
theorem c_PA_makeRowsAt (l : Launch) (D : va_G) (cB cI : ClassId) (aP aS aV aPs aPe aPi aPh aPl aPn : Nat) (pcnt : Int32) (pfix : Bool) (pown : Int32) (plc : Int32) (psr : Int32) (pbs : Int32) (pms : Bool) (sz : Nat) (vplace : Int32) (vlimit : Int32) (vfull : Bool) (p0 : Int32) (ha : p0.toInt ≤ 202000) : Met l y_PA_makeRowsAt mw_PA_makeRowsAt { frames := 2, cells := 0, slots := 0, locals := 36 } (va_Pc [.ref aP, .int p0] (mt_P D cB cI (wd_PA_makeRowsAt aP aS aV aPs aPe aPi aPh aPl aPn cB cI pcnt pfix pown plc psr pbs pms vplace vlimit vfull) sz)) (va_Qv (fun (u : Int32 × Int32 × Bool) => u = tw_PA_makeRowsAt vplace vlimit vfull p0 ∧ w_ok u.1 u.2.1 u.2.2) (mt_B D (va_A (wd_PA_makeRowsAt aP aS aV aPs aPe aPi aPh aPl aPn cB cI pcnt pfix pown plc psr pbs pms vplace vlimit vfull) sz) (fun u => wd_PA_makeRowsAt aP aS aV aPs aPe aPi aPh aPl aPn cB cI pcnt pfix pown plc psr pbs pms u.1 u.2.1 u.2.2)) (va_A (wd_PA_makeRowsAt aP aS aV aPs aPe aPi aPh aPl aPn cB cI pcnt pfix pown plc psr pbs pms vplace vlimit vfull) sz)) 0 0 (va_A (wd_PA_makeRowsAt aP aS aV aPs aPe aPi aPh aPl aPn cB cI pcnt pfix pown plc psr pbs pms vplace vlimit vfull) sz) := by
  refine Met.ofW (cc := b_PA_makeRowsAt) (maxL := 2) (ret := none) (by decide) rfl ?_
  intro p e s m args below meth c s₁ B0 hml hv
  obtain ⟨rfl, hsz, hP, hk, hD0⟩ := hv
  have hK := hk.1
  have hN := hk.2.1
  have hx := B0.exec
  have hb := B0.bytes
  have hr := B0.returns
  have hT : ∀ w ∈ lw_g, w.before _ s = true := fun w h => atoms_spec (ws := mw_PA_makeRowsAt) B0.pre w (List.mem_cons_of_mem _ h)
  have hown : s.vm.findClass R_PA = some m.cls := findClass_of_methodNamed B0.named
  have hlocks := B0.notSynchronized
  subst hsz
  have hD := hD0.self (sz := s.heap.size)
  generalize hAe : va_A [(aP, .inr (5, [.ref aS, .ref aV, .ref aPs, .ref aPe, .ref aPi, .ref aPh, .int pcnt, .int (b2i pfix), .int pown, .ref aPl, .ref aPn, .int plc, .int psr, .int pbs, .int (b2i pms)])), (aV, .inr (1, [.ref aS, .int vplace, .int vlimit, .int (b2i vfull)]))] s.heap.size = A at hD ⊢
  have hA : ∀ q : Nat, s.heap.size ≤ q → A q := fun q h => by rw [← hAe]; exact Or.inr h
  have hS : va_S A s.heap s.heap [] := va_S.rf
  have hl := lv_entry ([.ref aP, .int p0]) (n := 2) (Nat.le_of_ble_eq_true rfl)
  rw [lg_entry_eq]
  generalize (lg_sl ([.ref aP, .int p0]) ++ List.replicate (2 - (lg_sl ([.ref aP, .int p0])).length) Slot.unset).toArray = ls at hl ⊢
  have hl : lv_has ls 2 [(0, .ref aP), (1, .int p0)] := hl
  refine lv_aload_n hx hb d_PA_makeRowsAt_0 rfl (lv_at hl 0 rfl) ?_
  refine va_get (D := D) (ci := 5) (v := .ref aV) (C := R_PA) (T := T_PA) (N := 15) hx hb hT u_PA hown hK hP 0 rfl rfl 1 (by decide) (hT _ k_141) (fun _ h9 => h9) rfl d_PA_makeRowsAt_1 ?_
  refine lv_iload_n hx hb d_PA_makeRowsAt_4 rfl (lv_at hl 1 rfl) ?_
  refine lv_ldc (v := 40000) hx hb hown (hT _ k_620) d_PA_makeRowsAt_5 ?_
  refine mt_Vv (As := [.int p0, .int 40000]) (rest := []) (wr := [(aP, .inr (5, [.ref aS, .ref aV, .ref aPs, .ref aPe, .ref aPi, .ref aPh, .int pcnt, .int (b2i pfix), .int pown, .ref aPl, .ref aPn, .int plc, .int psr, .int pbs, .int (b2i pms)]))]) ⟨hx, hb, hml, hown, hT⟩ (c_WR_aim l D cB cI aV aS _ vplace vlimit vfull p0 40000 (⟨ha, by decide, by decide⟩)) (cwV 2 hT (gV_of k_621 k_445 k_446 k_5 kc_WR_aim) rfl rfl rfl hd_WR_aim ⟨Nat.le_of_ble_eq_true rfl, Nat.le_of_ble_eq_true rfl⟩) hk hP hD hS hA [1] [0] rfl rfl rfl (by decide) (by decide) (by decide) (q0 := 0) rfl rfl rfl rfl hl.1 rfl (Nat.le_of_ble_eq_true rfl) d_PA_makeRowsAt_7 ⟨Nat.zero_le _, Nat.zero_le _⟩ (fun u_1 H locs hw_1 hP hD hS => ?_)
  obtain ⟨place_1, limit_1, full_1⟩ := u_1
  obtain ⟨hw_1, hi_1⟩ := hw_1
  have hP : va_P D vwCl [(aP, .inr (5, [.ref aS, .ref aV, .ref aPs, .ref aPe, .ref aPi, .ref aPh, .int pcnt, .int (b2i pfix), .int pown, .ref aPl, .ref aPn, .int plc, .int psr, .int pbs, .int (b2i pms)])), (aV, .inr (1, [.ref aS, .int place_1, .int limit_1, .int (b2i full_1)]))] H := hP.sub [0, 1] rfl
  have hD : va_D A [(aP, .inr (5, [.ref aS, .ref aV, .ref aPs, .ref aPe, .ref aPi, .ref aPh, .int pcnt, .int (b2i pfix), .int pown, .ref aPl, .ref aPn, .int plc, .int psr, .int pbs, .int (b2i pms)])), (aV, .inr (1, [.ref aS, .int place_1, .int limit_1, .int (b2i full_1)]))] := hD.sub [0, 1] (by decide) rfl
  exact W.vret hx hb hr (fun t ht hW => ⟨⟨(place_1, limit_1, full_1), rfl, ⟨(by rw [tw_PA_makeRowsAt, ← hw_1, tp3_mk]; first | done | rfl), hi_1⟩, by rw [ht]; exact hP, hD⟩, hS.F ht⟩) hS.2.2 d_PA_makeRowsAt_10
abbrev wd_PA_meet (aP aS aV aPs aPe aPi aPh aPl aPn : Nat) (cB cI : ClassId) (pcnt : Int32) (pfix : Bool) (pown : Int32) (psr : Int32) (pbs : Int32) (plc : Int32) (pms : Bool) (plv : Nat → Int32) (psn : Nat → Int32) : va_W := [(aP, .inr (5, [.ref aS, .ref aV, .ref aPs, .ref aPe, .ref aPi, .ref aPh, .int pcnt, .int (b2i pfix), .int pown, .ref aPl, .ref aPn, .int plc, .int psr, .int pbs, .int (b2i pms)])), (aPl, .inl (cI, 1001, .inl plv)), (aPn, .inl (cI, 2000, .inl psn))]
set_option maxHeartbeats 4000000 in
set_option maxRecDepth 100000 in
theorem c_PA_meet (l : Launch) (D : va_G) (cB cI : ClassId) (aP aS aV aPs aPe aPi aPh aPl aPn : Nat) (pcnt : Int32) (pfix : Bool) (pown : Int32) (psr : Int32) (pbs : Int32) (sz : Nat) (plc : Int32) (pms : Bool) (plv : Nat → Int32) (psn : Nat → Int32) (p0 : Int32) (hi : l_ok plc) : Met l y_PA_meet mw_PA_meet { frames := 1, cells := 0, slots := 0, locals := 20 } (va_Pc [.ref aP, .int p0] (mt_P D cB cI (wd_PA_meet aP aS aV aPs aPe aPi aPh aPl aPn cB cI pcnt pfix pown psr pbs plc pms plv psn) sz)) (va_Qv (fun (u : Int32 × Bool × (Nat → Int32) × (Nat → Int32)) => u = tw_PA_meet psr pbs plc pms plv psn p0 ∧ l_ok u.1) (mt_B D (va_A (wd_PA_meet aP aS aV aPs aPe aPi aPh aPl aPn cB cI pcnt pfix pown psr pbs plc pms plv psn) sz) (fun u => wd_PA_meet aP aS aV aPs aPe aPi aPh aPl aPn cB cI pcnt pfix pown psr pbs u.1 u.2.1 u.2.2.1 u.2.2.2)) (va_A (wd_PA_meet aP aS aV aPs aPe aPi aPh aPl aPn cB cI pcnt pfix pown psr pbs plc pms plv psn) sz)) 0 0 (va_A (wd_PA_meet aP aS aV aPs aPe aPi aPh aPl aPn cB cI pcnt pfix pown psr pbs plc pms plv psn) sz) := by
  refine Met.ofW (cc := b_PA_meet) (maxL := 4) (ret := none) (by decide) rfl ?_
  intro p e s m args below meth c s₁ B0 hml hv
  obtain ⟨rfl, hsz, hP, hk, hD0⟩ := hv
  have hK := hk.1
  have hN := hk.2.1
  have hx := B0.exec
  have hb := B0.bytes
  have hr := B0.returns
  have hT : ∀ w ∈ lw_g, w.before _ s = true := fun w h => atoms_spec (ws := mw_PA_meet) B0.pre w (List.mem_cons_of_mem _ h)
  have hown : s.vm.findClass R_PA = some m.cls := findClass_of_methodNamed B0.named
  have hlocks := B0.notSynchronized
  subst hsz
  have hD := hD0.self (sz := s.heap.size)
  generalize hAe : va_A [(aP, .inr (5, [.ref aS, .ref aV, .ref aPs, .ref aPe, .ref aPi, .ref aPh, .int pcnt, .int (b2i pfix), .int pown, .ref aPl, .ref aPn, .int plc, .int psr, .int pbs, .int (b2i pms)])), (aPl, .inl (cI, 1001, .inl plv)), (aPn, .inl (cI, 2000, .inl psn))] s.heap.size = A at hD ⊢
  have hA : ∀ q : Nat, s.heap.size ≤ q → A q := fun q h => by rw [← hAe]; exact Or.inr h
  have hS : va_S A s.heap s.heap [] := va_S.rf
  have hl := lv_entry ([.ref aP, .int p0]) (n := 4) (Nat.le_of_ble_eq_true rfl)
  rw [lg_entry_eq]
  generalize (lg_sl ([.ref aP, .int p0]) ++ List.replicate (4 - (lg_sl ([.ref aP, .int p0])).length) Slot.unset).toArray = ls at hl ⊢
  have hl : lv_has ls 4 [(0, .ref aP), (1, .int p0)] := hl
  refine lv_iload_n hx hb d_PA_meet_0 rfl (lv_at hl 1 rfl) ?_
  refine rd_S (val := tw_ST_placeOf p0) (As := [.int p0]) (rest := []) ⟨hx, hb, hml, hown, hT⟩ (c_ST_placeOf l D cB cI p0) (va_cwS 1 hT (gS_of k_574 k_403 k_2 kc_ST_placeOf) rfl rfl rfl hd_ST_placeOf ⟨Nat.le_of_ble_eq_true rfl, Nat.le_of_ble_eq_true rfl⟩) hk (va_P_nil) rfl hl.1 rfl (Nat.le_of_ble_eq_true rfl) d_PA_meet_1 ⟨Nat.zero_le _, Nat.zero_le _⟩ ?_
  refine lv_aload_n hx hb d_PA_meet_4 rfl (lv_at hl 0 rfl) ?_
  refine va_get (D := D) (ci := 5) (v := .int pbs) (C := R_PA) (T := T_PA) (N := 15) hx hb hT u_PA hown hK hP 0 rfl rfl 13 (by decide) (hT _ k_157) (fun _ h9 => h9) rfl d_PA_meet_5 ?_
  refine lv_isub hx hb d_PA_meet_8 ?_
  refine lv_istore_n (lv' := [(2, .int ((tw_ST_placeOf p0) - pbs)), (0, .ref aP), (1, .int p0)]) hx hb d_PA_meet_9 rfl hl (by decide) rfl (fun ls hl => ?_)
  refine lv_aload_n hx hb d_PA_meet_10 rfl (lv_at hl 1 rfl) ?_
  refine va_get (D := D) (ci := 5) (v := .int (b2i pms)) (C := R_PA) (T := T_PA) (N := 15) hx hb hT u_PA hown hK hP 0 rfl rfl 14 (by decide) (hT _ k_158) (fun _ h9 => h9) rfl d_PA_meet_11 ?_
  refine lv_istore_n (lv' := [(3, .int (b2i pms)), (2, .int ((tw_ST_placeOf p0) - pbs)), (0, .ref aP), (1, .int p0)]) hx hb d_PA_meet_14 rfl hl (by decide) rfl (fun ls hl => ?_)
  refine lv_iload_n hx hb d_PA_meet_15 rfl (lv_at hl 3 rfl) ?_
  refine lv_if_ne (tgt := 27) hx hb d_PA_meet_16 (by decide) (fun c_1 => ?_) (fun c_1 => ?_)
  · refine lv_iload_n hx hb d_PA_meet_27 rfl (lv_at hl 1 rfl) ?_
    refine lv_if_lt (tgt := 67) hx hb d_PA_meet_28 (by decide) (fun c_2 => ?_) (fun c_2 => ?_)
    · refine lv_iload_n hx hb d_PA_meet_67 rfl (lv_at hl 0 rfl) ?_
      refine lv_if_ne (tgt := 103) hx hb d_PA_meet_68 (by decide) (fun c_3 => ?_) (fun c_3 => ?_)
      · exact W.vret hx hb hr (fun t ht hW => ⟨⟨(plc, pms, plv, psn), rfl, ⟨(by rw [tw_PA_meet, if_neg c_1, if_pos c_2, if_neg c_3]; first | done | rfl), hi⟩, by rw [ht]; exact hP, hD⟩, hS.F ht⟩) hS.2.2 d_PA_meet_103
      · refine lv_aload_n hx hb d_PA_meet_71 rfl (lv_at hl 2 rfl) ?_
        refine va_get (D := D) (ci := 5) (v := .int plc) (C := R_PA) (T := T_PA) (N := 15) hx hb hT u_PA hown hK hP 0 rfl rfl 11 (by decide) (hT _ k_155) (fun _ h9 => h9) rfl d_PA_meet_72 ?_
        refine lv_aload_n hx hb d_PA_meet_75 rfl (lv_at hl 2 rfl) ?_
        refine va_get (D := D) (ci := 5) (v := .ref aPl) (C := R_PA) (T := T_PA) (N := 15) hx hb hT u_PA hown hK hP 0 rfl rfl 9 (by decide) (hT _ k_151) (fun _ h9 => h9) rfl d_PA_meet_76 ?_
        refine va_alen (v := 1001) hx hb hK hP 1 1 rfl rfl rfl d_PA_meet_79 ?_
        refine lv_icmp_ge (tgt := 103) hx hb d_PA_meet_80 (by decide) (fun c_4 => ?_) (fun c_4 => ?_)
        · exact W.vret hx hb hr (fun t ht hW => ⟨⟨(plc, pms, plv, psn), rfl, ⟨(by rw [tw_PA_meet, if_neg c_1, if_pos c_2, if_pos c_3, if_pos c_4]; first | done | rfl), hi⟩, by rw [ht]; exact hP, hD⟩, hS.F ht⟩) hS.2.2 d_PA_meet_103
        · refine lv_aload_n hx hb d_PA_meet_83 rfl (lv_at hl 2 rfl) ?_
          refine va_get (D := D) (ci := 5) (v := .ref aPl) (C := R_PA) (T := T_PA) (N := 15) hx hb hT u_PA hown hK hP 0 rfl rfl 9 (by decide) (hT _ k_151) (fun _ h9 => h9) rfl d_PA_meet_84 ?_
          refine lv_aload_n hx hb d_PA_meet_87 rfl (lv_at hl 2 rfl) ?_
          refine va_get (D := D) (ci := 5) (v := .int plc) (C := R_PA) (T := T_PA) (N := 15) hx hb hT u_PA hown hK hP 0 rfl rfl 11 (by decide) (hT _ k_155) (fun _ h9 => h9) rfl d_PA_meet_88 ?_
          refine lv_iload_n hx hb d_PA_meet_91 rfl (lv_at hl 3 rfl) ?_
          refine va_iast hx hb hK hP hD hS 1 1 rfl rfl (l_in hi c_4) d_PA_meet_92 (fun H locs hP hD hS => ?_)
          have hP : va_P D vwCl [(aP, .inr (5, [.ref aS, .ref aV, .ref aPs, .ref aPe, .ref aPi, .ref aPh, .int pcnt, .int (b2i pfix), .int pown, .ref aPl, .ref aPn, .int plc, .int psr, .int pbs, .int (b2i pms)])), (aPl, .inl (cI, 1001, .inl (upd plv plc.toNatClampNeg p0))), (aPn, .inl (cI, 2000, .inl psn))] H := hP
          have hD : va_D A [(aP, .inr (5, [.ref aS, .ref aV, .ref aPs, .ref aPe, .ref aPi, .ref aPh, .int pcnt, .int (b2i pfix), .int pown, .ref aPl, .ref aPn, .int plc, .int psr, .int pbs, .int (b2i pms)])), (aPl, .inl (cI, 1001, .inl (upd plv plc.toNatClampNeg p0))), (aPn, .inl (cI, 2000, .inl psn))] := hD
          refine lv_aload_n hx hb d_PA_meet_93 rfl (lv_at hl 2 rfl) ?_
          refine lv_dup hx hb d_PA_meet_94 rfl ?_
          refine va_get (D := D) (ci := 5) (v := .int plc) (C := R_PA) (T := T_PA) (N := 15) hx hb hT u_PA hown hK hP 0 rfl rfl 11 (by decide) (hT _ k_155) (fun _ h9 => h9) rfl d_PA_meet_95 ?_
          refine lv_iconst (v := 1) hx hb d_PA_meet_98 (by decide) ?_
          refine lv_iadd hx hb d_PA_meet_99 ?_
          refine va_put (D := D) (ci := 5) (v := .int (plc + 1)) (ty := .int) (C := R_PA) (T := T_PA) (N := 15) hx hb hT u_PA ty_PA tyok_PA nm_PA hown hK hP hD hS 0 rfl rfl 11 (by decide) (hT _ k_155) (fun _ h9 => h9) rfl (by decide +kernel) (rfl) (rfl) (Nat.le_of_ble_eq_true rfl) d_PA_meet_100 (fun H locs hP hD hS => ?_)
          have hP : va_P D vwCl [(aP, .inr (5, [.ref aS, .ref aV, .ref aPs, .ref aPe, .ref aPi, .ref aPh, .int pcnt, .int (b2i pfix), .int pown, .ref aPl, .ref aPn, .int (plc + 1), .int psr, .int pbs, .int (b2i pms)])), (aPl, .inl (cI, 1001, .inl (upd plv plc.toNatClampNeg p0))), (aPn, .inl (cI, 2000, .inl psn))] H := hP
          have hD : va_D A [(aP, .inr (5, [.ref aS, .ref aV, .ref aPs, .ref aPe, .ref aPi, .ref aPh, .int pcnt, .int (b2i pfix), .int pown, .ref aPl, .ref aPn, .int (plc + 1), .int psr, .int pbs, .int (b2i pms)])), (aPl, .inl (cI, 1001, .inl (upd plv plc.toNatClampNeg p0))), (aPn, .inl (cI, 2000, .inl psn))] := hD
          exact W.vret hx hb hr (fun t ht hW => ⟨⟨(plc + 1, pms, upd plv plc.toNatClampNeg p0, psn), rfl, ⟨(by rw [tw_PA_meet, if_neg c_1, if_pos c_2, if_pos c_3, if_neg c_4]; first | done | rfl), (l_inc hi c_4)⟩, by rw [ht]; exact hP, hD⟩, hS.F ht⟩) hS.2.2 d_PA_meet_103
    · refine lv_iload_n hx hb d_PA_meet_31 rfl (lv_at hl 1 rfl) ?_
      refine lv_sipush (v := 2000) hx hb d_PA_meet_32 (by decide) ?_
      refine lv_icmp_ge (tgt := 67) hx hb d_PA_meet_35 (by decide) (fun c_5 => ?_) (fun c_5 => ?_)
      · refine lv_iload_n hx hb d_PA_meet_67 rfl (lv_at hl 0 rfl) ?_
        refine lv_if_ne (tgt := 103) hx hb d_PA_meet_68 (by decide) (fun c_6 => ?_) (fun c_6 => ?_)
        · exact W.vret hx hb hr (fun t ht hW => ⟨⟨(plc, pms, plv, psn), rfl, ⟨(by rw [tw_PA_meet, if_neg c_1, if_neg c_2, if_pos c_5, if_neg c_6]; first | done | rfl), hi⟩, by rw [ht]; exact hP, hD⟩, hS.F ht⟩) hS.2.2 d_PA_meet_103
        · refine lv_aload_n hx hb d_PA_meet_71 rfl (lv_at hl 2 rfl) ?_
          refine va_get (D := D) (ci := 5) (v := .int plc) (C := R_PA) (T := T_PA) (N := 15) hx hb hT u_PA hown hK hP 0 rfl rfl 11 (by decide) (hT _ k_155) (fun _ h9 => h9) rfl d_PA_meet_72 ?_
          refine lv_aload_n hx hb d_PA_meet_75 rfl (lv_at hl 2 rfl) ?_
          refine va_get (D := D) (ci := 5) (v := .ref aPl) (C := R_PA) (T := T_PA) (N := 15) hx hb hT u_PA hown hK hP 0 rfl rfl 9 (by decide) (hT _ k_151) (fun _ h9 => h9) rfl d_PA_meet_76 ?_
          refine va_alen (v := 1001) hx hb hK hP 1 1 rfl rfl rfl d_PA_meet_79 ?_
          refine lv_icmp_ge (tgt := 103) hx hb d_PA_meet_80 (by decide) (fun c_7 => ?_) (fun c_7 => ?_)
          · exact W.vret hx hb hr (fun t ht hW => ⟨⟨(plc, pms, plv, psn), rfl, ⟨(by rw [tw_PA_meet, if_neg c_1, if_neg c_2, if_pos c_5, if_pos c_6, if_pos c_7]; first | done | rfl), hi⟩, by rw [ht]; exact hP, hD⟩, hS.F ht⟩) hS.2.2 d_PA_meet_103
          · refine lv_aload_n hx hb d_PA_meet_83 rfl (lv_at hl 2 rfl) ?_
            refine va_get (D := D) (ci := 5) (v := .ref aPl) (C := R_PA) (T := T_PA) (N := 15) hx hb hT u_PA hown hK hP 0 rfl rfl 9 (by decide) (hT _ k_151) (fun _ h9 => h9) rfl d_PA_meet_84 ?_
            refine lv_aload_n hx hb d_PA_meet_87 rfl (lv_at hl 2 rfl) ?_
            refine va_get (D := D) (ci := 5) (v := .int plc) (C := R_PA) (T := T_PA) (N := 15) hx hb hT u_PA hown hK hP 0 rfl rfl 11 (by decide) (hT _ k_155) (fun _ h9 => h9) rfl d_PA_meet_88 ?_
            refine lv_iload_n hx hb d_PA_meet_91 rfl (lv_at hl 3 rfl) ?_
            refine va_iast hx hb hK hP hD hS 1 1 rfl rfl (l_in hi c_7) d_PA_meet_92 (fun H locs hP hD hS => ?_)
            have hP : va_P D vwCl [(aP, .inr (5, [.ref aS, .ref aV, .ref aPs, .ref aPe, .ref aPi, .ref aPh, .int pcnt, .int (b2i pfix), .int pown, .ref aPl, .ref aPn, .int plc, .int psr, .int pbs, .int (b2i pms)])), (aPl, .inl (cI, 1001, .inl (upd plv plc.toNatClampNeg p0))), (aPn, .inl (cI, 2000, .inl psn))] H := hP
            have hD : va_D A [(aP, .inr (5, [.ref aS, .ref aV, .ref aPs, .ref aPe, .ref aPi, .ref aPh, .int pcnt, .int (b2i pfix), .int pown, .ref aPl, .ref aPn, .int plc, .int psr, .int pbs, .int (b2i pms)])), (aPl, .inl (cI, 1001, .inl (upd plv plc.toNatClampNeg p0))), (aPn, .inl (cI, 2000, .inl psn))] := hD
            refine lv_aload_n hx hb d_PA_meet_93 rfl (lv_at hl 2 rfl) ?_
            refine lv_dup hx hb d_PA_meet_94 rfl ?_
            refine va_get (D := D) (ci := 5) (v := .int plc) (C := R_PA) (T := T_PA) (N := 15) hx hb hT u_PA hown hK hP 0 rfl rfl 11 (by decide) (hT _ k_155) (fun _ h9 => h9) rfl d_PA_meet_95 ?_
            refine lv_iconst (v := 1) hx hb d_PA_meet_98 (by decide) ?_
            refine lv_iadd hx hb d_PA_meet_99 ?_
            refine va_put (D := D) (ci := 5) (v := .int (plc + 1)) (ty := .int) (C := R_PA) (T := T_PA) (N := 15) hx hb hT u_PA ty_PA tyok_PA nm_PA hown hK hP hD hS 0 rfl rfl 11 (by decide) (hT _ k_155) (fun _ h9 => h9) rfl (by decide +kernel) (rfl) (rfl) (Nat.le_of_ble_eq_true rfl) d_PA_meet_100 (fun H locs hP hD hS => ?_)
            have hP : va_P D vwCl [(aP, .inr (5, [.ref aS, .ref aV, .ref aPs, .ref aPe, .ref aPi, .ref aPh, .int pcnt, .int (b2i pfix), .int pown, .ref aPl, .ref aPn, .int (plc + 1), .int psr, .int pbs, .int (b2i pms)])), (aPl, .inl (cI, 1001, .inl (upd plv plc.toNatClampNeg p0))), (aPn, .inl (cI, 2000, .inl psn))] H := hP
            have hD : va_D A [(aP, .inr (5, [.ref aS, .ref aV, .ref aPs, .ref aPe, .ref aPi, .ref aPh, .int pcnt, .int (b2i pfix), .int pown, .ref aPl, .ref aPn, .int (plc + 1), .int psr, .int pbs, .int (b2i pms)])), (aPl, .inl (cI, 1001, .inl (upd plv plc.toNatClampNeg p0))), (aPn, .inl (cI, 2000, .inl psn))] := hD
            exact W.vret hx hb hr (fun t ht hW => ⟨⟨(plc + 1, pms, upd plv plc.toNatClampNeg p0, psn), rfl, ⟨(by rw [tw_PA_meet, if_neg c_1, if_neg c_2, if_pos c_5, if_pos c_6, if_neg c_7]; first | done | rfl), (l_inc hi c_7)⟩, by rw [ht]; exact hP, hD⟩, hS.F ht⟩) hS.2.2 d_PA_meet_103
      · refine lv_aload_n hx hb d_PA_meet_38 rfl (lv_at hl 2 rfl) ?_
        refine va_get (D := D) (ci := 5) (v := .ref aPn) (C := R_PA) (T := T_PA) (N := 15) hx hb hT u_PA hown hK hP 0 rfl rfl 10 (by decide) (hT _ k_152) (fun _ h9 => h9) rfl d_PA_meet_39 ?_
        refine lv_iload_n hx hb d_PA_meet_42 rfl (lv_at hl 1 rfl) ?_
        refine va_iald hx hb hK hP 2 1 rfl rfl (in_nn c_2 c_5 rfl) d_PA_meet_43 ?_
        refine lv_aload_n hx hb d_PA_meet_44 rfl (lv_at hl 2 rfl) ?_
        refine va_get (D := D) (ci := 5) (v := .int psr) (C := R_PA) (T := T_PA) (N := 15) hx hb hT u_PA hown hK hP 0 rfl rfl 12 (by decide) (hT _ k_156) (fun _ h9 => h9) rfl d_PA_meet_45 ?_
        refine lv_icmp_ne (tgt := 55) hx hb d_PA_meet_48 (by decide) (fun c_8 => ?_) (fun c_8 => ?_)
        · refine lv_iconst (v := 0) hx hb d_PA_meet_55 (by decide) ?_
          refine lv_istore_n (lv' := [(3, .int 0), (2, .int ((tw_ST_placeOf p0) - pbs)), (0, .ref aP), (1, .int p0)]) hx hb d_PA_meet_56 rfl hl (by decide) rfl (fun ls hl => ?_)
          refine lv_aload_n hx hb d_PA_meet_57 rfl (lv_at hl 2 rfl) ?_
          refine va_get (D := D) (ci := 5) (v := .ref aPn) (C := R_PA) (T := T_PA) (N := 15) hx hb hT u_PA hown hK hP 0 rfl rfl 10 (by decide) (hT _ k_152) (fun _ h9 => h9) rfl d_PA_meet_58 ?_
          refine lv_iload_n hx hb d_PA_meet_61 rfl (lv_at hl 1 rfl) ?_
          refine lv_aload_n hx hb d_PA_meet_62 rfl (lv_at hl 2 rfl) ?_
          refine va_get (D := D) (ci := 5) (v := .int psr) (C := R_PA) (T := T_PA) (N := 15) hx hb hT u_PA hown hK hP 0 rfl rfl 12 (by decide) (hT _ k_156) (fun _ h9 => h9) rfl d_PA_meet_63 ?_
          refine va_iast hx hb hK hP hD hS 2 1 rfl rfl (in_nn c_2 c_5 rfl) d_PA_meet_66 (fun H locs hP hD hS => ?_)
          have hP : va_P D vwCl [(aP, .inr (5, [.ref aS, .ref aV, .ref aPs, .ref aPe, .ref aPi, .ref aPh, .int pcnt, .int (b2i pfix), .int pown, .ref aPl, .ref aPn, .int plc, .int psr, .int pbs, .int (b2i pms)])), (aPl, .inl (cI, 1001, .inl plv)), (aPn, .inl (cI, 2000, .inl (upd psn ((tw_ST_placeOf p0) - pbs).toNatClampNeg psr)))] H := hP
          have hD : va_D A [(aP, .inr (5, [.ref aS, .ref aV, .ref aPs, .ref aPe, .ref aPi, .ref aPh, .int pcnt, .int (b2i pfix), .int pown, .ref aPl, .ref aPn, .int plc, .int psr, .int pbs, .int (b2i pms)])), (aPl, .inl (cI, 1001, .inl plv)), (aPn, .inl (cI, 2000, .inl (upd psn ((tw_ST_placeOf p0) - pbs).toNatClampNeg psr)))] := hD
          refine lv_iload_n hx hb d_PA_meet_67 rfl (lv_at hl 0 rfl) ?_
          refine lv_if_ne (tgt := 103) hx hb d_PA_meet_68 (by decide) (fun c_9 => ?_) (fun c_9 => ?_)
          · exact absurd c_9 (by decide)
          · refine lv_aload_n hx hb d_PA_meet_71 rfl (lv_at hl 2 rfl) ?_
            refine va_get (D := D) (ci := 5) (v := .int plc) (C := R_PA) (T := T_PA) (N := 15) hx hb hT u_PA hown hK hP 0 rfl rfl 11 (by decide) (hT _ k_155) (fun _ h9 => h9) rfl d_PA_meet_72 ?_
            refine lv_aload_n hx hb d_PA_meet_75 rfl (lv_at hl 2 rfl) ?_
            refine va_get (D := D) (ci := 5) (v := .ref aPl) (C := R_PA) (T := T_PA) (N := 15) hx hb hT u_PA hown hK hP 0 rfl rfl 9 (by decide) (hT _ k_151) (fun _ h9 => h9) rfl d_PA_meet_76 ?_
            refine va_alen (v := 1001) hx hb hK hP 1 1 rfl rfl rfl d_PA_meet_79 ?_
            refine lv_icmp_ge (tgt := 103) hx hb d_PA_meet_80 (by decide) (fun c_10 => ?_) (fun c_10 => ?_)
            · exact W.vret hx hb hr (fun t ht hW => ⟨⟨(plc, pms, plv, upd psn ((tw_ST_placeOf p0) - pbs).toNatClampNeg psr), rfl, ⟨(by rw [tw_PA_meet, if_neg c_1, if_neg c_2, if_neg c_5, if_neg c_8, if_pos c_10]; first | done | rfl), hi⟩, by rw [ht]; exact hP, hD⟩, hS.F ht⟩) hS.2.2 d_PA_meet_103
            · refine lv_aload_n hx hb d_PA_meet_83 rfl (lv_at hl 2 rfl) ?_
              refine va_get (D := D) (ci := 5) (v := .ref aPl) (C := R_PA) (T := T_PA) (N := 15) hx hb hT u_PA hown hK hP 0 rfl rfl 9 (by decide) (hT _ k_151) (fun _ h9 => h9) rfl d_PA_meet_84 ?_
              refine lv_aload_n hx hb d_PA_meet_87 rfl (lv_at hl 2 rfl) ?_
              refine va_get (D := D) (ci := 5) (v := .int plc) (C := R_PA) (T := T_PA) (N := 15) hx hb hT u_PA hown hK hP 0 rfl rfl 11 (by decide) (hT _ k_155) (fun _ h9 => h9) rfl d_PA_meet_88 ?_
              refine lv_iload_n hx hb d_PA_meet_91 rfl (lv_at hl 3 rfl) ?_
              refine va_iast hx hb hK hP hD hS 1 1 rfl rfl (l_in hi c_10) d_PA_meet_92 (fun H locs hP hD hS => ?_)
              have hP : va_P D vwCl [(aP, .inr (5, [.ref aS, .ref aV, .ref aPs, .ref aPe, .ref aPi, .ref aPh, .int pcnt, .int (b2i pfix), .int pown, .ref aPl, .ref aPn, .int plc, .int psr, .int pbs, .int (b2i pms)])), (aPl, .inl (cI, 1001, .inl (upd plv plc.toNatClampNeg p0))), (aPn, .inl (cI, 2000, .inl (upd psn ((tw_ST_placeOf p0) - pbs).toNatClampNeg psr)))] H := hP
              have hD : va_D A [(aP, .inr (5, [.ref aS, .ref aV, .ref aPs, .ref aPe, .ref aPi, .ref aPh, .int pcnt, .int (b2i pfix), .int pown, .ref aPl, .ref aPn, .int plc, .int psr, .int pbs, .int (b2i pms)])), (aPl, .inl (cI, 1001, .inl (upd plv plc.toNatClampNeg p0))), (aPn, .inl (cI, 2000, .inl (upd psn ((tw_ST_placeOf p0) - pbs).toNatClampNeg psr)))] := hD
              refine lv_aload_n hx hb d_PA_meet_93 rfl (lv_at hl 2 rfl) ?_
              refine lv_dup hx hb d_PA_meet_94 rfl ?_
              refine va_get (D := D) (ci := 5) (v := .int plc) (C := R_PA) (T := T_PA) (N := 15) hx hb hT u_PA hown hK hP 0 rfl rfl 11 (by decide) (hT _ k_155) (fun _ h9 => h9) rfl d_PA_meet_95 ?_
              refine lv_iconst (v := 1) hx hb d_PA_meet_98 (by decide) ?_
              refine lv_iadd hx hb d_PA_meet_99 ?_
              refine va_put (D := D) (ci := 5) (v := .int (plc + 1)) (ty := .int) (C := R_PA) (T := T_PA) (N := 15) hx hb hT u_PA ty_PA tyok_PA nm_PA hown hK hP hD hS 0 rfl rfl 11 (by decide) (hT _ k_155) (fun _ h9 => h9) rfl (by decide +kernel) (rfl) (rfl) (Nat.le_of_ble_eq_true rfl) d_PA_meet_100 (fun H locs hP hD hS => ?_)
              have hP : va_P D vwCl [(aP, .inr (5, [.ref aS, .ref aV, .ref aPs, .ref aPe, .ref aPi, .ref aPh, .int pcnt, .int (b2i pfix), .int pown, .ref aPl, .ref aPn, .int (plc + 1), .int psr, .int pbs, .int (b2i pms)])), (aPl, .inl (cI, 1001, .inl (upd plv plc.toNatClampNeg p0))), (aPn, .inl (cI, 2000, .inl (upd psn ((tw_ST_placeOf p0) - pbs).toNatClampNeg psr)))] H := hP
              have hD : va_D A [(aP, .inr (5, [.ref aS, .ref aV, .ref aPs, .ref aPe, .ref aPi, .ref aPh, .int pcnt, .int (b2i pfix), .int pown, .ref aPl, .ref aPn, .int (plc + 1), .int psr, .int pbs, .int (b2i pms)])), (aPl, .inl (cI, 1001, .inl (upd plv plc.toNatClampNeg p0))), (aPn, .inl (cI, 2000, .inl (upd psn ((tw_ST_placeOf p0) - pbs).toNatClampNeg psr)))] := hD
              exact W.vret hx hb hr (fun t ht hW => ⟨⟨(plc + 1, pms, upd plv plc.toNatClampNeg p0, upd psn ((tw_ST_placeOf p0) - pbs).toNatClampNeg psr), rfl, ⟨(by rw [tw_PA_meet, if_neg c_1, if_neg c_2, if_neg c_5, if_neg c_8, if_neg c_10]; first | done | rfl), (l_inc hi c_10)⟩, by rw [ht]; exact hP, hD⟩, hS.F ht⟩) hS.2.2 d_PA_meet_103
        · refine lv_iconst (v := 1) hx hb d_PA_meet_51 (by decide) ?_
          refine lv_goto (tgt := 56) hx hb d_PA_meet_52 (by decide) ?_
          refine lv_istore_n (lv' := [(3, .int 1), (2, .int ((tw_ST_placeOf p0) - pbs)), (0, .ref aP), (1, .int p0)]) hx hb d_PA_meet_56 rfl hl (by decide) rfl (fun ls hl => ?_)
          refine lv_aload_n hx hb d_PA_meet_57 rfl (lv_at hl 2 rfl) ?_
          refine va_get (D := D) (ci := 5) (v := .ref aPn) (C := R_PA) (T := T_PA) (N := 15) hx hb hT u_PA hown hK hP 0 rfl rfl 10 (by decide) (hT _ k_152) (fun _ h9 => h9) rfl d_PA_meet_58 ?_
          refine lv_iload_n hx hb d_PA_meet_61 rfl (lv_at hl 1 rfl) ?_
          refine lv_aload_n hx hb d_PA_meet_62 rfl (lv_at hl 2 rfl) ?_
          refine va_get (D := D) (ci := 5) (v := .int psr) (C := R_PA) (T := T_PA) (N := 15) hx hb hT u_PA hown hK hP 0 rfl rfl 12 (by decide) (hT _ k_156) (fun _ h9 => h9) rfl d_PA_meet_63 ?_
          refine va_iast hx hb hK hP hD hS 2 1 rfl rfl (in_nn c_2 c_5 rfl) d_PA_meet_66 (fun H locs hP hD hS => ?_)
          have hP : va_P D vwCl [(aP, .inr (5, [.ref aS, .ref aV, .ref aPs, .ref aPe, .ref aPi, .ref aPh, .int pcnt, .int (b2i pfix), .int pown, .ref aPl, .ref aPn, .int plc, .int psr, .int pbs, .int (b2i pms)])), (aPl, .inl (cI, 1001, .inl plv)), (aPn, .inl (cI, 2000, .inl (upd psn ((tw_ST_placeOf p0) - pbs).toNatClampNeg psr)))] H := hP
          have hD : va_D A [(aP, .inr (5, [.ref aS, .ref aV, .ref aPs, .ref aPe, .ref aPi, .ref aPh, .int pcnt, .int (b2i pfix), .int pown, .ref aPl, .ref aPn, .int plc, .int psr, .int pbs, .int (b2i pms)])), (aPl, .inl (cI, 1001, .inl plv)), (aPn, .inl (cI, 2000, .inl (upd psn ((tw_ST_placeOf p0) - pbs).toNatClampNeg psr)))] := hD
          refine lv_iload_n hx hb d_PA_meet_67 rfl (lv_at hl 0 rfl) ?_
          refine lv_if_ne (tgt := 103) hx hb d_PA_meet_68 (by decide) (fun c_11 => ?_) (fun c_11 => ?_)
          · exact W.vret hx hb hr (fun t ht hW => ⟨⟨(plc, pms, plv, upd psn ((tw_ST_placeOf p0) - pbs).toNatClampNeg psr), rfl, ⟨(by rw [tw_PA_meet, if_neg c_1, if_neg c_2, if_neg c_5, if_pos c_8]; first | done | rfl), hi⟩, by rw [ht]; exact hP, hD⟩, hS.F ht⟩) hS.2.2 d_PA_meet_103
          · exact absurd c_11 (by decide)
  · refine lv_aload_n hx hb d_PA_meet_19 rfl (lv_at hl 2 rfl) ?_
    refine lv_iconst (v := 1) hx hb d_PA_meet_20 (by decide) ?_
    refine va_put (D := D) (ci := 5) (v := .int 1) (ty := .boolean) (C := R_PA) (T := T_PA) (N := 15) hx hb hT u_PA ty_PA tyok_PA nm_PA hown hK hP hD hS 0 rfl rfl 14 (by decide) (hT _ k_158) (fun _ h9 => h9) rfl (by decide +kernel) (rfl) (rfl) (Nat.le_of_ble_eq_true rfl) d_PA_meet_21 (fun H locs hP hD hS => ?_)
    have hP : va_P D vwCl [(aP, .inr (5, [.ref aS, .ref aV, .ref aPs, .ref aPe, .ref aPi, .ref aPh, .int pcnt, .int (b2i pfix), .int pown, .ref aPl, .ref aPn, .int plc, .int psr, .int pbs, .int 1])), (aPl, .inl (cI, 1001, .inl plv)), (aPn, .inl (cI, 2000, .inl psn))] H := hP
    have hD : va_D A [(aP, .inr (5, [.ref aS, .ref aV, .ref aPs, .ref aPe, .ref aPi, .ref aPh, .int pcnt, .int (b2i pfix), .int pown, .ref aPl, .ref aPn, .int plc, .int psr, .int pbs, .int 1])), (aPl, .inl (cI, 1001, .inl plv)), (aPn, .inl (cI, 2000, .inl psn))] := hD
    refine lv_goto (tgt := 67) hx hb d_PA_meet_24 (by decide) ?_
    refine lv_iload_n hx hb d_PA_meet_67 rfl (lv_at hl 0 rfl) ?_
    refine lv_if_ne (tgt := 103) hx hb d_PA_meet_68 (by decide) (fun c_12 => ?_) (fun c_12 => ?_)
    · exact W.vret hx hb hr (fun t ht hW => ⟨⟨(plc, true, plv, psn), rfl, ⟨(by rw [tw_PA_meet, if_pos c_1, if_neg c_12]; first | done | rfl), hi⟩, by rw [ht]; exact hP, hD⟩, hS.F ht⟩) hS.2.2 d_PA_meet_103
    · refine lv_aload_n hx hb d_PA_meet_71 rfl (lv_at hl 2 rfl) ?_
      refine va_get (D := D) (ci := 5) (v := .int plc) (C := R_PA) (T := T_PA) (N := 15) hx hb hT u_PA hown hK hP 0 rfl rfl 11 (by decide) (hT _ k_155) (fun _ h9 => h9) rfl d_PA_meet_72 ?_
      refine lv_aload_n hx hb d_PA_meet_75 rfl (lv_at hl 2 rfl) ?_
      refine va_get (D := D) (ci := 5) (v := .ref aPl) (C := R_PA) (T := T_PA) (N := 15) hx hb hT u_PA hown hK hP 0 rfl rfl 9 (by decide) (hT _ k_151) (fun _ h9 => h9) rfl d_PA_meet_76 ?_
      refine va_alen (v := 1001) hx hb hK hP 1 1 rfl rfl rfl d_PA_meet_79 ?_
      refine lv_icmp_ge (tgt := 103) hx hb d_PA_meet_80 (by decide) (fun c_13 => ?_) (fun c_13 => ?_)
      · exact W.vret hx hb hr (fun t ht hW => ⟨⟨(plc, true, plv, psn), rfl, ⟨(by rw [tw_PA_meet, if_pos c_1, if_pos c_12, if_pos c_13]; first | done | rfl), hi⟩, by rw [ht]; exact hP, hD⟩, hS.F ht⟩) hS.2.2 d_PA_meet_103
      · refine lv_aload_n hx hb d_PA_meet_83 rfl (lv_at hl 2 rfl) ?_
        refine va_get (D := D) (ci := 5) (v := .ref aPl) (C := R_PA) (T := T_PA) (N := 15) hx hb hT u_PA hown hK hP 0 rfl rfl 9 (by decide) (hT _ k_151) (fun _ h9 => h9) rfl d_PA_meet_84 ?_
        refine lv_aload_n hx hb d_PA_meet_87 rfl (lv_at hl 2 rfl) ?_
        refine va_get (D := D) (ci := 5) (v := .int plc) (C := R_PA) (T := T_PA) (N := 15) hx hb hT u_PA hown hK hP 0 rfl rfl 11 (by decide) (hT _ k_155) (fun _ h9 => h9) rfl d_PA_meet_88 ?_
        refine lv_iload_n hx hb d_PA_meet_91 rfl (lv_at hl 3 rfl) ?_
        refine va_iast hx hb hK hP hD hS 1 1 rfl rfl (l_in hi c_13) d_PA_meet_92 (fun H locs hP hD hS => ?_)
        have hP : va_P D vwCl [(aP, .inr (5, [.ref aS, .ref aV, .ref aPs, .ref aPe, .ref aPi, .ref aPh, .int pcnt, .int (b2i pfix), .int pown, .ref aPl, .ref aPn, .int plc, .int psr, .int pbs, .int 1])), (aPl, .inl (cI, 1001, .inl (upd plv plc.toNatClampNeg p0))), (aPn, .inl (cI, 2000, .inl psn))] H := hP
        have hD : va_D A [(aP, .inr (5, [.ref aS, .ref aV, .ref aPs, .ref aPe, .ref aPi, .ref aPh, .int pcnt, .int (b2i pfix), .int pown, .ref aPl, .ref aPn, .int plc, .int psr, .int pbs, .int 1])), (aPl, .inl (cI, 1001, .inl (upd plv plc.toNatClampNeg p0))), (aPn, .inl (cI, 2000, .inl psn))] := hD
        refine lv_aload_n hx hb d_PA_meet_93 rfl (lv_at hl 2 rfl) ?_
        refine lv_dup hx hb d_PA_meet_94 rfl ?_
        refine va_get (D := D) (ci := 5) (v := .int plc) (C := R_PA) (T := T_PA) (N := 15) hx hb hT u_PA hown hK hP 0 rfl rfl 11 (by decide) (hT _ k_155) (fun _ h9 => h9) rfl d_PA_meet_95 ?_
        refine lv_iconst (v := 1) hx hb d_PA_meet_98 (by decide) ?_
        refine lv_iadd hx hb d_PA_meet_99 ?_
        refine va_put (D := D) (ci := 5) (v := .int (plc + 1)) (ty := .int) (C := R_PA) (T := T_PA) (N := 15) hx hb hT u_PA ty_PA tyok_PA nm_PA hown hK hP hD hS 0 rfl rfl 11 (by decide) (hT _ k_155) (fun _ h9 => h9) rfl (by decide +kernel) (rfl) (rfl) (Nat.le_of_ble_eq_true rfl) d_PA_meet_100 (fun H locs hP hD hS => ?_)
        have hP : va_P D vwCl [(aP, .inr (5, [.ref aS, .ref aV, .ref aPs, .ref aPe, .ref aPi, .ref aPh, .int pcnt, .int (b2i pfix), .int pown, .ref aPl, .ref aPn, .int (plc + 1), .int psr, .int pbs, .int 1])), (aPl, .inl (cI, 1001, .inl (upd plv plc.toNatClampNeg p0))), (aPn, .inl (cI, 2000, .inl psn))] H := hP
        have hD : va_D A [(aP, .inr (5, [.ref aS, .ref aV, .ref aPs, .ref aPe, .ref aPi, .ref aPh, .int pcnt, .int (b2i pfix), .int pown, .ref aPl, .ref aPn, .int (plc + 1), .int psr, .int pbs, .int 1])), (aPl, .inl (cI, 1001, .inl (upd plv plc.toNatClampNeg p0))), (aPn, .inl (cI, 2000, .inl psn))] := hD
        exact W.vret hx hb hr (fun t ht hW => ⟨⟨(plc + 1, true, upd plv plc.toNatClampNeg p0, psn), rfl, ⟨(by rw [tw_PA_meet, if_pos c_1, if_pos c_12, if_neg c_13]; first | done | rfl), (l_inc hi c_13)⟩, by rw [ht]; exact hP, hD⟩, hS.F ht⟩) hS.2.2 d_PA_meet_103
abbrev wd_PA_meetItems (aP aS aV aPs aPe aPi aPh aPl aPn aB : Nat) (cB cI : ClassId) (pcnt : Int32) (pfix : Bool) (pown : Int32) (psr : Int32) (pbs : Int32) (b : Nat → UInt8) (plc : Int32) (pms : Bool) (plv : Nat → Int32) (psn : Nat → Int32) : va_W := [(aP, .inr (5, [.ref aS, .ref aV, .ref aPs, .ref aPe, .ref aPi, .ref aPh, .int pcnt, .int (b2i pfix), .int pown, .ref aPl, .ref aPn, .int plc, .int psr, .int pbs, .int (b2i pms)])), (aS, .inr (0, [.ref aB])), (aB, .inl (cB, 202000, .inl (by_ b))), (aPl, .inl (cI, 1001, .inl plv)), (aPn, .inl (cI, 2000, .inl psn))]
set_option maxHeartbeats 4000000 in
set_option maxRecDepth 100000 in
theorem l_PA_meetItems_h21 {p : Program} {e : Env} {s : State} {m : MethodId} {args : Array Value} {below : List Frame} {meth : Method} {c : Code} {V : Int32 × Bool × (Nat → Int32) × (Nat → Int32)} (C0 : lc_C p s m meth c args b_PA_meetItems 6 none R_PA lw_g) (l : Launch) (D : va_G) (cB cI : ClassId) (aP aS aV aPs aPe aPi aPh aPl aPn aB : Nat) (pcnt : Int32) (pfix : Bool) (pown : Int32) (psr : Int32) (pbs : Int32) (b : Nat → UInt8) {A : Nat → Prop} (hk : hk_ D cB cI s) (hA : ∀ q : Nat, s.heap.size ≤ q → A q) (x2 : Int32) : ∀ (n : Nat) (x3 : Int32) (x4 : Int32) (plc : Int32) (pms : Bool) (plv : Nat → Int32) (psn : Nat → Int32), ((1000 : Int32).toInt - x4.toInt).toNat < n → l_ok plc → V = tw_PA_meetItems_h21 psr pbs b x2 n x3 x4 plc pms plv psn → ∀ (H : Heap) (locs : List Loc), va_P D vwCl [(aP, .inr (5, [.ref aS, .ref aV, .ref aPs, .ref aPe, .ref aPi, .ref aPh, .int pcnt, .int (b2i pfix), .int pown, .ref aPl, .ref aPn, .int plc, .int psr, .int pbs, .int (b2i pms)])), (aS, .inr (0, [.ref aB])), (aB, .inl (cB, 202000, .inl (by_ b))), (aPl, .inl (cI, 1001, .inl plv)), (aPn, .inl (cI, 2000, .inl psn))] H → va_D A [(aP, .inr (5, [.ref aS, .ref aV, .ref aPs, .ref aPe, .ref aPi, .ref aPh, .int pcnt, .int (b2i pfix), .int pown, .ref aPl, .ref aPn, .int plc, .int psr, .int pbs, .int (b2i pms)])), (aS, .inr (0, [.ref aB])), (aB, .inl (cB, 202000, .inl (by_ b))), (aPl, .inl (cI, 1001, .inl plv)), (aPn, .inl (cI, 2000, .inl psn))] → va_S A s.heap H locs → ∀ ls : Array Slot, lv_has ls 6 [(0, .ref aP), (2, .int x2), (3, .int x3), (4, .int x4)] → W p l e ({ frames := 2, cells := 0, slots := 0, locals := 43 }) s m args below meth c H locs 0 0 (MQ below (va_Qv (fun (u : Int32 × Bool × (Nat → Int32) × (Nat → Int32)) => u = V ∧ l_ok u.1) (mt_B D A (fun u => wd_PA_meetItems aP aS aV aPs aPe aPi aPh aPl aPn aB cB cI pcnt pfix pown psr pbs b u.1 u.2.1 u.2.2.1 u.2.2.2)) A) args s 0 0 A) (F0 m 21 ls []) := by
  obtain ⟨hx, hb, hml, hr, hown, hlocks, hT⟩ := id C0
  have hK := hk.1
  have hN := hk.2.1
  intro n
  induction n with
  | zero =>
    intro x3 x4 plc pms plv psn hm
    exact absurd hm (Nat.not_lt_zero _)
  | succ n ih =>
    intro x3 x4 plc pms plv psn hm hi hV H locs hP hD hS ls hl
    refine lv_iload hx hb d_PA_meetItems_21 (lv_at hl 3 rfl) ?_
    refine lv_sipush (v := 1000) hx hb d_PA_meetItems_23 (by decide) ?_
    refine lv_icmp_ge (tgt := 66) hx hb d_PA_meetItems_26 (by decide) (fun c_1 => ?_) (fun c_1 => ?_)
    · exact W.vret hx hb hr (fun t ht hW => ⟨⟨(plc, pms, plv, psn), rfl, ⟨(by rw [hV, tw_PA_meetItems_h21, if_pos c_1]; first | done | rfl), hi⟩, by rw [ht]; exact hP, hD⟩, hS.F ht⟩) hS.2.2 d_PA_meetItems_66
    · refine lv_iload_n hx hb d_PA_meetItems_29 rfl (lv_at hl 2 rfl) ?_
      refine lv_iload_n hx hb d_PA_meetItems_30 rfl (lv_at hl 1 rfl) ?_
      refine lv_icmp_ge (tgt := 66) hx hb d_PA_meetItems_31 (by decide) (fun c_2 => ?_) (fun c_2 => ?_)
      · exact W.vret hx hb hr (fun t ht hW => ⟨⟨(plc, pms, plv, psn), rfl, ⟨(by rw [hV, tw_PA_meetItems_h21, if_neg c_1, if_pos c_2]; first | done | rfl), hi⟩, by rw [ht]; exact hP, hD⟩, hS.F ht⟩) hS.2.2 d_PA_meetItems_66
      · refine lv_aload_n hx hb d_PA_meetItems_34 rfl (lv_at hl 0 rfl) ?_
        refine va_get (D := D) (ci := 5) (v := .ref aS) (C := R_PA) (T := T_PA) (N := 15) hx hb hT u_PA hown hK hP 0 rfl rfl 0 (by decide) (hT _ k_140) (fun _ h9 => h9) rfl d_PA_meetItems_35 ?_
        refine lv_iload_n hx hb d_PA_meetItems_38 rfl (lv_at hl 2 rfl) ?_
        refine rd_V (val := tw_ST_valueOf b x3) (As := [.int x3]) (rest := []) ⟨hx, hb, hml, hown, hT⟩ (c_ST_valueOf l D cB cI aS aB b x3) (cwV 1 hT (gV_of k_634 k_399 k_400 k_2 kc_ST_valueOf) rfl rfl rfl hd_ST_valueOf ⟨Nat.le_of_ble_eq_true rfl, Nat.le_of_ble_eq_true rfl⟩) hk (hP.sub (ws' := [(aS, .inr (0, [.ref aB])), (aB, .inl (cB, 202000, .inl (by_ b)))]) [1, 2] rfl) (q0 := 0) rfl rfl rfl rfl hl.1 rfl (Nat.le_of_ble_eq_true rfl) d_PA_meetItems_39 ⟨Nat.zero_le _, Nat.zero_le _⟩ ?_
        refine lv_istore (lv' := [(5, .int (tw_ST_valueOf b x3)), (0, .ref aP), (2, .int x2), (3, .int x3), (4, .int x4)]) hx hb d_PA_meetItems_42 hl (by decide) rfl (fun ls hl => ?_)
        refine lv_aload_n hx hb d_PA_meetItems_44 rfl (lv_at hl 1 rfl) ?_
        refine lv_iload hx hb d_PA_meetItems_45 (lv_at hl 0 rfl) ?_
        refine mt_Vv (As := [.int (tw_ST_valueOf b x3)]) (rest := []) (wr := [(aS, .inr (0, [.ref aB])), (aB, .inl (cB, 202000, .inl (by_ b)))]) ⟨hx, hb, hml, hown, hT⟩ (c_PA_meet l D cB cI aP aS aV aPs aPe aPi aPh aPl aPn pcnt pfix pown psr pbs _ plc pms plv psn (tw_ST_valueOf b x3) hi) (cwV 1 hT (gV_of k_879 k_881 kp_PA_meet k_7 kc_PA_meet) rfl rfl rfl hd_PA_meet ⟨Nat.le_of_ble_eq_true rfl, Nat.le_of_ble_eq_true rfl⟩) hk hP hD hS hA [0, 3, 4] [1, 2] rfl rfl rfl (by decide) (by decide) (by decide) (q0 := 0) rfl rfl rfl rfl hl.1 rfl (Nat.le_of_ble_eq_true rfl) d_PA_meetItems_47 ⟨Nat.zero_le _, Nat.zero_le _⟩ (fun u_3 H locs hw_3 hP hD hS => ?_)
        obtain ⟨plc_3, pms_3, plv_3, psn_3⟩ := u_3
        obtain ⟨hw_3, hi_3⟩ := hw_3
        have hP : va_P D vwCl [(aP, .inr (5, [.ref aS, .ref aV, .ref aPs, .ref aPe, .ref aPi, .ref aPh, .int pcnt, .int (b2i pfix), .int pown, .ref aPl, .ref aPn, .int plc_3, .int psr, .int pbs, .int (b2i pms_3)])), (aS, .inr (0, [.ref aB])), (aB, .inl (cB, 202000, .inl (by_ b))), (aPl, .inl (cI, 1001, .inl plv_3)), (aPn, .inl (cI, 2000, .inl psn_3))] H := hP.sub [2, 0, 1, 3, 4] rfl
        have hD : va_D A [(aP, .inr (5, [.ref aS, .ref aV, .ref aPs, .ref aPe, .ref aPi, .ref aPh, .int pcnt, .int (b2i pfix), .int pown, .ref aPl, .ref aPn, .int plc_3, .int psr, .int pbs, .int (b2i pms_3)])), (aS, .inr (0, [.ref aB])), (aB, .inl (cB, 202000, .inl (by_ b))), (aPl, .inl (cI, 1001, .inl plv_3)), (aPn, .inl (cI, 2000, .inl psn_3))] := hD.sub [2, 0, 1, 3, 4] (by decide) rfl
        refine lv_aload_n hx hb d_PA_meetItems_50 rfl (lv_at hl 1 rfl) ?_
        refine va_get (D := D) (ci := 5) (v := .ref aS) (C := R_PA) (T := T_PA) (N := 15) hx hb hT u_PA hown hK hP 0 rfl rfl 0 (by decide) (hT _ k_140) (fun _ h9 => h9) rfl d_PA_meetItems_51 ?_
        refine lv_iload hx hb d_PA_meetItems_54 (lv_at hl 0 rfl) ?_
        refine rd_V (val := tw_ST_endOf b (tw_ST_valueOf b x3)) (As := [.int (tw_ST_valueOf b x3)]) (rest := []) ⟨hx, hb, hml, hown, hT⟩ (c_ST_endOf l D cB cI aS aB b (tw_ST_valueOf b x3)) (cwV 1 hT (gV_of k_576 k_416 k_417 k_2 kc_ST_endOf) rfl rfl rfl hd_ST_endOf ⟨Nat.le_of_ble_eq_true rfl, Nat.le_of_ble_eq_true rfl⟩) hk (hP.sub (ws' := [(aS, .inr (0, [.ref aB])), (aB, .inl (cB, 202000, .inl (by_ b)))]) [1, 2] rfl) (q0 := 0) rfl rfl rfl rfl hl.1 rfl (Nat.le_of_ble_eq_true rfl) d_PA_meetItems_56 ⟨Nat.zero_le _, Nat.zero_le _⟩ ?_
        refine lv_istore_n (lv' := [(3, .int (tw_ST_endOf b (tw_ST_valueOf b x3))), (5, .int (tw_ST_valueOf b x3)), (0, .ref aP), (2, .int x2), (4, .int x4)]) hx hb d_PA_meetItems_59 rfl hl (by decide) rfl (fun ls hl => ?_)
        refine lv_iinc (v := x4 + 1) (lv' := [(4, .int (x4 + 1)), (3, .int (tw_ST_endOf b (tw_ST_valueOf b x3))), (5, .int (tw_ST_valueOf b x3)), (0, .ref aP), (2, .int x2)]) hx hb d_PA_meetItems_60 hl (k := 4) rfl rfl (by decide) rfl (fun ls hl => ?_)
        refine lv_goto (tgt := 21) hx hb d_PA_meetItems_63 (by decide) ?_
        exact ih (tw_ST_endOf b (tw_ST_valueOf b x3)) (x4 + 1) plc_3 pms_3 plv_3 psn_3 (lp_up hm c_1) (hi_3) (by rw [hV, tw_PA_meetItems_h21, if_neg c_1, if_neg c_2, ← hw_3, tp4_mk]) _ _ hP hD hS ls (lv_sub hl [3, 4, 1, 0] rfl)
set_option maxHeartbeats 4000000 in
set_option maxRecDepth 100000 in
theorem c_PA_meetItems (l : Launch) (D : va_G) (cB cI : ClassId) (aP aS aV aPs aPe aPi aPh aPl aPn aB : Nat) (pcnt : Int32) (pfix : Bool) (pown : Int32) (psr : Int32) (pbs : Int32) (b : Nat → UInt8) (sz : Nat) (plc : Int32) (pms : Bool) (plv : Nat → Int32) (psn : Nat → Int32) (p0 : Int32) (hi : l_ok plc) : Met l y_PA_meetItems mw_PA_meetItems { frames := 2, cells := 0, slots := 0, locals := 43 } (va_Pc [.ref aP, .int p0] (mt_P D cB cI (wd_PA_meetItems aP aS aV aPs aPe aPi aPh aPl aPn aB cB cI pcnt pfix pown psr pbs b plc pms plv psn) sz)) (va_Qv (fun (u : Int32 × Bool × (Nat → Int32) × (Nat → Int32)) => u = tw_PA_meetItems psr pbs b plc pms plv psn p0 ∧ l_ok u.1) (mt_B D (va_A (wd_PA_meetItems aP aS aV aPs aPe aPi aPh aPl aPn aB cB cI pcnt pfix pown psr pbs b plc pms plv psn) sz) (fun u => wd_PA_meetItems aP aS aV aPs aPe aPi aPh aPl aPn aB cB cI pcnt pfix pown psr pbs b u.1 u.2.1 u.2.2.1 u.2.2.2)) (va_A (wd_PA_meetItems aP aS aV aPs aPe aPi aPh aPl aPn aB cB cI pcnt pfix pown psr pbs b plc pms plv psn) sz)) 0 0 (va_A (wd_PA_meetItems aP aS aV aPs aPe aPi aPh aPl aPn aB cB cI pcnt pfix pown psr pbs b plc pms plv psn) sz) := by
  refine Met.ofW (cc := b_PA_meetItems) (maxL := 6) (ret := none) (by decide) rfl ?_
  intro p e s m args below meth c s₁ B0 hml hv
  obtain ⟨rfl, hsz, hP, hk, hD0⟩ := hv
  have hK := hk.1
  have hN := hk.2.1
  have hx := B0.exec
  have hb := B0.bytes
  have hr := B0.returns
  have hT : ∀ w ∈ lw_g, w.before _ s = true := fun w h => atoms_spec (ws := mw_PA_meetItems) B0.pre w (List.mem_cons_of_mem _ h)
  have hown : s.vm.findClass R_PA = some m.cls := findClass_of_methodNamed B0.named
  have hlocks := B0.notSynchronized
  subst hsz
  have hD := hD0.self (sz := s.heap.size)
  generalize hAe : va_A [(aP, .inr (5, [.ref aS, .ref aV, .ref aPs, .ref aPe, .ref aPi, .ref aPh, .int pcnt, .int (b2i pfix), .int pown, .ref aPl, .ref aPn, .int plc, .int psr, .int pbs, .int (b2i pms)])), (aS, .inr (0, [.ref aB])), (aB, .inl (cB, 202000, .inl (by_ b))), (aPl, .inl (cI, 1001, .inl plv)), (aPn, .inl (cI, 2000, .inl psn))] s.heap.size = A at hD ⊢
  have hA : ∀ q : Nat, s.heap.size ≤ q → A q := fun q h => by rw [← hAe]; exact Or.inr h
  have hS : va_S A s.heap s.heap [] := va_S.rf
  have hl := lv_entry ([.ref aP, .int p0]) (n := 6) (Nat.le_of_ble_eq_true rfl)
  rw [lg_entry_eq]
  generalize (lg_sl ([.ref aP, .int p0]) ++ List.replicate (6 - (lg_sl ([.ref aP, .int p0])).length) Slot.unset).toArray = ls at hl ⊢
  have hl : lv_has ls 6 [(0, .ref aP), (1, .int p0)] := hl
  have C0 : lc_C p s m meth c _ b_PA_meetItems 6 none R_PA lw_g := ⟨hx, hb, hml, hr, hown, hlocks, hT⟩
  refine lv_aload_n hx hb d_PA_meetItems_0 rfl (lv_at hl 0 rfl) ?_
  refine va_get (D := D) (ci := 5) (v := .ref aS) (C := R_PA) (T := T_PA) (N := 15) hx hb hT u_PA hown hK hP 0 rfl rfl 0 (by decide) (hT _ k_140) (fun _ h9 => h9) rfl d_PA_meetItems_1 ?_
  refine lv_iload_n hx hb d_PA_meetItems_4 rfl (lv_at hl 1 rfl) ?_
  refine rd_V (val := tw_ST_endOf b p0) (As := [.int p0]) (rest := []) ⟨hx, hb, hml, hown, hT⟩ (c_ST_endOf l D cB cI aS aB b p0) (cwV 1 hT (gV_of k_576 k_416 k_417 k_2 kc_ST_endOf) rfl rfl rfl hd_ST_endOf ⟨Nat.le_of_ble_eq_true rfl, Nat.le_of_ble_eq_true rfl⟩) hk (hP.sub (ws' := [(aS, .inr (0, [.ref aB])), (aB, .inl (cB, 202000, .inl (by_ b)))]) [1, 2] rfl) (q0 := 0) rfl rfl rfl rfl hl.1 rfl (Nat.le_of_ble_eq_true rfl) d_PA_meetItems_5 ⟨Nat.zero_le _, Nat.zero_le _⟩ ?_
  refine lv_iconst (v := 1) hx hb d_PA_meetItems_8 (by decide) ?_
  refine lv_isub hx hb d_PA_meetItems_9 ?_
  refine lv_istore_n (lv' := [(2, .int ((tw_ST_endOf b p0) - 1)), (0, .ref aP), (1, .int p0)]) hx hb d_PA_meetItems_10 rfl hl (by decide) rfl (fun ls hl => ?_)
  refine lv_iload_n hx hb d_PA_meetItems_11 rfl (lv_at hl 2 rfl) ?_
  refine rd_S (val := tw_ST_placeOf p0) (As := [.int p0]) (rest := []) ⟨hx, hb, hml, hown, hT⟩ (c_ST_placeOf l D cB cI p0) (va_cwS 1 hT (gS_of k_574 k_403 k_2 kc_ST_placeOf) rfl rfl rfl hd_ST_placeOf ⟨Nat.le_of_ble_eq_true rfl, Nat.le_of_ble_eq_true rfl⟩) hk (va_P_nil) rfl hl.1 rfl (Nat.le_of_ble_eq_true rfl) d_PA_meetItems_12 ⟨Nat.zero_le _, Nat.zero_le _⟩ ?_
  refine lv_iconst (v := 4) hx hb d_PA_meetItems_15 (by decide) ?_
  refine lv_iadd hx hb d_PA_meetItems_16 ?_
  refine lv_istore_n (lv' := [(3, .int ((tw_ST_placeOf p0) + 4)), (2, .int ((tw_ST_endOf b p0) - 1)), (0, .ref aP), (1, .int p0)]) hx hb d_PA_meetItems_17 rfl hl (by decide) rfl (fun ls hl => ?_)
  refine lv_iconst (v := 0) hx hb d_PA_meetItems_18 (by decide) ?_
  refine lv_istore (lv' := [(4, .int 0), (3, .int ((tw_ST_placeOf p0) + 4)), (2, .int ((tw_ST_endOf b p0) - 1)), (0, .ref aP), (1, .int p0)]) hx hb d_PA_meetItems_19 hl (by decide) rfl (fun ls hl => ?_)
  exact l_PA_meetItems_h21 C0 l D cB cI aP aS aV aPs aPe aPi aPh aPl aPn aB pcnt pfix pown psr pbs b hk hA ((tw_ST_endOf b p0) - 1)  ((((1000 : Int32).toInt - (0 : Int32).toInt).toNat) + 1) ((tw_ST_placeOf p0) + 4) 0 plc pms plv psn (Nat.lt_succ_self _) (hi) (by rw [tw_PA_meetItems]) _ _ hP hD hS ls (lv_sub hl [3, 2, 1, 0] rfl)
