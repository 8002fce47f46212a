/-! printed by wip/gen -/
theorem k_1 : (Jvm.Cond.initialized "PipelineBelt") ∈ lw_g := lw_gm (List.mem_append_right _ (List.mem_of_getElem? (i := 1) (by decide +kernel))) rfl
theorem k_316 : (Jvm.Cond.fieldLink "PipelineBelt" (12 : Nat) "PipelineBelt" "store" "LPipelineBelt$Store;") ∈ lw_g := lw_gm (List.mem_append_right _ (List.mem_of_getElem? (i := 316) (by decide +kernel))) rfl
theorem k_317 : (Jvm.Cond.fieldLink "PipelineBelt" (21 : Nat) "PipelineBelt" "checker" "LPipelineBelt$Checker;") ∈ lw_g := lw_gm (List.mem_append_right _ (List.mem_of_getElem? (i := 317) (by decide +kernel))) rfl
theorem k_318 : (Jvm.Cond.fieldLink "PipelineBelt" (28 : Nat) "PipelineBelt" "belts" "LPipelineBelt$Belts;") ∈ lw_g := lw_gm (List.mem_append_right _ (List.mem_of_getElem? (i := 318) (by decide +kernel))) rfl
theorem k_323 : (Jvm.Cond.fieldLink "PipelineBelt" (65 : Nat) "PipelineBelt" "onTape" "I") ∈ lw_g := lw_gm (List.mem_append_right _ (List.mem_of_getElem? (i := 323) (by decide +kernel))) rfl
theorem k_345 : (Jvm.Cond.methodLink "PipelineBelt" (69 : Nat) ({ cls := "PipelineBelt", name := "feedNumber", desc := "(I)V" } : Jvm.MethodName)) ∈ lw_g := lw_gm (List.mem_append_right _ (List.mem_of_getElem? (i := 345) (by decide +kernel))) rfl
theorem k_347 : (Jvm.Cond.instanceMethod ({ cls := "PipelineBelt", name := "feedNumber", desc := "(I)V" } : Jvm.MethodName)) ∈ lw_g := lw_gm (List.mem_append_right _ (List.mem_of_getElem? (i := 347) (by decide +kernel))) rfl
theorem k_349 : (Jvm.Cond.methodLink "PipelineBelt" (142 : Nat) ({ cls := "PipelineBelt$Store", name := "write", desc := "(II)V" } : Jvm.MethodName)) ∈ lw_g := lw_gm (List.mem_append_right _ (List.mem_of_getElem? (i := 349) (by decide +kernel))) rfl
theorem k_357 : (Jvm.Cond.methodLink "PipelineBelt" (73 : Nat) ({ cls := "PipelineBelt$Belts", name := "numbered", desc := "(I)LPipelineBelt$Belt;" } : Jvm.MethodName)) ∈ lw_g := lw_gm (List.mem_append_right _ (List.mem_of_getElem? (i := 357) (by decide +kernel))) rfl
theorem k_358 : (Jvm.Cond.instanceMethod ({ cls := "PipelineBelt$Belts", name := "numbered", desc := "(I)LPipelineBelt$Belt;" } : Jvm.MethodName)) ∈ lw_g := lw_gm (List.mem_append_right _ (List.mem_of_getElem? (i := 358) (by decide +kernel))) rfl
theorem k_359 : (Jvm.Cond.selects "PipelineBelt$Belts" ({ cls := "PipelineBelt$Belts", name := "numbered", desc := "(I)LPipelineBelt$Belt;" } : Jvm.MethodName) ({ cls := "PipelineBelt$Belts", name := "numbered", desc := "(I)LPipelineBelt$Belt;" } : Jvm.MethodName)) ∈ lw_g := lw_gm (List.mem_append_right _ (List.mem_of_getElem? (i := 359) (by decide +kernel))) rfl
theorem k_361 : (Jvm.Cond.methodLink "PipelineBelt" (77 : Nat) ({ cls := "PipelineBelt$Checker", name := "isDocument", desc := "(I)Z" } : Jvm.MethodName)) ∈ lw_g := lw_gm (List.mem_append_right _ (List.mem_of_getElem? (i := 361) (by decide +kernel))) rfl
theorem k_362 : (Jvm.Cond.instanceMethod ({ cls := "PipelineBelt$Checker", name := "isDocument", desc := "(I)Z" } : Jvm.MethodName)) ∈ lw_g := lw_gm (List.mem_append_right _ (List.mem_of_getElem? (i := 362) (by decide +kernel))) rfl
theorem k_363 : (Jvm.Cond.selects "PipelineBelt$Checker" ({ cls := "PipelineBelt$Checker", name := "isDocument", desc := "(I)Z" } : Jvm.MethodName) ({ cls := "PipelineBelt$Checker", name := "isDocument", desc := "(I)Z" } : Jvm.MethodName)) ∈ lw_g := lw_gm (List.mem_append_right _ (List.mem_of_getElem? (i := 363) (by decide +kernel))) rfl
theorem k_431 : (Jvm.Cond.methodLink "PipelineBelt" (81 : Nat) ({ cls := "PipelineBelt$Belts", name := "append", desc := "(LPipelineBelt$Belt;II)Z" } : Jvm.MethodName)) ∈ lw_g := lw_gm (List.mem_append_right _ (List.mem_of_getElem? (i := 431) (by decide +kernel))) rfl
theorem k_471 : (Jvm.Cond.methodLink "PipelineBelt" (93 : Nat) ({ cls := "PipelineBelt$Store", name := "valueOf", desc := "(I)I" } : Jvm.MethodName)) ∈ lw_g := lw_gm (List.mem_append_right _ (List.mem_of_getElem? (i := 471) (by decide +kernel))) rfl
theorem k_476 : (Jvm.Cond.methodLink "PipelineBelt" (146 : Nat) ({ cls := "PipelineBelt$Store", name := "ref", desc := "(II)I" } : Jvm.MethodName)) ∈ lw_g := lw_gm (List.mem_append_right _ (List.mem_of_getElem? (i := 476) (by decide +kernel))) rfl
theorem k_479 : (Jvm.Cond.methodLink "PipelineBelt" (150 : Nat) ({ cls := "PipelineBelt$Store", name := "countParts", desc := "(I)I" } : Jvm.MethodName)) ∈ lw_g := lw_gm (List.mem_append_right _ (List.mem_of_getElem? (i := 479) (by decide +kernel))) rfl
theorem k_486 : (Jvm.Cond.methodLink "PipelineBelt" (153 : Nat) ({ cls := "PipelineBelt$Store", name := "placeOf", desc := "(I)I" } : Jvm.MethodName)) ∈ lw_g := lw_gm (List.mem_append_right _ (List.mem_of_getElem? (i := 486) (by decide +kernel))) rfl
theorem k_488 : (Jvm.Cond.methodLink "PipelineBelt" (158 : Nat) ({ cls := "PipelineBelt$Store", name := "named", desc := "(IILjava/lang/String;)Z" } : Jvm.MethodName)) ∈ lw_g := lw_gm (List.mem_append_right _ (List.mem_of_getElem? (i := 488) (by decide +kernel))) rfl
theorem k_923 : (Jvm.Cond.methodLink "PipelineBelt" (174 : Nat) ({ cls := "PipelineBelt$Store", name := "classOf", desc := "(I)I" } : Jvm.MethodName)) ∈ lw_g := lw_gm (List.mem_append_right _ (List.mem_of_getElem? (i := 923) (by decide +kernel))) rfl
theorem k_924 : (Jvm.Cond.methodLink "PipelineBelt" (177 : Nat) ({ cls := "PipelineBelt$Store", name := "number", desc := "(I)J" } : Jvm.MethodName)) ∈ lw_g := lw_gm (List.mem_append_right _ (List.mem_of_getElem? (i := 924) (by decide +kernel))) rfl
theorem k_925 : (Jvm.Cond.methodLink "PipelineBelt" (181 : Nat) ({ cls := "java/lang/Math", name := "min", desc := "(JJ)J" } : Jvm.MethodName)) ∈ lw_g := lw_gm (List.mem_append_right _ (List.mem_of_getElem? (i := 925) (by decide +kernel))) rfl
theorem k_926 : (Jvm.Cond.static ({ cls := "java/lang/Math", name := "min", desc := "(JJ)J" } : Jvm.MethodName)) ∈ lw_g := lw_gm (List.mem_append_right _ (List.mem_of_getElem? (i := 926) (by decide +kernel))) rfl
theorem k_928 : (Jvm.Cond.methodLink "PipelineBelt" (187 : Nat) ({ cls := "PipelineBelt$Belts", name := "keep", desc := "(I)Z" } : Jvm.MethodName)) ∈ lw_g := lw_gm (List.mem_append_right _ (List.mem_of_getElem? (i := 928) (by decide +kernel))) rfl
theorem k_1013 : (Jvm.Cond.methodLink "PipelineBelt" (127 : Nat) ({ cls := "PipelineBelt$Belt", name := "end", desc := "()I" } : Jvm.MethodName)) ∈ lw_g := lw_gm (List.mem_append_right _ (List.mem_of_getElem? (i := 1013) (by decide +kernel))) rfl
theorem k_1018 : (Jvm.Cond.methodLink "PipelineBelt" (133 : Nat) ({ cls := "PipelineBelt$Belt", name := "start", desc := "(I)I" } : Jvm.MethodName)) ∈ lw_g := lw_gm (List.mem_append_right _ (List.mem_of_getElem? (i := 1018) (by decide +kernel))) rfl
theorem k_1023 : (Jvm.Cond.methodLink "PipelineBelt" (136 : Nat) ({ cls := "PipelineBelt$Store", name := "at", desc := "(I)I" } : Jvm.MethodName)) ∈ lw_g := lw_gm (List.mem_append_right _ (List.mem_of_getElem? (i := 1023) (by decide +kernel))) rfl
theorem k_1032 : (Jvm.Cond.methodLink "PipelineBelt" (139 : Nat) ({ cls := "PipelineBelt$Belts", name := "exchange", desc := "()V" } : Jvm.MethodName)) ∈ lw_g := lw_gm (List.mem_append_right _ (List.mem_of_getElem? (i := 1032) (by decide +kernel))) rfl
theorem k_1033 : (Jvm.Cond.instanceMethod ({ cls := "PipelineBelt$Belts", name := "exchange", desc := "()V" } : Jvm.MethodName)) ∈ lw_g := lw_gm (List.mem_append_right _ (List.mem_of_getElem? (i := 1033) (by decide +kernel))) rfl
theorem k_1034 : (Jvm.Cond.selects "PipelineBelt$Belts" ({ cls := "PipelineBelt$Belts", name := "exchange", desc := "()V" } : Jvm.MethodName) ({ cls := "PipelineBelt$Belts", name := "exchange", desc := "()V" } : Jvm.MethodName)) ∈ lw_g := lw_gm (List.mem_append_right _ (List.mem_of_getElem? (i := 1034) (by decide +kernel))) rfl
abbrev b_PB_feedNumber : ByteArray := prog_1_method_10_code
def y_PB_feedNumber : MethodName := ⟨R_PB, "feedNumber", "(I)V"⟩
theorem kc_PB_feedNumber : Cond.code y_PB_feedNumber b_PB_feedNumber 3 none ∈ lw_g := lw_gm (List.mem_append_right _ (List.mem_of_getElem? (i := 348) (by decide +kernel))) rfl
abbrev mw_PB_feedNumber : List Cond := Cond.code y_PB_feedNumber b_PB_feedNumber 3 none :: lw_g
theorem hd_PB_feedNumber : y_PB_feedNumber.cls = R_PB ∧ y_PB_feedNumber.cls ≠ "java/lang/invoke/MethodHandle" ∧ y_PB_feedNumber.cls ≠ "java/lang/invoke/VarHandle" ∧ (parseMethodDescriptor y_PB_feedNumber.desc).map (fun d => d.parameters.length) = some 1 := by decide +kernel
theorem kp_PB_feedNumber : Cond.selects R_PB y_PB_feedNumber y_PB_feedNumber ∈ lw_g := lw_gm (List.mem_append_left _ (by decide +kernel)) rfl
theorem d_PB_feedNumber_0 : decode b_PB_feedNumber 0 = .ok (.bipush 24, 2) := by decide +kernel
theorem d_PB_feedNumber_2 : decode b_PB_feedNumber 2 = .ok (.istore_n 2, 1) := by decide +kernel
theorem d_PB_feedNumber_3 : decode b_PB_feedNumber 3 = .ok (.iload_n 2, 1) := by decide +kernel
theorem d_PB_feedNumber_4 : decode b_PB_feedNumber 4 = .ok (.ifCond .lt 35, 3) := by decide +kernel
theorem d_PB_feedNumber_7 : decode b_PB_feedNumber 7 = .ok (.aload_n 0, 1) := by decide +kernel
theorem d_PB_feedNumber_8 : decode b_PB_feedNumber 8 = .ok (.getfield 12, 3) := by decide +kernel
theorem d_PB_feedNumber_11 : decode b_PB_feedNumber 11 = .ok (.iconst 0, 1) := by decide +kernel
theorem d_PB_feedNumber_12 : decode b_PB_feedNumber 12 = .ok (.aload_n 0, 1) := by decide +kernel
theorem d_PB_feedNumber_13 : decode b_PB_feedNumber 13 = .ok (.getfield 65, 3) := by decide +kernel
theorem d_PB_feedNumber_16 : decode b_PB_feedNumber 16 = .ok (.iadd, 1) := by decide +kernel
theorem d_PB_feedNumber_17 : decode b_PB_feedNumber 17 = .ok (.iload_n 1, 1) := by decide +kernel
theorem d_PB_feedNumber_18 : decode b_PB_feedNumber 18 = .ok (.iload_n 2, 1) := by decide +kernel
theorem d_PB_feedNumber_19 : decode b_PB_feedNumber 19 = .ok (.ishr, 1) := by decide +kernel
theorem d_PB_feedNumber_20 : decode b_PB_feedNumber 20 = .ok (.invokevirtual 142, 3) := by decide +kernel
theorem d_PB_feedNumber_23 : decode b_PB_feedNumber 23 = .ok (.aload_n 0, 1) := by decide +kernel
theorem d_PB_feedNumber_24 : decode b_PB_feedNumber 24 = .ok (.dup, 1) := by decide +kernel
theorem d_PB_feedNumber_25 : decode b_PB_feedNumber 25 = .ok (.getfield 65, 3) := by decide +kernel
theorem d_PB_feedNumber_28 : decode b_PB_feedNumber 28 = .ok (.iconst 1, 1) := by decide +kernel
theorem d_PB_feedNumber_29 : decode b_PB_feedNumber 29 = .ok (.iadd, 1) := by decide +kernel
theorem d_PB_feedNumber_30 : decode b_PB_feedNumber 30 = .ok (.putfield 65, 3) := by decide +kernel
theorem d_PB_feedNumber_33 : decode b_PB_feedNumber 33 = .ok (.iinc 2 (-8), 3) := by decide +kernel
theorem d_PB_feedNumber_36 : decode b_PB_feedNumber 36 = .ok (.goto (-33), 3) := by decide +kernel
theorem d_PB_feedNumber_39 : decode b_PB_feedNumber 39 = .ok (.return_, 1) := by decide +kernel
abbrev b_PB_feed : ByteArray := prog_1_method_2_code
def y_PB_feed : MethodName := ⟨R_PB, "feed", "(IIIII)I"⟩
theorem kc_PB_feed : Cond.code y_PB_feed b_PB_feed 6 (some .int) ∈ lw_g := lw_gm (List.mem_append_right _ (List.mem_of_getElem? (i := 344) (by decide +kernel))) rfl
abbrev mw_PB_feed : List Cond := Cond.code y_PB_feed b_PB_feed 6 (some .int) :: lw_g
theorem hd_PB_feed : y_PB_feed.cls = R_PB ∧ y_PB_feed.cls ≠ "java/lang/invoke/MethodHandle" ∧ y_PB_feed.cls ≠ "java/lang/invoke/VarHandle" ∧ (parseMethodDescriptor y_PB_feed.desc).map (fun d => d.parameters.length) = some 5 := by decide +kernel
theorem d_PB_feed_0 : decode b_PB_feed 0 = .ok (.aload_n 0, 1) := by decide +kernel
theorem d_PB_feed_1 : decode b_PB_feed 1 = .ok (.getfield 65, 3) := by decide +kernel
theorem d_PB_feed_4 : decode b_PB_feed 4 = .ok (.bipush 20, 2) := by decide +kernel
theorem d_PB_feed_6 : decode b_PB_feed 6 = .ok (.iadd, 1) := by decide +kernel
theorem d_PB_feed_7 : decode b_PB_feed 7 = .ok (.sipush 2000, 3) := by decide +kernel
theorem d_PB_feed_10 : decode b_PB_feed 10 = .ok (.if_icmp .le 5, 3) := by decide +kernel
theorem d_PB_feed_13 : decode b_PB_feed 13 = .ok (.iconst (-1), 1) := by decide +kernel
theorem d_PB_feed_14 : decode b_PB_feed 14 = .ok (.ireturn, 1) := by decide +kernel
theorem d_PB_feed_15 : decode b_PB_feed 15 = .ok (.aload_n 0, 1) := by decide +kernel
theorem d_PB_feed_16 : decode b_PB_feed 16 = .ok (.iload_n 1, 1) := by decide +kernel
theorem d_PB_feed_17 : decode b_PB_feed 17 = .ok (.invokevirtual 69, 3) := by decide +kernel
theorem d_PB_feed_20 : decode b_PB_feed 20 = .ok (.aload_n 0, 1) := by decide +kernel
theorem d_PB_feed_21 : decode b_PB_feed 21 = .ok (.iload_n 2, 1) := by decide +kernel
theorem d_PB_feed_22 : decode b_PB_feed 22 = .ok (.invokevirtual 69, 3) := by decide +kernel
theorem d_PB_feed_25 : decode b_PB_feed 25 = .ok (.aload_n 0, 1) := by decide +kernel
theorem d_PB_feed_26 : decode b_PB_feed 26 = .ok (.iload_n 3, 1) := by decide +kernel
theorem d_PB_feed_27 : decode b_PB_feed 27 = .ok (.invokevirtual 69, 3) := by decide +kernel
theorem d_PB_feed_30 : decode b_PB_feed 30 = .ok (.aload_n 0, 1) := by decide +kernel
theorem d_PB_feed_31 : decode b_PB_feed 31 = .ok (.iload 4, 2) := by decide +kernel
theorem d_PB_feed_33 : decode b_PB_feed 33 = .ok (.invokevirtual 69, 3) := by decide +kernel
theorem d_PB_feed_36 : decode b_PB_feed 36 = .ok (.aload_n 0, 1) := by decide +kernel
theorem d_PB_feed_37 : decode b_PB_feed 37 = .ok (.iload 5, 2) := by decide +kernel
theorem d_PB_feed_39 : decode b_PB_feed 39 = .ok (.invokevirtual 69, 3) := by decide +kernel
theorem d_PB_feed_42 : decode b_PB_feed 42 = .ok (.aload_n 0, 1) := by decide +kernel
theorem d_PB_feed_43 : decode b_PB_feed 43 = .ok (.getfield 65, 3) := by decide +kernel
theorem d_PB_feed_46 : decode b_PB_feed 46 = .ok (.ireturn, 1) := by decide +kernel
abbrev b_PB_put : ByteArray := prog_1_method_3_code
def y_PB_put : MethodName := ⟨R_PB, "put", "(II)I"⟩
theorem kc_PB_put : Cond.code y_PB_put b_PB_put 4 (some .int) ∈ lw_g := lw_gm (List.mem_append_right _ (List.mem_of_getElem? (i := 356) (by decide +kernel))) rfl
abbrev mw_PB_put : List Cond := Cond.code y_PB_put b_PB_put 4 (some .int) :: lw_g
theorem hd_PB_put : y_PB_put.cls = R_PB ∧ y_PB_put.cls ≠ "java/lang/invoke/MethodHandle" ∧ y_PB_put.cls ≠ "java/lang/invoke/VarHandle" ∧ (parseMethodDescriptor y_PB_put.desc).map (fun d => d.parameters.length) = some 2 := by decide +kernel
theorem d_PB_put_0 : decode b_PB_put 0 = .ok (.aload_n 0, 1) := by decide +kernel
theorem d_PB_put_1 : decode b_PB_put 1 = .ok (.getfield 28, 3) := by decide +kernel
theorem d_PB_put_4 : decode b_PB_put 4 = .ok (.iload_n 1, 1) := by decide +kernel
theorem d_PB_put_5 : decode b_PB_put 5 = .ok (.invokevirtual 73, 3) := by decide +kernel
theorem d_PB_put_8 : decode b_PB_put 8 = .ok (.astore_n 3, 1) := by decide +kernel
theorem d_PB_put_9 : decode b_PB_put 9 = .ok (.aload_n 3, 1) := by decide +kernel
theorem d_PB_put_10 : decode b_PB_put 10 = .ok (.ifnull 15, 3) := by decide +kernel
theorem d_PB_put_13 : decode b_PB_put 13 = .ok (.iload_n 2, 1) := by decide +kernel
theorem d_PB_put_14 : decode b_PB_put 14 = .ok (.ifCond .lt 11, 3) := by decide +kernel
theorem d_PB_put_17 : decode b_PB_put 17 = .ok (.iload_n 2, 1) := by decide +kernel
theorem d_PB_put_18 : decode b_PB_put 18 = .ok (.aload_n 0, 1) := by decide +kernel
theorem d_PB_put_19 : decode b_PB_put 19 = .ok (.getfield 65, 3) := by decide +kernel
theorem d_PB_put_22 : decode b_PB_put 22 = .ok (.if_icmp .le 6, 3) := by decide +kernel
theorem d_PB_put_25 : decode b_PB_put 25 = .ok (.bipush (-2), 2) := by decide +kernel
theorem d_PB_put_27 : decode b_PB_put 27 = .ok (.ireturn, 1) := by decide +kernel
theorem d_PB_put_28 : decode b_PB_put 28 = .ok (.aload_n 0, 1) := by decide +kernel
theorem d_PB_put_29 : decode b_PB_put 29 = .ok (.iconst 0, 1) := by decide +kernel
theorem d_PB_put_30 : decode b_PB_put 30 = .ok (.putfield 65, 3) := by decide +kernel
theorem d_PB_put_33 : decode b_PB_put 33 = .ok (.aload_n 0, 1) := by decide +kernel
theorem d_PB_put_34 : decode b_PB_put 34 = .ok (.getfield 21, 3) := by decide +kernel
theorem d_PB_put_37 : decode b_PB_put 37 = .ok (.iload_n 2, 1) := by decide +kernel
theorem d_PB_put_38 : decode b_PB_put 38 = .ok (.invokevirtual 77, 3) := by decide +kernel
theorem d_PB_put_41 : decode b_PB_put 41 = .ok (.ifCond .ne 5, 3) := by decide +kernel
theorem d_PB_put_44 : decode b_PB_put 44 = .ok (.iconst (-1), 1) := by decide +kernel
theorem d_PB_put_45 : decode b_PB_put 45 = .ok (.ireturn, 1) := by decide +kernel
theorem d_PB_put_46 : decode b_PB_put 46 = .ok (.aload_n 0, 1) := by decide +kernel
theorem d_PB_put_47 : decode b_PB_put 47 = .ok (.getfield 28, 3) := by decide +kernel
theorem d_PB_put_50 : decode b_PB_put 50 = .ok (.aload_n 3, 1) := by decide +kernel
theorem d_PB_put_51 : decode b_PB_put 51 = .ok (.iconst 0, 1) := by decide +kernel
theorem d_PB_put_52 : decode b_PB_put 52 = .ok (.iload_n 2, 1) := by decide +kernel
theorem d_PB_put_53 : decode b_PB_put 53 = .ok (.invokevirtual 81, 3) := by decide +kernel
theorem d_PB_put_56 : decode b_PB_put 56 = .ok (.ifCond .eq 10, 3) := by decide +kernel
theorem d_PB_put_59 : decode b_PB_put 59 = .ok (.aload_n 3, 1) := by decide +kernel
theorem d_PB_put_60 : decode b_PB_put 60 = .ok (.getfield 85, 3) := by decide +kernel
theorem d_PB_put_63 : decode b_PB_put 63 = .ok (.goto 5, 3) := by decide +kernel
theorem d_PB_put_66 : decode b_PB_put 66 = .ok (.bipush (-3), 2) := by decide +kernel
theorem d_PB_put_68 : decode b_PB_put 68 = .ok (.ireturn, 1) := by decide +kernel
abbrev b_PB_many : ByteArray := prog_1_method_5_code
def y_PB_many : MethodName := ⟨R_PB, "many", "(II)I"⟩
theorem kc_PB_many : Cond.code y_PB_many b_PB_many 4 (some .int) ∈ lw_g := lw_gm (List.mem_append_right _ (List.mem_of_getElem? (i := 1012) (by decide +kernel))) rfl
abbrev mw_PB_many : List Cond := Cond.code y_PB_many b_PB_many 4 (some .int) :: lw_g
theorem hd_PB_many : y_PB_many.cls = R_PB ∧ y_PB_many.cls ≠ "java/lang/invoke/MethodHandle" ∧ y_PB_many.cls ≠ "java/lang/invoke/VarHandle" ∧ (parseMethodDescriptor y_PB_many.desc).map (fun d => d.parameters.length) = some 2 := by decide +kernel
theorem d_PB_many_0 : decode b_PB_many 0 = .ok (.aload_n 0, 1) := by decide +kernel
theorem d_PB_many_1 : decode b_PB_many 1 = .ok (.getfield 28, 3) := by decide +kernel
theorem d_PB_many_4 : decode b_PB_many 4 = .ok (.iload_n 1, 1) := by decide +kernel
theorem d_PB_many_5 : decode b_PB_many 5 = .ok (.invokevirtual 73, 3) := by decide +kernel
theorem d_PB_many_8 : decode b_PB_many 8 = .ok (.astore_n 3, 1) := by decide +kernel
theorem d_PB_many_9 : decode b_PB_many 9 = .ok (.aload_n 3, 1) := by decide +kernel
theorem d_PB_many_10 : decode b_PB_many 10 = .ok (.ifnull 12, 3) := by decide +kernel
theorem d_PB_many_13 : decode b_PB_many 13 = .ok (.iload_n 2, 1) := by decide +kernel
theorem d_PB_many_14 : decode b_PB_many 14 = .ok (.ifCond .lt 8, 3) := by decide +kernel
theorem d_PB_many_17 : decode b_PB_many 17 = .ok (.iload_n 2, 1) := by decide +kernel
theorem d_PB_many_18 : decode b_PB_many 18 = .ok (.iconst 1, 1) := by decide +kernel
theorem d_PB_many_19 : decode b_PB_many 19 = .ok (.if_icmp .le 5, 3) := by decide +kernel
theorem d_PB_many_22 : decode b_PB_many 22 = .ok (.iconst (-1), 1) := by decide +kernel
theorem d_PB_many_23 : decode b_PB_many 23 = .ok (.ireturn, 1) := by decide +kernel
theorem d_PB_many_24 : decode b_PB_many 24 = .ok (.iload_n 2, 1) := by decide +kernel
theorem d_PB_many_25 : decode b_PB_many 25 = .ok (.ifCond .ne 10, 3) := by decide +kernel
theorem d_PB_many_28 : decode b_PB_many 28 = .ok (.aload_n 3, 1) := by decide +kernel
theorem d_PB_many_29 : decode b_PB_many 29 = .ok (.getfield 85, 3) := by decide +kernel
theorem d_PB_many_32 : decode b_PB_many 32 = .ok (.goto 12, 3) := by decide +kernel
theorem d_PB_many_35 : decode b_PB_many 35 = .ok (.aload_n 3, 1) := by decide +kernel
theorem d_PB_many_36 : decode b_PB_many 36 = .ok (.invokevirtual 127, 3) := by decide +kernel
theorem d_PB_many_39 : decode b_PB_many 39 = .ok (.aload_n 3, 1) := by decide +kernel
theorem d_PB_many_40 : decode b_PB_many 40 = .ok (.getfield 130, 3) := by decide +kernel
theorem d_PB_many_43 : decode b_PB_many 43 = .ok (.isub, 1) := by decide +kernel
theorem d_PB_many_44 : decode b_PB_many 44 = .ok (.ireturn, 1) := by decide +kernel
abbrev b_PB_size : ByteArray := prog_1_method_6_code
def y_PB_size : MethodName := ⟨R_PB, "size", "(II)I"⟩
theorem kc_PB_size : Cond.code y_PB_size b_PB_size 4 (some .int) ∈ lw_g := lw_gm (List.mem_append_right _ (List.mem_of_getElem? (i := 1017) (by decide +kernel))) rfl
abbrev mw_PB_size : List Cond := Cond.code y_PB_size b_PB_size 4 (some .int) :: lw_g
theorem hd_PB_size : y_PB_size.cls = R_PB ∧ y_PB_size.cls ≠ "java/lang/invoke/MethodHandle" ∧ y_PB_size.cls ≠ "java/lang/invoke/VarHandle" ∧ (parseMethodDescriptor y_PB_size.desc).map (fun d => d.parameters.length) = some 2 := by decide +kernel
theorem d_PB_size_0 : decode b_PB_size 0 = .ok (.aload_n 0, 1) := by decide +kernel
theorem d_PB_size_1 : decode b_PB_size 1 = .ok (.getfield 28, 3) := by decide +kernel
theorem d_PB_size_4 : decode b_PB_size 4 = .ok (.iload_n 1, 1) := by decide +kernel
theorem d_PB_size_5 : decode b_PB_size 5 = .ok (.invokevirtual 73, 3) := by decide +kernel
theorem d_PB_size_8 : decode b_PB_size 8 = .ok (.astore_n 3, 1) := by decide +kernel
theorem d_PB_size_9 : decode b_PB_size 9 = .ok (.aload_n 3, 1) := by decide +kernel
theorem d_PB_size_10 : decode b_PB_size 10 = .ok (.ifnull 15, 3) := by decide +kernel
theorem d_PB_size_13 : decode b_PB_size 13 = .ok (.iload_n 2, 1) := by decide +kernel
theorem d_PB_size_14 : decode b_PB_size 14 = .ok (.ifCond .lt 11, 3) := by decide +kernel
theorem d_PB_size_17 : decode b_PB_size 17 = .ok (.iload_n 2, 1) := by decide +kernel
theorem d_PB_size_18 : decode b_PB_size 18 = .ok (.aload_n 3, 1) := by decide +kernel
theorem d_PB_size_19 : decode b_PB_size 19 = .ok (.getfield 85, 3) := by decide +kernel
theorem d_PB_size_22 : decode b_PB_size 22 = .ok (.if_icmp .lt 5, 3) := by decide +kernel
theorem d_PB_size_25 : decode b_PB_size 25 = .ok (.iconst (-1), 1) := by decide +kernel
theorem d_PB_size_26 : decode b_PB_size 26 = .ok (.ireturn, 1) := by decide +kernel
theorem d_PB_size_27 : decode b_PB_size 27 = .ok (.aload_n 3, 1) := by decide +kernel
theorem d_PB_size_28 : decode b_PB_size 28 = .ok (.iload_n 2, 1) := by decide +kernel
theorem d_PB_size_29 : decode b_PB_size 29 = .ok (.iconst 1, 1) := by decide +kernel
theorem d_PB_size_30 : decode b_PB_size 30 = .ok (.iadd, 1) := by decide +kernel
theorem d_PB_size_31 : decode b_PB_size 31 = .ok (.invokevirtual 133, 3) := by decide +kernel
theorem d_PB_size_34 : decode b_PB_size 34 = .ok (.aload_n 3, 1) := by decide +kernel
theorem d_PB_size_35 : decode b_PB_size 35 = .ok (.iload_n 2, 1) := by decide +kernel
theorem d_PB_size_36 : decode b_PB_size 36 = .ok (.invokevirtual 133, 3) := by decide +kernel
theorem d_PB_size_39 : decode b_PB_size 39 = .ok (.isub, 1) := by decide +kernel
theorem d_PB_size_40 : decode b_PB_size 40 = .ok (.ireturn, 1) := by decide +kernel
abbrev b_PB_byteAt : ByteArray := prog_1_method_7_code
def y_PB_byteAt : MethodName := ⟨R_PB, "byteAt", "(III)I"⟩
theorem kc_PB_byteAt : Cond.code y_PB_byteAt b_PB_byteAt 6 (some .int) ∈ lw_g := lw_gm (List.mem_append_right _ (List.mem_of_getElem? (i := 1022) (by decide +kernel))) rfl
abbrev mw_PB_byteAt : List Cond := Cond.code y_PB_byteAt b_PB_byteAt 6 (some .int) :: lw_g
theorem hd_PB_byteAt : y_PB_byteAt.cls = R_PB ∧ y_PB_byteAt.cls ≠ "java/lang/invoke/MethodHandle" ∧ y_PB_byteAt.cls ≠ "java/lang/invoke/VarHandle" ∧ (parseMethodDescriptor y_PB_byteAt.desc).map (fun d => d.parameters.length) = some 3 := by decide +kernel
theorem d_PB_byteAt_0 : decode b_PB_byteAt 0 = .ok (.aload_n 0, 1) := by decide +kernel
theorem d_PB_byteAt_1 : decode b_PB_byteAt 1 = .ok (.getfield 28, 3) := by decide +kernel
theorem d_PB_byteAt_4 : decode b_PB_byteAt 4 = .ok (.iload_n 1, 1) := by decide +kernel
theorem d_PB_byteAt_5 : decode b_PB_byteAt 5 = .ok (.invokevirtual 73, 3) := by decide +kernel
theorem d_PB_byteAt_8 : decode b_PB_byteAt 8 = .ok (.astore 4, 2) := by decide +kernel
theorem d_PB_byteAt_10 : decode b_PB_byteAt 10 = .ok (.aload 4, 2) := by decide +kernel
theorem d_PB_byteAt_12 : decode b_PB_byteAt 12 = .ok (.ifnull 16, 3) := by decide +kernel
theorem d_PB_byteAt_15 : decode b_PB_byteAt 15 = .ok (.iload_n 2, 1) := by decide +kernel
theorem d_PB_byteAt_16 : decode b_PB_byteAt 16 = .ok (.ifCond .lt 12, 3) := by decide +kernel
theorem d_PB_byteAt_19 : decode b_PB_byteAt 19 = .ok (.iload_n 2, 1) := by decide +kernel
theorem d_PB_byteAt_20 : decode b_PB_byteAt 20 = .ok (.aload 4, 2) := by decide +kernel
theorem d_PB_byteAt_22 : decode b_PB_byteAt 22 = .ok (.getfield 85, 3) := by decide +kernel
theorem d_PB_byteAt_25 : decode b_PB_byteAt 25 = .ok (.if_icmp .lt 5, 3) := by decide +kernel
theorem d_PB_byteAt_28 : decode b_PB_byteAt 28 = .ok (.iconst (-1), 1) := by decide +kernel
theorem d_PB_byteAt_29 : decode b_PB_byteAt 29 = .ok (.ireturn, 1) := by decide +kernel
theorem d_PB_byteAt_30 : decode b_PB_byteAt 30 = .ok (.aload 4, 2) := by decide +kernel
theorem d_PB_byteAt_32 : decode b_PB_byteAt 32 = .ok (.iload_n 2, 1) := by decide +kernel
theorem d_PB_byteAt_33 : decode b_PB_byteAt 33 = .ok (.invokevirtual 133, 3) := by decide +kernel
theorem d_PB_byteAt_36 : decode b_PB_byteAt 36 = .ok (.istore 5, 2) := by decide +kernel
theorem d_PB_byteAt_38 : decode b_PB_byteAt 38 = .ok (.iload_n 3, 1) := by decide +kernel
theorem d_PB_byteAt_39 : decode b_PB_byteAt 39 = .ok (.ifCond .lt 18, 3) := by decide +kernel
theorem d_PB_byteAt_42 : decode b_PB_byteAt 42 = .ok (.iload_n 3, 1) := by decide +kernel
theorem d_PB_byteAt_43 : decode b_PB_byteAt 43 = .ok (.aload 4, 2) := by decide +kernel
theorem d_PB_byteAt_45 : decode b_PB_byteAt 45 = .ok (.iload_n 2, 1) := by decide +kernel
theorem d_PB_byteAt_46 : decode b_PB_byteAt 46 = .ok (.iconst 1, 1) := by decide +kernel
theorem d_PB_byteAt_47 : decode b_PB_byteAt 47 = .ok (.iadd, 1) := by decide +kernel
theorem d_PB_byteAt_48 : decode b_PB_byteAt 48 = .ok (.invokevirtual 133, 3) := by decide +kernel
theorem d_PB_byteAt_51 : decode b_PB_byteAt 51 = .ok (.iload 5, 2) := by decide +kernel
theorem d_PB_byteAt_53 : decode b_PB_byteAt 53 = .ok (.isub, 1) := by decide +kernel
theorem d_PB_byteAt_54 : decode b_PB_byteAt 54 = .ok (.if_icmp .lt 5, 3) := by decide +kernel
theorem d_PB_byteAt_57 : decode b_PB_byteAt 57 = .ok (.iconst (-1), 1) := by decide +kernel
theorem d_PB_byteAt_58 : decode b_PB_byteAt 58 = .ok (.ireturn, 1) := by decide +kernel
theorem d_PB_byteAt_59 : decode b_PB_byteAt 59 = .ok (.aload_n 0, 1) := by decide +kernel
theorem d_PB_byteAt_60 : decode b_PB_byteAt 60 = .ok (.getfield 12, 3) := by decide +kernel
theorem d_PB_byteAt_63 : decode b_PB_byteAt 63 = .ok (.iload 5, 2) := by decide +kernel
theorem d_PB_byteAt_65 : decode b_PB_byteAt 65 = .ok (.iload_n 3, 1) := by decide +kernel
theorem d_PB_byteAt_66 : decode b_PB_byteAt 66 = .ok (.iadd, 1) := by decide +kernel
theorem d_PB_byteAt_67 : decode b_PB_byteAt 67 = .ok (.invokevirtual 136, 3) := by decide +kernel
theorem d_PB_byteAt_70 : decode b_PB_byteAt 70 = .ok (.ireturn, 1) := by decide +kernel
abbrev b_PB_clear : ByteArray := prog_1_method_8_code
def y_PB_clear : MethodName := ⟨R_PB, "clear", "(I)I"⟩
theorem kc_PB_clear : Cond.code y_PB_clear b_PB_clear 4 (some .int) ∈ lw_g := lw_gm (List.mem_append_right _ (List.mem_of_getElem? (i := 1027) (by decide +kernel))) rfl
abbrev mw_PB_clear : List Cond := Cond.code y_PB_clear b_PB_clear 4 (some .int) :: lw_g
theorem hd_PB_clear : y_PB_clear.cls = R_PB ∧ y_PB_clear.cls ≠ "java/lang/invoke/MethodHandle" ∧ y_PB_clear.cls ≠ "java/lang/invoke/VarHandle" ∧ (parseMethodDescriptor y_PB_clear.desc).map (fun d => d.parameters.length) = some 1 := by decide +kernel
theorem d_PB_clear_0 : decode b_PB_clear 0 = .ok (.aload_n 0, 1) := by decide +kernel
theorem d_PB_clear_1 : decode b_PB_clear 1 = .ok (.getfield 28, 3) := by decide +kernel
theorem d_PB_clear_4 : decode b_PB_clear 4 = .ok (.iload_n 1, 1) := by decide +kernel
theorem d_PB_clear_5 : decode b_PB_clear 5 = .ok (.invokevirtual 73, 3) := by decide +kernel
theorem d_PB_clear_8 : decode b_PB_clear 8 = .ok (.astore_n 2, 1) := by decide +kernel
theorem d_PB_clear_9 : decode b_PB_clear 9 = .ok (.aload_n 2, 1) := by decide +kernel
theorem d_PB_clear_10 : decode b_PB_clear 10 = .ok (.ifnonnull 5, 3) := by decide +kernel
theorem d_PB_clear_13 : decode b_PB_clear 13 = .ok (.iconst (-1), 1) := by decide +kernel
theorem d_PB_clear_14 : decode b_PB_clear 14 = .ok (.ireturn, 1) := by decide +kernel
theorem d_PB_clear_15 : decode b_PB_clear 15 = .ok (.aload_n 2, 1) := by decide +kernel
theorem d_PB_clear_16 : decode b_PB_clear 16 = .ok (.getfield 85, 3) := by decide +kernel
theorem d_PB_clear_19 : decode b_PB_clear 19 = .ok (.istore_n 3, 1) := by decide +kernel
theorem d_PB_clear_20 : decode b_PB_clear 20 = .ok (.aload_n 2, 1) := by decide +kernel
theorem d_PB_clear_21 : decode b_PB_clear 21 = .ok (.iconst 0, 1) := by decide +kernel
theorem d_PB_clear_22 : decode b_PB_clear 22 = .ok (.putfield 85, 3) := by decide +kernel
theorem d_PB_clear_25 : decode b_PB_clear 25 = .ok (.iload_n 3, 1) := by decide +kernel
theorem d_PB_clear_26 : decode b_PB_clear 26 = .ok (.ireturn, 1) := by decide +kernel
abbrev b_PB_swap : ByteArray := prog_1_method_9_code
def y_PB_swap : MethodName := ⟨R_PB, "swap", "()V"⟩
theorem kc_PB_swap : Cond.code y_PB_swap b_PB_swap 1 none ∈ lw_g := lw_gm (List.mem_append_right _ (List.mem_of_getElem? (i := 1031) (by decide +kernel))) rfl
abbrev mw_PB_swap : List Cond := Cond.code y_PB_swap b_PB_swap 1 none :: lw_g
theorem hd_PB_swap : y_PB_swap.cls = R_PB ∧ y_PB_swap.cls ≠ "java/lang/invoke/MethodHandle" ∧ y_PB_swap.cls ≠ "java/lang/invoke/VarHandle" ∧ (parseMethodDescriptor y_PB_swap.desc).map (fun d => d.parameters.length) = some 0 := by decide +kernel
theorem d_PB_swap_0 : decode b_PB_swap 0 = .ok (.aload_n 0, 1) := by decide +kernel
theorem d_PB_swap_1 : decode b_PB_swap 1 = .ok (.getfield 28, 3) := by decide +kernel
theorem d_PB_swap_4 : decode b_PB_swap 4 = .ok (.invokevirtual 139, 3) := by decide +kernel
theorem d_PB_swap_7 : decode b_PB_swap 7 = .ok (.return_, 1) := by decide +kernel
abbrev b_PB_stageOnTape : ByteArray := prog_1_method_11_code
def y_PB_stageOnTape : MethodName := ⟨R_PB, "stageOnTape", "()I"⟩
theorem kc_PB_stageOnTape : Cond.code y_PB_stageOnTape b_PB_stageOnTape 3 (some .int) ∈ lw_g := lw_gm (List.mem_append_right _ (List.mem_of_getElem? (i := 475) (by decide +kernel))) rfl
abbrev mw_PB_stageOnTape : List Cond := Cond.code y_PB_stageOnTape b_PB_stageOnTape 3 (some .int) :: lw_g
theorem hd_PB_stageOnTape : y_PB_stageOnTape.cls = R_PB ∧ y_PB_stageOnTape.cls ≠ "java/lang/invoke/MethodHandle" ∧ y_PB_stageOnTape.cls ≠ "java/lang/invoke/VarHandle" ∧ (parseMethodDescriptor y_PB_stageOnTape.desc).map (fun d => d.parameters.length) = some 0 := by decide +kernel
theorem kp_PB_stageOnTape : Cond.selects R_PB y_PB_stageOnTape y_PB_stageOnTape ∈ lw_g := lw_gm (List.mem_append_left _ (by decide +kernel)) rfl
theorem d_PB_stageOnTape_0 : decode b_PB_stageOnTape 0 = .ok (.aload_n 0, 1) := by decide +kernel
theorem d_PB_stageOnTape_1 : decode b_PB_stageOnTape 1 = .ok (.getfield 12, 3) := by decide +kernel
theorem d_PB_stageOnTape_4 : decode b_PB_stageOnTape 4 = .ok (.iconst 3, 1) := by decide +kernel
theorem d_PB_stageOnTape_5 : decode b_PB_stageOnTape 5 = .ok (.iconst 0, 1) := by decide +kernel
theorem d_PB_stageOnTape_6 : decode b_PB_stageOnTape 6 = .ok (.invokestatic 146, 3) := by decide +kernel
theorem d_PB_stageOnTape_9 : decode b_PB_stageOnTape 9 = .ok (.invokevirtual 150, 3) := by decide +kernel
theorem d_PB_stageOnTape_12 : decode b_PB_stageOnTape 12 = .ok (.iconst 1, 1) := by decide +kernel
theorem d_PB_stageOnTape_13 : decode b_PB_stageOnTape 13 = .ok (.if_icmp .eq 5, 3) := by decide +kernel
theorem d_PB_stageOnTape_16 : decode b_PB_stageOnTape 16 = .ok (.iconst 0, 1) := by decide +kernel
theorem d_PB_stageOnTape_17 : decode b_PB_stageOnTape 17 = .ok (.ireturn, 1) := by decide +kernel
theorem d_PB_stageOnTape_18 : decode b_PB_stageOnTape 18 = .ok (.iconst 5, 1) := by decide +kernel
theorem d_PB_stageOnTape_19 : decode b_PB_stageOnTape 19 = .ok (.istore_n 1, 1) := by decide +kernel
theorem d_PB_stageOnTape_20 : decode b_PB_stageOnTape 20 = .ok (.aload_n 0, 1) := by decide +kernel
theorem d_PB_stageOnTape_21 : decode b_PB_stageOnTape 21 = .ok (.getfield 12, 3) := by decide +kernel
theorem d_PB_stageOnTape_24 : decode b_PB_stageOnTape 24 = .ok (.iconst 4, 1) := by decide +kernel
theorem d_PB_stageOnTape_25 : decode b_PB_stageOnTape 25 = .ok (.invokevirtual 93, 3) := by decide +kernel
theorem d_PB_stageOnTape_28 : decode b_PB_stageOnTape 28 = .ok (.invokestatic 153, 3) := by decide +kernel
theorem d_PB_stageOnTape_31 : decode b_PB_stageOnTape 31 = .ok (.iconst 1, 1) := by decide +kernel
theorem d_PB_stageOnTape_32 : decode b_PB_stageOnTape 32 = .ok (.isub, 1) := by decide +kernel
theorem d_PB_stageOnTape_33 : decode b_PB_stageOnTape 33 = .ok (.istore_n 2, 1) := by decide +kernel
theorem d_PB_stageOnTape_34 : decode b_PB_stageOnTape 34 = .ok (.aload_n 0, 1) := by decide +kernel
theorem d_PB_stageOnTape_35 : decode b_PB_stageOnTape 35 = .ok (.getfield 12, 3) := by decide +kernel
theorem d_PB_stageOnTape_38 : decode b_PB_stageOnTape 38 = .ok (.iload_n 1, 1) := by decide +kernel
theorem d_PB_stageOnTape_39 : decode b_PB_stageOnTape 39 = .ok (.iload_n 2, 1) := by decide +kernel
theorem d_PB_stageOnTape_40 : decode b_PB_stageOnTape 40 = .ok (.ldc 156, 2) := by decide +kernel
theorem d_PB_stageOnTape_42 : decode b_PB_stageOnTape 42 = .ok (.invokevirtual 158, 3) := by decide +kernel
theorem d_PB_stageOnTape_45 : decode b_PB_stageOnTape 45 = .ok (.ifCond .eq 5, 3) := by decide +kernel
theorem d_PB_stageOnTape_48 : decode b_PB_stageOnTape 48 = .ok (.iconst 1, 1) := by decide +kernel
theorem d_PB_stageOnTape_49 : decode b_PB_stageOnTape 49 = .ok (.ireturn, 1) := by decide +kernel
theorem d_PB_stageOnTape_50 : decode b_PB_stageOnTape 50 = .ok (.aload_n 0, 1) := by decide +kernel
theorem d_PB_stageOnTape_51 : decode b_PB_stageOnTape 51 = .ok (.getfield 12, 3) := by decide +kernel
theorem d_PB_stageOnTape_54 : decode b_PB_stageOnTape 54 = .ok (.iload_n 1, 1) := by decide +kernel
theorem d_PB_stageOnTape_55 : decode b_PB_stageOnTape 55 = .ok (.iload_n 2, 1) := by decide +kernel
theorem d_PB_stageOnTape_56 : decode b_PB_stageOnTape 56 = .ok (.ldc 162, 2) := by decide +kernel
theorem d_PB_stageOnTape_58 : decode b_PB_stageOnTape 58 = .ok (.invokevirtual 158, 3) := by decide +kernel
theorem d_PB_stageOnTape_61 : decode b_PB_stageOnTape 61 = .ok (.ifCond .eq 5, 3) := by decide +kernel
theorem d_PB_stageOnTape_64 : decode b_PB_stageOnTape 64 = .ok (.iconst 2, 1) := by decide +kernel
theorem d_PB_stageOnTape_65 : decode b_PB_stageOnTape 65 = .ok (.ireturn, 1) := by decide +kernel
theorem d_PB_stageOnTape_66 : decode b_PB_stageOnTape 66 = .ok (.aload_n 0, 1) := by decide +kernel
theorem d_PB_stageOnTape_67 : decode b_PB_stageOnTape 67 = .ok (.getfield 12, 3) := by decide +kernel
theorem d_PB_stageOnTape_70 : decode b_PB_stageOnTape 70 = .ok (.iload_n 1, 1) := by decide +kernel
theorem d_PB_stageOnTape_71 : decode b_PB_stageOnTape 71 = .ok (.iload_n 2, 1) := by decide +kernel
theorem d_PB_stageOnTape_72 : decode b_PB_stageOnTape 72 = .ok (.ldc 164, 2) := by decide +kernel
theorem d_PB_stageOnTape_74 : decode b_PB_stageOnTape 74 = .ok (.invokevirtual 158, 3) := by decide +kernel
theorem d_PB_stageOnTape_77 : decode b_PB_stageOnTape 77 = .ok (.ifCond .eq 5, 3) := by decide +kernel
theorem d_PB_stageOnTape_80 : decode b_PB_stageOnTape 80 = .ok (.iconst 3, 1) := by decide +kernel
theorem d_PB_stageOnTape_81 : decode b_PB_stageOnTape 81 = .ok (.ireturn, 1) := by decide +kernel
theorem d_PB_stageOnTape_82 : decode b_PB_stageOnTape 82 = .ok (.aload_n 0, 1) := by decide +kernel
theorem d_PB_stageOnTape_83 : decode b_PB_stageOnTape 83 = .ok (.getfield 12, 3) := by decide +kernel
theorem d_PB_stageOnTape_86 : decode b_PB_stageOnTape 86 = .ok (.iload_n 1, 1) := by decide +kernel
theorem d_PB_stageOnTape_87 : decode b_PB_stageOnTape 87 = .ok (.iload_n 2, 1) := by decide +kernel
theorem d_PB_stageOnTape_88 : decode b_PB_stageOnTape 88 = .ok (.ldc 166, 2) := by decide +kernel
theorem d_PB_stageOnTape_90 : decode b_PB_stageOnTape 90 = .ok (.invokevirtual 158, 3) := by decide +kernel
theorem d_PB_stageOnTape_93 : decode b_PB_stageOnTape 93 = .ok (.ifCond .eq 5, 3) := by decide +kernel
theorem d_PB_stageOnTape_96 : decode b_PB_stageOnTape 96 = .ok (.iconst 4, 1) := by decide +kernel
theorem d_PB_stageOnTape_97 : decode b_PB_stageOnTape 97 = .ok (.ireturn, 1) := by decide +kernel
theorem d_PB_stageOnTape_98 : decode b_PB_stageOnTape 98 = .ok (.aload_n 0, 1) := by decide +kernel
theorem d_PB_stageOnTape_99 : decode b_PB_stageOnTape 99 = .ok (.getfield 12, 3) := by decide +kernel
theorem d_PB_stageOnTape_102 : decode b_PB_stageOnTape 102 = .ok (.iload_n 1, 1) := by decide +kernel
theorem d_PB_stageOnTape_103 : decode b_PB_stageOnTape 103 = .ok (.iload_n 2, 1) := by decide +kernel
theorem d_PB_stageOnTape_104 : decode b_PB_stageOnTape 104 = .ok (.ldc 168, 2) := by decide +kernel
theorem d_PB_stageOnTape_106 : decode b_PB_stageOnTape 106 = .ok (.invokevirtual 158, 3) := by decide +kernel
theorem d_PB_stageOnTape_109 : decode b_PB_stageOnTape 109 = .ok (.ifCond .eq 5, 3) := by decide +kernel
theorem d_PB_stageOnTape_112 : decode b_PB_stageOnTape 112 = .ok (.iconst 5, 1) := by decide +kernel
theorem d_PB_stageOnTape_113 : decode b_PB_stageOnTape 113 = .ok (.ireturn, 1) := by decide +kernel
theorem d_PB_stageOnTape_114 : decode b_PB_stageOnTape 114 = .ok (.aload_n 0, 1) := by decide +kernel
theorem d_PB_stageOnTape_115 : decode b_PB_stageOnTape 115 = .ok (.getfield 12, 3) := by decide +kernel
theorem d_PB_stageOnTape_118 : decode b_PB_stageOnTape 118 = .ok (.iload_n 1, 1) := by decide +kernel
theorem d_PB_stageOnTape_119 : decode b_PB_stageOnTape 119 = .ok (.iload_n 2, 1) := by decide +kernel
theorem d_PB_stageOnTape_120 : decode b_PB_stageOnTape 120 = .ok (.ldc 170, 2) := by decide +kernel
theorem d_PB_stageOnTape_122 : decode b_PB_stageOnTape 122 = .ok (.invokevirtual 158, 3) := by decide +kernel
theorem d_PB_stageOnTape_125 : decode b_PB_stageOnTape 125 = .ok (.ifCond .eq 6, 3) := by decide +kernel
theorem d_PB_stageOnTape_128 : decode b_PB_stageOnTape 128 = .ok (.bipush 6, 2) := by decide +kernel
theorem d_PB_stageOnTape_130 : decode b_PB_stageOnTape 130 = .ok (.ireturn, 1) := by decide +kernel
theorem d_PB_stageOnTape_131 : decode b_PB_stageOnTape 131 = .ok (.aload_n 0, 1) := by decide +kernel
theorem d_PB_stageOnTape_132 : decode b_PB_stageOnTape 132 = .ok (.getfield 12, 3) := by decide +kernel
theorem d_PB_stageOnTape_135 : decode b_PB_stageOnTape 135 = .ok (.iload_n 1, 1) := by decide +kernel
theorem d_PB_stageOnTape_136 : decode b_PB_stageOnTape 136 = .ok (.iload_n 2, 1) := by decide +kernel
theorem d_PB_stageOnTape_137 : decode b_PB_stageOnTape 137 = .ok (.ldc 172, 2) := by decide +kernel
theorem d_PB_stageOnTape_139 : decode b_PB_stageOnTape 139 = .ok (.invokevirtual 158, 3) := by decide +kernel
theorem d_PB_stageOnTape_142 : decode b_PB_stageOnTape 142 = .ok (.ifCond .eq 8, 3) := by decide +kernel
theorem d_PB_stageOnTape_145 : decode b_PB_stageOnTape 145 = .ok (.bipush 7, 2) := by decide +kernel
theorem d_PB_stageOnTape_147 : decode b_PB_stageOnTape 147 = .ok (.goto 4, 3) := by decide +kernel
theorem d_PB_stageOnTape_150 : decode b_PB_stageOnTape 150 = .ok (.iconst 0, 1) := by decide +kernel
theorem d_PB_stageOnTape_151 : decode b_PB_stageOnTape 151 = .ok (.ireturn, 1) := by decide +kernel
abbrev b_PB_leaveOut : ByteArray := prog_1_method_12_code
def y_PB_leaveOut : MethodName := ⟨R_PB, "leaveOut", "(IZ)I"⟩
theorem kc_PB_leaveOut : Cond.code y_PB_leaveOut b_PB_leaveOut 8 (some .int) ∈ lw_g := lw_gm (List.mem_append_right _ (List.mem_of_getElem? (i := 922) (by decide +kernel))) rfl
abbrev mw_PB_leaveOut : List Cond := Cond.code y_PB_leaveOut b_PB_leaveOut 8 (some .int) :: lw_g
theorem hd_PB_leaveOut : y_PB_leaveOut.cls = R_PB ∧ y_PB_leaveOut.cls ≠ "java/lang/invoke/MethodHandle" ∧ y_PB_leaveOut.cls ≠ "java/lang/invoke/VarHandle" ∧ (parseMethodDescriptor y_PB_leaveOut.desc).map (fun d => d.parameters.length) = some 2 := by decide +kernel
theorem kp_PB_leaveOut : Cond.selects R_PB y_PB_leaveOut y_PB_leaveOut ∈ lw_g := lw_gm (List.mem_append_left _ (by decide +kernel)) rfl
theorem d_PB_leaveOut_0 : decode b_PB_leaveOut 0 = .ok (.iload_n 1, 1) := by decide +kernel
theorem d_PB_leaveOut_1 : decode b_PB_leaveOut 1 = .ok (.invokestatic 174, 3) := by decide +kernel
theorem d_PB_leaveOut_4 : decode b_PB_leaveOut 4 = .ok (.iconst 2, 1) := by decide +kernel
theorem d_PB_leaveOut_5 : decode b_PB_leaveOut 5 = .ok (.if_icmp .ne 16, 3) := by decide +kernel
theorem d_PB_leaveOut_8 : decode b_PB_leaveOut 8 = .ok (.aload_n 0, 1) := by decide +kernel
theorem d_PB_leaveOut_9 : decode b_PB_leaveOut 9 = .ok (.getfield 12, 3) := by decide +kernel
theorem d_PB_leaveOut_12 : decode b_PB_leaveOut 12 = .ok (.iload_n 1, 1) := by decide +kernel
theorem d_PB_leaveOut_13 : decode b_PB_leaveOut 13 = .ok (.invokevirtual 177, 3) := by decide +kernel
theorem d_PB_leaveOut_16 : decode b_PB_leaveOut 16 = .ok (.lconst 0, 1) := by decide +kernel
theorem d_PB_leaveOut_17 : decode b_PB_leaveOut 17 = .ok (.lcmp, 1) := by decide +kernel
theorem d_PB_leaveOut_18 : decode b_PB_leaveOut 18 = .ok (.ifCond .ge 5, 3) := by decide +kernel
theorem d_PB_leaveOut_21 : decode b_PB_leaveOut 21 = .ok (.iconst 2, 1) := by decide +kernel
theorem d_PB_leaveOut_22 : decode b_PB_leaveOut 22 = .ok (.ireturn, 1) := by decide +kernel
theorem d_PB_leaveOut_23 : decode b_PB_leaveOut 23 = .ok (.aload_n 0, 1) := by decide +kernel
theorem d_PB_leaveOut_24 : decode b_PB_leaveOut 24 = .ok (.getfield 28, 3) := by decide +kernel
theorem d_PB_leaveOut_27 : decode b_PB_leaveOut 27 = .ok (.getfield 123, 3) := by decide +kernel
theorem d_PB_leaveOut_30 : decode b_PB_leaveOut 30 = .ok (.getfield 85, 3) := by decide +kernel
theorem d_PB_leaveOut_33 : decode b_PB_leaveOut 33 = .ok (.istore_n 3, 1) := by decide +kernel
theorem d_PB_leaveOut_34 : decode b_PB_leaveOut 34 = .ok (.aload_n 0, 1) := by decide +kernel
theorem d_PB_leaveOut_35 : decode b_PB_leaveOut 35 = .ok (.getfield 12, 3) := by decide +kernel
theorem d_PB_leaveOut_38 : decode b_PB_leaveOut 38 = .ok (.iload_n 1, 1) := by decide +kernel
theorem d_PB_leaveOut_39 : decode b_PB_leaveOut 39 = .ok (.invokevirtual 177, 3) := by decide +kernel
theorem d_PB_leaveOut_42 : decode b_PB_leaveOut 42 = .ok (.iload_n 3, 1) := by decide +kernel
theorem d_PB_leaveOut_43 : decode b_PB_leaveOut 43 = .ok (.i2l, 1) := by decide +kernel
theorem d_PB_leaveOut_44 : decode b_PB_leaveOut 44 = .ok (.invokestatic 181, 3) := by decide +kernel
theorem d_PB_leaveOut_47 : decode b_PB_leaveOut 47 = .ok (.l2i, 1) := by decide +kernel
theorem d_PB_leaveOut_48 : decode b_PB_leaveOut 48 = .ok (.istore 4, 2) := by decide +kernel
theorem d_PB_leaveOut_50 : decode b_PB_leaveOut 50 = .ok (.iload_n 2, 1) := by decide +kernel
theorem d_PB_leaveOut_51 : decode b_PB_leaveOut 51 = .ok (.ifCond .eq 8, 3) := by decide +kernel
theorem d_PB_leaveOut_54 : decode b_PB_leaveOut 54 = .ok (.iload 4, 2) := by decide +kernel
theorem d_PB_leaveOut_56 : decode b_PB_leaveOut 56 = .ok (.goto 4, 3) := by decide +kernel
theorem d_PB_leaveOut_59 : decode b_PB_leaveOut 59 = .ok (.iconst 0, 1) := by decide +kernel
theorem d_PB_leaveOut_60 : decode b_PB_leaveOut 60 = .ok (.istore 5, 2) := by decide +kernel
theorem d_PB_leaveOut_62 : decode b_PB_leaveOut 62 = .ok (.iload_n 2, 1) := by decide +kernel
theorem d_PB_leaveOut_63 : decode b_PB_leaveOut 63 = .ok (.ifCond .eq 7, 3) := by decide +kernel
theorem d_PB_leaveOut_66 : decode b_PB_leaveOut 66 = .ok (.iload_n 3, 1) := by decide +kernel
theorem d_PB_leaveOut_67 : decode b_PB_leaveOut 67 = .ok (.goto 5, 3) := by decide +kernel
theorem d_PB_leaveOut_70 : decode b_PB_leaveOut 70 = .ok (.iload 4, 2) := by decide +kernel
theorem d_PB_leaveOut_72 : decode b_PB_leaveOut 72 = .ok (.istore 6, 2) := by decide +kernel
theorem d_PB_leaveOut_74 : decode b_PB_leaveOut 74 = .ok (.iload 5, 2) := by decide +kernel
theorem d_PB_leaveOut_76 : decode b_PB_leaveOut 76 = .ok (.istore 7, 2) := by decide +kernel
theorem d_PB_leaveOut_78 : decode b_PB_leaveOut 78 = .ok (.iload 7, 2) := by decide +kernel
theorem d_PB_leaveOut_80 : decode b_PB_leaveOut 80 = .ok (.iload 6, 2) := by decide +kernel
theorem d_PB_leaveOut_82 : decode b_PB_leaveOut 82 = .ok (.if_icmp .ge 23, 3) := by decide +kernel
theorem d_PB_leaveOut_85 : decode b_PB_leaveOut 85 = .ok (.aload_n 0, 1) := by decide +kernel
theorem d_PB_leaveOut_86 : decode b_PB_leaveOut 86 = .ok (.getfield 28, 3) := by decide +kernel
theorem d_PB_leaveOut_89 : decode b_PB_leaveOut 89 = .ok (.iload 7, 2) := by decide +kernel
theorem d_PB_leaveOut_91 : decode b_PB_leaveOut 91 = .ok (.invokevirtual 187, 3) := by decide +kernel
theorem d_PB_leaveOut_94 : decode b_PB_leaveOut 94 = .ok (.ifCond .ne 5, 3) := by decide +kernel
theorem d_PB_leaveOut_97 : decode b_PB_leaveOut 97 = .ok (.iconst 5, 1) := by decide +kernel
theorem d_PB_leaveOut_98 : decode b_PB_leaveOut 98 = .ok (.ireturn, 1) := by decide +kernel
theorem d_PB_leaveOut_99 : decode b_PB_leaveOut 99 = .ok (.iinc 7 1, 3) := by decide +kernel
theorem d_PB_leaveOut_102 : decode b_PB_leaveOut 102 = .ok (.goto (-24), 3) := by decide +kernel
theorem d_PB_leaveOut_105 : decode b_PB_leaveOut 105 = .ok (.iconst 0, 1) := by decide +kernel
theorem d_PB_leaveOut_106 : decode b_PB_leaveOut 106 = .ok (.ireturn, 1) := by decide +kernel
theorem tp46_mk {T1 T2 T3 T4 T5 T6 T7 T8 T9 T10 T11 T12 T13 T14 T15 T16 T17 T18 T19 T20 T21 T22 T23 T24 T25 T26 T27 T28 T29 T30 T31 T32 T33 T34 T35 T36 T37 T38 T39 T40 T41 T42 T43 T44 T45 T46 Z : Type} {x1 : T1} {x2 : T2} {x3 : T3} {x4 : T4} {x5 : T5} {x6 : T6} {x7 : T7} {x8 : T8} {x9 : T9} {x10 : T10} {x11 : T11} {x12 : T12} {x13 : T13} {x14 : T14} {x15 : T15} {x16 : T16} {x17 : T17} {x18 : T18} {x19 : T19} {x20 : T20} {x21 : T21} {x22 : T22} {x23 : T23} {x24 : T24} {x25 : T25} {x26 : T26} {x27 : T27} {x28 : T28} {x29 : T29} {x30 : T30} {x31 : T31} {x32 : T32} {x33 : T33} {x34 : T34} {x35 : T35} {x36 : T36} {x37 : T37} {x38 : T38} {x39 : T39} {x40 : T40} {x41 : T41} {x42 : T42} {x43 : T43} {x44 : T44} {x45 : T45} {x46 : T46} {f : T1 → T2 → T3 → T4 → T5 → T6 → T7 → T8 → T9 → T10 → T11 → T12 → T13 → T14 → T15 → T16 → T17 → T18 → T19 → T20 → T21 → T22 → T23 → T24 → T25 → T26 → T27 → T28 → T29 → T30 → T31 → T32 → T33 → T34 → T35 → T36 → T37 → T38 → T39 → T40 → T41 → T42 → T43 → T44 → T45 → T46 → Z} : tp46 (x1, x2, x3, x4, x5, x6, x7, x8, x9, x10, x11, x12, x13, x14, x15, x16, x17, x18, x19, x20, x21, x22, x23, x24, x25, x26, x27, x28, x29, x30, x31, x32, x33, x34, x35, x36, x37, x38, x39, x40, x41, x42, x43, x44, x45, x46) f = f x1 x2 x3 x4 x5 x6 x7 x8 x9 x10 x11 x12 x13 x14 x15 x16 x17 x18 x19 x20 x21 x22 x23 x24 x25 x26 x27 x28 x29 x30 x31 x32 x33 x34 x35 x36 x37 x38 x39 x40 x41 x42 x43 x44 x45 x46 := rfl
theorem tp47_mk {T1 T2 T3 T4 T5 T6 T7 T8 T9 T10 T11 T12 T13 T14 T15 T16 T17 T18 T19 T20 T21 T22 T23 T24 T25 T26 T27 T28 T29 T30 T31 T32 T33 T34 T35 T36 T37 T38 T39 T40 T41 T42 T43 T44 T45 T46 T47 Z : Type} {x1 : T1} {x2 : T2} {x3 : T3} {x4 : T4} {x5 : T5} {x6 : T6} {x7 : T7} {x8 : T8} {x9 : T9} {x10 : T10} {x11 : T11} {x12 : T12} {x13 : T13} {x14 : T14} {x15 : T15} {x16 : T16} {x17 : T17} {x18 : T18} {x19 : T19} {x20 : T20} {x21 : T21} {x22 : T22} {x23 : T23} {x24 : T24} {x25 : T25} {x26 : T26} {x27 : T27} {x28 : T28} {x29 : T29} {x30 : T30} {x31 : T31} {x32 : T32} {x33 : T33} {x34 : T34} {x35 : T35} {x36 : T36} {x37 : T37} {x38 : T38} {x39 : T39} {x40 : T40} {x41 : T41} {x42 : T42} {x43 : T43} {x44 : T44} {x45 : T45} {x46 : T46} {x47 : T47} {f : T1 → T2 → T3 → T4 → T5 → T6 → T7 → T8 → T9 → T10 → T11 → T12 → T13 → T14 → T15 → T16 → T17 → T18 → T19 → T20 → T21 → T22 → T23 → T24 → T25 → T26 → T27 → T28 → T29 → T30 → T31 → T32 → T33 → T34 → T35 → T36 → T37 → T38 → T39 → T40 → T41 → T42 → T43 → T44 → T45 → T46 → T47 → Z} : tp47 (x1, x2, x3, x4, x5, x6, x7, x8, x9, x10, x11, x12, x13, x14, x15, x16, x17, x18, x19, x20, x21, x22, x23, x24, x25, x26, x27, x28, x29, x30, x31, x32, x33, x34, x35, x36, x37, x38, x39, x40, x41, x42, x43, x44, x45, x46, x47) f = f x1 x2 x3 x4 x5 x6 x7 x8 x9 x10 x11 x12 x13 x14 x15 x16 x17 x18 x19 x20 x21 x22 x23 x24 x25 x26 x27 x28 x29 x30 x31 x32 x33 x34 x35 x36 x37 x38 x39 x40 x41 x42 x43 x44 x45 x46 x47 := rfl
theorem tp48_mk {T1 T2 T3 T4 T5 T6 T7 T8 T9 T10 T11 T12 T13 T14 T15 T16 T17 T18 T19 T20 T21 T22 T23 T24 T25 T26 T27 T28 T29 T30 T31 T32 T33 T34 T35 T36 T37 T38 T39 T40 T41 T42 T43 T44 T45 T46 T47 T48 Z : Type} {x1 : T1} {x2 : T2} {x3 : T3} {x4 : T4} {x5 : T5} {x6 : T6} {x7 : T7} {x8 : T8} {x9 : T9} {x10 : T10} {x11 : T11} {x12 : T12} {x13 : T13} {x14 : T14} {x15 : T15} {x16 : T16} {x17 : T17} {x18 : T18} {x19 : T19} {x20 : T20} {x21 : T21} {x22 : T22} {x23 : T23} {x24 : T24} {x25 : T25} {x26 : T26} {x27 : T27} {x28 : T28} {x29 : T29} {x30 : T30} {x31 : T31} {x32 : T32} {x33 : T33} {x34 : T34} {x35 : T35} {x36 : T36} {x37 : T37} {x38 : T38} {x39 : T39} {x40 : T40} {x41 : T41} {x42 : T42} {x43 : T43} {x44 : T44} {x45 : T45} {x46 : T46} {x47 : T47} {x48 : T48} {f : T1 → T2 → T3 → T4 → T5 → T6 → T7 → T8 → T9 → T10 → T11 → T12 → T13 → T14 → T15 → T16 → T17 → T18 → T19 → T20 → T21 → T22 → T23 → T24 → T25 → T26 → T27 → T28 → T29 → T30 → T31 → T32 → T33 → T34 → T35 → T36 → T37 → T38 → T39 → T40 → T41 → T42 → T43 → T44 → T45 → T46 → T47 → T48 → Z} : tp48 (x1, x2, x3, x4, x5, x6, x7, x8, x9, x10, x11, x12, x13, x14, x15, x16, x17, x18, x19, x20, x21, x22, x23, x24, x25, x26, x27, x28, x29, x30, x31, x32, x33, x34, x35, x36, x37, x38, x39, x40, x41, x42, x43, x44, x45, x46, x47, x48) f = f x1 x2 x3 x4 x5 x6 x7 x8 x9 x10 x11 x12 x13 x14 x15 x16 x17 x18 x19 x20 x21 x22 x23 x24 x25 x26 x27 x28 x29 x30 x31 x32 x33 x34 x35 x36 x37 x38 x39 x40 x41 x42 x43 x44 x45 x46 x47 x48 := rfl
theorem tp49_mk {T1 T2 T3 T4 T5 T6 T7 T8 T9 T10 T11 T12 T13 T14 T15 T16 T17 T18 T19 T20 T21 T22 T23 T24 T25 T26 T27 T28 T29 T30 T31 T32 T33 T34 T35 T36 T37 T38 T39 T40 T41 T42 T43 T44 T45 T46 T47 T48 T49 Z : Type} {x1 : T1} {x2 : T2} {x3 : T3} {x4 : T4} {x5 : T5} {x6 : T6} {x7 : T7} {x8 : T8} {x9 : T9} {x10 : T10} {x11 : T11} {x12 : T12} {x13 : T13} {x14 : T14} {x15 : T15} {x16 : T16} {x17 : T17} {x18 : T18} {x19 : T19} {x20 : T20} {x21 : T21} {x22 : T22} {x23 : T23} {x24 : T24} {x25 : T25} {x26 : T26} {x27 : T27} {x28 : T28} {x29 : T29} {x30 : T30} {x31 : T31} {x32 : T32} {x33 : T33} {x34 : T34} {x35 : T35} {x36 : T36} {x37 : T37} {x38 : T38} {x39 : T39} {x40 : T40} {x41 : T41} {x42 : T42} {x43 : T43} {x44 : T44} {x45 : T45} {x46 : T46} {x47 : T47} {x48 : T48} {x49 : T49} {f : T1 → T2 → T3 → T4 → T5 → T6 → T7 → T8 → T9 → T10 → T11 → T12 → T13 → T14 → T15 → T16 → T17 → T18 → T19 → T20 → T21 → T22 → T23 → T24 → T25 → T26 → T27 → T28 → T29 → T30 → T31 → T32 → T33 → T34 → T35 → T36 → T37 → T38 → T39 → T40 → T41 → T42 → T43 → T44 → T45 → T46 → T47 → T48 → T49 → Z} : tp49 (x1, x2, x3, x4, x5, x6, x7, x8, x9, x10, x11, x12, x13, x14, x15, x16, x17, x18, x19, x20, x21, x22, x23, x24, x25, x26, x27, x28, x29, x30, x31, x32, x33, x34, x35, x36, x37, x38, x39, x40, x41, x42, x43, x44, x45, x46, x47, x48, x49) f = f x1 x2 x3 x4 x5 x6 x7 x8 x9 x10 x11 x12 x13 x14 x15 x16 x17 x18 x19 x20 x21 x22 x23 x24 x25 x26 x27 x28 x29 x30 x31 x32 x33 x34 x35 x36 x37 x38 x39 x40 x41 x42 x43 x44 x45 x46 x47 x48 x49 := rfl
theorem tp50_mk {T1 T2 T3 T4 T5 T6 T7 T8 T9 T10 T11 T12 T13 T14 T15 T16 T17 T18 T19 T20 T21 T22 T23 T24 T25 T26 T27 T28 T29 T30 T31 T32 T33 T34 T35 T36 T37 T38 T39 T40 T41 T42 T43 T44 T45 T46 T47 T48 T49 T50 Z : Type} {x1 : T1} {x2 : T2} {x3 : T3} {x4 : T4} {x5 : T5} {x6 : T6} {x7 : T7} {x8 : T8} {x9 : T9} {x10 : T10} {x11 : T11} {x12 : T12} {x13 : T13} {x14 : T14} {x15 : T15} {x16 : T16} {x17 : T17} {x18 : T18} {x19 : T19} {x20 : T20} {x21 : T21} {x22 : T22} {x23 : T23} {x24 : T24} {x25 : T25} {x26 : T26} {x27 : T27} {x28 : T28} {x29 : T29} {x30 : T30} {x31 : T31} {x32 : T32} {x33 : T33} {x34 : T34} {x35 : T35} {x36 : T36} {x37 : T37} {x38 : T38} {x39 : T39} {x40 : T40} {x41 : T41} {x42 : T42} {x43 : T43} {x44 : T44} {x45 : T45} {x46 : T46} {x47 : T47} {x48 : T48} {x49 : T49} {x50 : T50} {f : T1 → T2 → T3 → T4 → T5 → T6 → T7 → T8 → T9 → T10 → T11 → T12 → T13 → T14 → T15 → T16 → T17 → T18 → T19 → T20 → T21 → T22 → T23 → T24 → T25 → T26 → T27 → T28 → T29 → T30 → T31 → T32 → T33 → T34 → T35 → T36 → T37 → T38 → T39 → T40 → T41 → T42 → T43 → T44 → T45 → T46 → T47 → T48 → T49 → T50 → Z} : tp50 (x1, x2, x3, x4, x5, x6, x7, x8, x9, x10, x11, x12, x13, x14, x15, x16, x17, x18, x19, x20, x21, x22, x23, x24, x25, x26, x27, x28, x29, x30, x31, x32, x33, x34, x35, x36, x37, x38, x39, x40, x41, x42, x43, x44, x45, x46, x47, x48, x49, x50) f = f x1 x2 x3 x4 x5 x6 x7 x8 x9 x10 x11 x12 x13 x14 x15 x16 x17 x18 x19 x20 x21 x22 x23 x24 x25 x26 x27 x28 x29 x30 x31 x32 x33 x34 x35 x36 x37 x38 x39 x40 x41 x42 x43 x44 x45 x46 x47 x48 x49 x50 := rfl
theorem tp51_mk {T1 T2 T3 T4 T5 T6 T7 T8 T9 T10 T11 T12 T13 T14 T15 T16 T17 T18 T19 T20 T21 T22 T23 T24 T25 T26 T27 T28 T29 T30 T31 T32 T33 T34 T35 T36 T37 T38 T39 T40 T41 T42 T43 T44 T45 T46 T47 T48 T49 T50 T51 Z : Type} {x1 : T1} {x2 : T2} {x3 : T3} {x4 : T4} {x5 : T5} {x6 : T6} {x7 : T7} {x8 : T8} {x9 : T9} {x10 : T10} {x11 : T11} {x12 : T12} {x13 : T13} {x14 : T14} {x15 : T15} {x16 : T16} {x17 : T17} {x18 : T18} {x19 : T19} {x20 : T20} {x21 : T21} {x22 : T22} {x23 : T23} {x24 : T24} {x25 : T25} {x26 : T26} {x27 : T27} {x28 : T28} {x29 : T29} {x30 : T30} {x31 : T31} {x32 : T32} {x33 : T33} {x34 : T34} {x35 : T35} {x36 : T36} {x37 : T37} {x38 : T38} {x39 : T39} {x40 : T40} {x41 : T41} {x42 : T42} {x43 : T43} {x44 : T44} {x45 : T45} {x46 : T46} {x47 : T47} {x48 : T48} {x49 : T49} {x50 : T50} {x51 : T51} {f : T1 → T2 → T3 → T4 → T5 → T6 → T7 → T8 → T9 → T10 → T11 → T12 → T13 → T14 → T15 → T16 → T17 → T18 → T19 → T20 → T21 → T22 → T23 → T24 → T25 → T26 → T27 → T28 → T29 → T30 → T31 → T32 → T33 → T34 → T35 → T36 → T37 → T38 → T39 → T40 → T41 → T42 → T43 → T44 → T45 → T46 → T47 → T48 → T49 → T50 → T51 → Z} : tp51 (x1, x2, x3, x4, x5, x6, x7, x8, x9, x10, x11, x12, x13, x14, x15, x16, x17, x18, x19, x20, x21, x22, x23, x24, x25, x26, x27, x28, x29, x30, x31, x32, x33, x34, x35, x36, x37, x38, x39, x40, x41, x42, x43, x44, x45, x46, x47, x48, x49, x50, x51) f = f x1 x2 x3 x4 x5 x6 x7 x8 x9 x10 x11 x12 x13 x14 x15 x16 x17 x18 x19 x20 x21 x22 x23 x24 x25 x26 x27 x28 x29 x30 x31 x32 x33 x34 x35 x36 x37 x38 x39 x40 x41 x42 x43 x44 x45 x46 x47 x48 x49 x50 x51 := rfl
theorem tp52_mk {T1 T2 T3 T4 T5 T6 T7 T8 T9 T10 T11 T12 T13 T14 T15 T16 T17 T18 T19 T20 T21 T22 T23 T24 T25 T26 T27 T28 T29 T30 T31 T32 T33 T34 T35 T36 T37 T38 T39 T40 T41 T42 T43 T44 T45 T46 T47 T48 T49 T50 T51 T52 Z : Type} {x1 : T1} {x2 : T2} {x3 : T3} {x4 : T4} {x5 : T5} {x6 : T6} {x7 : T7} {x8 : T8} {x9 : T9} {x10 : T10} {x11 : T11} {x12 : T12} {x13 : T13} {x14 : T14} {x15 : T15} {x16 : T16} {x17 : T17} {x18 : T18} {x19 : T19} {x20 : T20} {x21 : T21} {x22 : T22} {x23 : T23} {x24 : T24} {x25 : T25} {x26 : T26} {x27 : T27} {x28 : T28} {x29 : T29} {x30 : T30} {x31 : T31} {x32 : T32} {x33 : T33} {x34 : T34} {x35 : T35} {x36 : T36} {x37 : T37} {x38 : T38} {x39 : T39} {x40 : T40} {x41 : T41} {x42 : T42} {x43 : T43} {x44 : T44} {x45 : T45} {x46 : T46} {x47 : T47} {x48 : T48} {x49 : T49} {x50 : T50} {x51 : T51} {x52 : T52} {f : T1 → T2 → T3 → T4 → T5 → T6 → T7 → T8 → T9 → T10 → T11 → T12 → T13 → T14 → T15 → T16 → T17 → T18 → T19 → T20 → T21 → T22 → T23 → T24 → T25 → T26 → T27 → T28 → T29 → T30 → T31 → T32 → T33 → T34 → T35 → T36 → T37 → T38 → T39 → T40 → T41 → T42 → T43 → T44 → T45 → T46 → T47 → T48 → T49 → T50 → T51 → T52 → Z} : tp52 (x1, x2, x3, x4, x5, x6, x7, x8, x9, x10, x11, x12, x13, x14, x15, x16, x17, x18, x19, x20, x21, x22, x23, x24, x25, x26, x27, x28, x29, x30, x31, x32, x33, x34, x35, x36, x37, x38, x39, x40, x41, x42, x43, x44, x45, x46, x47, x48, x49, x50, x51, x52) f = f x1 x2 x3 x4 x5 x6 x7 x8 x9 x10 x11 x12 x13 x14 x15 x16 x17 x18 x19 x20 x21 x22 x23 x24 x25 x26 x27 x28 x29 x30 x31 x32 x33 x34 x35 x36 x37 x38 x39 x40 x41 x42 x43 x44 x45 x46 x47 x48 x49 x50 x51 x52 := rfl
theorem tp53_mk {T1 T2 T3 T4 T5 T6 T7 T8 T9 T10 T11 T12 T13 T14 T15 T16 T17 T18 T19 T20 T21 T22 T23 T24 T25 T26 T27 T28 T29 T30 T31 T32 T33 T34 T35 T36 T37 T38 T39 T40 T41 T42 T43 T44 T45 T46 T47 T48 T49 T50 T51 T52 T53 Z : Type} {x1 : T1} {x2 : T2} {x3 : T3} {x4 : T4} {x5 : T5} {x6 : T6} {x7 : T7} {x8 : T8} {x9 : T9} {x10 : T10} {x11 : T11} {x12 : T12} {x13 : T13} {x14 : T14} {x15 : T15} {x16 : T16} {x17 : T17} {x18 : T18} {x19 : T19} {x20 : T20} {x21 : T21} {x22 : T22} {x23 : T23} {x24 : T24} {x25 : T25} {x26 : T26} {x27 : T27} {x28 : T28} {x29 : T29} {x30 : T30} {x31 : T31} {x32 : T32} {x33 : T33} {x34 : T34} {x35 : T35} {x36 : T36} {x37 : T37} {x38 : T38} {x39 : T39} {x40 : T40} {x41 : T41} {x42 : T42} {x43 : T43} {x44 : T44} {x45 : T45} {x46 : T46} {x47 : T47} {x48 : T48} {x49 : T49} {x50 : T50} {x51 : T51} {x52 : T52} {x53 : T53} {f : T1 → T2 → T3 → T4 → T5 → T6 → T7 → T8 → T9 → T10 → T11 → T12 → T13 → T14 → T15 → T16 → T17 → T18 → T19 → T20 → T21 → T22 → T23 → T24 → T25 → T26 → T27 → T28 → T29 → T30 → T31 → T32 → T33 → T34 → T35 → T36 → T37 → T38 → T39 → T40 → T41 → T42 → T43 → T44 → T45 → T46 → T47 → T48 → T49 → T50 → T51 → T52 → T53 → Z} : tp53 (x1, x2, x3, x4, x5, x6, x7, x8, x9, x10, x11, x12, x13, x14, x15, x16, x17, x18, x19, x20, x21, x22, x23, x24, x25, x26, x27, x28, x29, x30, x31, x32, x33, x34, x35, x36, x37, x38, x39, x40, x41, x42, x43, x44, x45, x46, x47, x48, x49, x50, x51, x52, x53) f = f x1 x2 x3 x4 x5 x6 x7 x8 x9 x10 x11 x12 x13 x14 x15 x16 x17 x18 x19 x20 x21 x22 x23 x24 x25 x26 x27 x28 x29 x30 x31 x32 x33 x34 x35 x36 x37 x38 x39 x40 x41 x42 x43 x44 x45 x46 x47 x48 x49 x50 x51 x52 x53 := rfl
theorem tp54_mk {T1 T2 T3 T4 T5 T6 T7 T8 T9 T10 T11 T12 T13 T14 T15 T16 T17 T18 T19 T20 T21 T22 T23 T24 T25 T26 T27 T28 T29 T30 T31 T32 T33 T34 T35 T36 T37 T38 T39 T40 T41 T42 T43 T44 T45 T46 T47 T48 T49 T50 T51 T52 T53 T54 Z : Type} {x1 : T1} {x2 : T2} {x3 : T3} {x4 : T4} {x5 : T5} {x6 : T6} {x7 : T7} {x8 : T8} {x9 : T9} {x10 : T10} {x11 : T11} {x12 : T12} {x13 : T13} {x14 : T14} {x15 : T15} {x16 : T16} {x17 : T17} {x18 : T18} {x19 : T19} {x20 : T20} {x21 : T21} {x22 : T22} {x23 : T23} {x24 : T24} {x25 : T25} {x26 : T26} {x27 : T27} {x28 : T28} {x29 : T29} {x30 : T30} {x31 : T31} {x32 : T32} {x33 : T33} {x34 : T34} {x35 : T35} {x36 : T36} {x37 : T37} {x38 : T38} {x39 : T39} {x40 : T40} {x41 : T41} {x42 : T42} {x43 : T43} {x44 : T44} {x45 : T45} {x46 : T46} {x47 : T47} {x48 : T48} {x49 : T49} {x50 : T50} {x51 : T51} {x52 : T52} {x53 : T53} {x54 : T54} {f : T1 → T2 → T3 → T4 → T5 → T6 → T7 → T8 → T9 → T10 → T11 → T12 → T13 → T14 → T15 → T16 → T17 → T18 → T19 → T20 → T21 → T22 → T23 → T24 → T25 → T26 → T27 → T28 → T29 → T30 → T31 → T32 → T33 → T34 → T35 → T36 → T37 → T38 → T39 → T40 → T41 → T42 → T43 → T44 → T45 → T46 → T47 → T48 → T49 → T50 → T51 → T52 → T53 → T54 → Z} : tp54 (x1, x2, x3, x4, x5, x6, x7, x8, x9, x10, x11, x12, x13, x14, x15, x16, x17, x18, x19, x20, x21, x22, x23, x24, x25, x26, x27, x28, x29, x30, x31, x32, x33, x34, x35, x36, x37, x38, x39, x40, x41, x42, x43, x44, x45, x46, x47, x48, x49, x50, x51, x52, x53, x54) f = f x1 x2 x3 x4 x5 x6 x7 x8 x9 x10 x11 x12 x13 x14 x15 x16 x17 x18 x19 x20 x21 x22 x23 x24 x25 x26 x27 x28 x29 x30 x31 x32 x33 x34 x35 x36 x37 x38 x39 x40 x41 x42 x43 x44 x45 x46 x47 x48 x49 x50 x51 x52 x53 x54 := rfl
theorem tp55_mk {T1 T2 T3 T4 T5 T6 T7 T8 T9 T10 T11 T12 T13 T14 T15 T16 T17 T18 T19 T20 T21 T22 T23 T24 T25 T26 T27 T28 T29 T30 T31 T32 T33 T34 T35 T36 T37 T38 T39 T40 T41 T42 T43 T44 T45 T46 T47 T48 T49 T50 T51 T52 T53 T54 T55 Z : Type} {x1 : T1} {x2 : T2} {x3 : T3} {x4 : T4} {x5 : T5} {x6 : T6} {x7 : T7} {x8 : T8} {x9 : T9} {x10 : T10} {x11 : T11} {x12 : T12} {x13 : T13} {x14 : T14} {x15 : T15} {x16 : T16} {x17 : T17} {x18 : T18} {x19 : T19} {x20 : T20} {x21 : T21} {x22 : T22} {x23 : T23} {x24 : T24} {x25 : T25} {x26 : T26} {x27 : T27} {x28 : T28} {x29 : T29} {x30 : T30} {x31 : T31} {x32 : T32} {x33 : T33} {x34 : T34} {x35 : T35} {x36 : T36} {x37 : T37} {x38 : T38} {x39 : T39} {x40 : T40} {x41 : T41} {x42 : T42} {x43 : T43} {x44 : T44} {x45 : T45} {x46 : T46} {x47 : T47} {x48 : T48} {x49 : T49} {x50 : T50} {x51 : T51} {x52 : T52} {x53 : T53} {x54 : T54} {x55 : T55} {f : T1 → T2 → T3 → T4 → T5 → T6 → T7 → T8 → T9 → T10 → T11 → T12 → T13 → T14 → T15 → T16 → T17 → T18 → T19 → T20 → T21 → T22 → T23 → T24 → T25 → T26 → T27 → T28 → T29 → T30 → T31 → T32 → T33 → T34 → T35 → T36 → T37 → T38 → T39 → T40 → T41 → T42 → T43 → T44 → T45 → T46 → T47 → T48 → T49 → T50 → T51 → T52 → T53 → T54 → T55 → Z} : tp55 (x1, x2, x3, x4, x5, x6, x7, x8, x9, x10, x11, x12, x13, x14, x15, x16, x17, x18, x19, x20, x21, x22, x23, x24, x25, x26, x27, x28, x29, x30, x31, x32, x33, x34, x35, x36, x37, x38, x39, x40, x41, x42, x43, x44, x45, x46, x47, x48, x49, x50, x51, x52, x53, x54, x55) f = f x1 x2 x3 x4 x5 x6 x7 x8 x9 x10 x11 x12 x13 x14 x15 x16 x17 x18 x19 x20 x21 x22 x23 x24 x25 x26 x27 x28 x29 x30 x31 x32 x33 x34 x35 x36 x37 x38 x39 x40 x41 x42 x43 x44 x45 x46 x47 x48 x49 x50 x51 x52 x53 x54 x55 := rfl
theorem tp56_mk {T1 T2 T3 T4 T5 T6 T7 T8 T9 T10 T11 T12 T13 T14 T15 T16 T17 T18 T19 T20 T21 T22 T23 T24 T25 T26 T27 T28 T29 T30 T31 T32 T33 T34 T35 T36 T37 T38 T39 T40 T41 T42 T43 T44 T45 T46 T47 T48 T49 T50 T51 T52 T53 T54 T55 T56 Z : Type} {x1 : T1} {x2 : T2} {x3 : T3} {x4 : T4} {x5 : T5} {x6 : T6} {x7 : T7} {x8 : T8} {x9 : T9} {x10 : T10} {x11 : T11} {x12 : T12} {x13 : T13} {x14 : T14} {x15 : T15} {x16 : T16} {x17 : T17} {x18 : T18} {x19 : T19} {x20 : T20} {x21 : T21} {x22 : T22} {x23 : T23} {x24 : T24} {x25 : T25} {x26 : T26} {x27 : T27} {x28 : T28} {x29 : T29} {x30 : T30} {x31 : T31} {x32 : T32} {x33 : T33} {x34 : T34} {x35 : T35} {x36 : T36} {x37 : T37} {x38 : T38} {x39 : T39} {x40 : T40} {x41 : T41} {x42 : T42} {x43 : T43} {x44 : T44} {x45 : T45} {x46 : T46} {x47 : T47} {x48 : T48} {x49 : T49} {x50 : T50} {x51 : T51} {x52 : T52} {x53 : T53} {x54 : T54} {x55 : T55} {x56 : T56} {f : T1 → T2 → T3 → T4 → T5 → T6 → T7 → T8 → T9 → T10 → T11 → T12 → T13 → T14 → T15 → T16 → T17 → T18 → T19 → T20 → T21 → T22 → T23 → T24 → T25 → T26 → T27 → T28 → T29 → T30 → T31 → T32 → T33 → T34 → T35 → T36 → T37 → T38 → T39 → T40 → T41 → T42 → T43 → T44 → T45 → T46 → T47 → T48 → T49 → T50 → T51 → T52 → T53 → T54 → T55 → T56 → Z} : tp56 (x1, x2, x3, x4, x5, x6, x7, x8, x9, x10, x11, x12, x13, x14, x15, x16, x17, x18, x19, x20, x21, x22, x23, x24, x25, x26, x27, x28, x29, x30, x31, x32, x33, x34, x35, x36, x37, x38, x39, x40, x41, x42, x43, x44, x45, x46, x47, x48, x49, x50, x51, x52, x53, x54, x55, x56) f = f x1 x2 x3 x4 x5 x6 x7 x8 x9 x10 x11 x12 x13 x14 x15 x16 x17 x18 x19 x20 x21 x22 x23 x24 x25 x26 x27 x28 x29 x30 x31 x32 x33 x34 x35 x36 x37 x38 x39 x40 x41 x42 x43 x44 x45 x46 x47 x48 x49 x50 x51 x52 x53 x54 x55 x56 := rfl
theorem tp57_mk {T1 T2 T3 T4 T5 T6 T7 T8 T9 T10 T11 T12 T13 T14 T15 T16 T17 T18 T19 T20 T21 T22 T23 T24 T25 T26 T27 T28 T29 T30 T31 T32 T33 T34 T35 T36 T37 T38 T39 T40 T41 T42 T43 T44 T45 T46 T47 T48 T49 T50 T51 T52 T53 T54 T55 T56 T57 Z : Type} {x1 : T1} {x2 : T2} {x3 : T3} {x4 : T4} {x5 : T5} {x6 : T6} {x7 : T7} {x8 : T8} {x9 : T9} {x10 : T10} {x11 : T11} {x12 : T12} {x13 : T13} {x14 : T14} {x15 : T15} {x16 : T16} {x17 : T17} {x18 : T18} {x19 : T19} {x20 : T20} {x21 : T21} {x22 : T22} {x23 : T23} {x24 : T24} {x25 : T25} {x26 : T26} {x27 : T27} {x28 : T28} {x29 : T29} {x30 : T30} {x31 : T31} {x32 : T32} {x33 : T33} {x34 : T34} {x35 : T35} {x36 : T36} {x37 : T37} {x38 : T38} {x39 : T39} {x40 : T40} {x41 : T41} {x42 : T42} {x43 : T43} {x44 : T44} {x45 : T45} {x46 : T46} {x47 : T47} {x48 : T48} {x49 : T49} {x50 : T50} {x51 : T51} {x52 : T52} {x53 : T53} {x54 : T54} {x55 : T55} {x56 : T56} {x57 : T57} {f : T1 → T2 → T3 → T4 → T5 → T6 → T7 → T8 → T9 → T10 → T11 → T12 → T13 → T14 → T15 → T16 → T17 → T18 → T19 → T20 → T21 → T22 → T23 → T24 → T25 → T26 → T27 → T28 → T29 → T30 → T31 → T32 → T33 → T34 → T35 → T36 → T37 → T38 → T39 → T40 → T41 → T42 → T43 → T44 → T45 → T46 → T47 → T48 → T49 → T50 → T51 → T52 → T53 → T54 → T55 → T56 → T57 → Z} : tp57 (x1, x2, x3, x4, x5, x6, x7, x8, x9, x10, x11, x12, x13, x14, x15, x16, x17, x18, x19, x20, x21, x22, x23, x24, x25, x26, x27, x28, x29, x30, x31, x32, x33, x34, x35, x36, x37, x38, x39, x40, x41, x42, x43, x44, x45, x46, x47, x48, x49, x50, x51, x52, x53, x54, x55, x56, x57) f = f x1 x2 x3 x4 x5 x6 x7 x8 x9 x10 x11 x12 x13 x14 x15 x16 x17 x18 x19 x20 x21 x22 x23 x24 x25 x26 x27 x28 x29 x30 x31 x32 x33 x34 x35 x36 x37 x38 x39 x40 x41 x42 x43 x44 x45 x46 x47 x48 x49 x50 x51 x52 x53 x54 x55 x56 x57 := rfl
theorem tp58_mk {T1 T2 T3 T4 T5 T6 T7 T8 T9 T10 T11 T12 T13 T14 T15 T16 T17 T18 T19 T20 T21 T22 T23 T24 T25 T26 T27 T28 T29 T30 T31 T32 T33 T34 T35 T36 T37 T38 T39 T40 T41 T42 T43 T44 T45 T46 T47 T48 T49 T50 T51 T52 T53 T54 T55 T56 T57 T58 Z : Type} {x1 : T1} {x2 : T2} {x3 : T3} {x4 : T4} {x5 : T5} {x6 : T6} {x7 : T7} {x8 : T8} {x9 : T9} {x10 : T10} {x11 : T11} {x12 : T12} {x13 : T13} {x14 : T14} {x15 : T15} {x16 : T16} {x17 : T17} {x18 : T18} {x19 : T19} {x20 : T20} {x21 : T21} {x22 : T22} {x23 : T23} {x24 : T24} {x25 : T25} {x26 : T26} {x27 : T27} {x28 : T28} {x29 : T29} {x30 : T30} {x31 : T31} {x32 : T32} {x33 : T33} {x34 : T34} {x35 : T35} {x36 : T36} {x37 : T37} {x38 : T38} {x39 : T39} {x40 : T40} {x41 : T41} {x42 : T42} {x43 : T43} {x44 : T44} {x45 : T45} {x46 : T46} {x47 : T47} {x48 : T48} {x49 : T49} {x50 : T50} {x51 : T51} {x52 : T52} {x53 : T53} {x54 : T54} {x55 : T55} {x56 : T56} {x57 : T57} {x58 : T58} {f : T1 → T2 → T3 → T4 → T5 → T6 → T7 → T8 → T9 → T10 → T11 → T12 → T13 → T14 → T15 → T16 → T17 → T18 → T19 → T20 → T21 → T22 → T23 → T24 → T25 → T26 → T27 → T28 → T29 → T30 → T31 → T32 → T33 → T34 → T35 → T36 → T37 → T38 → T39 → T40 → T41 → T42 → T43 → T44 → T45 → T46 → T47 → T48 → T49 → T50 → T51 → T52 → T53 → T54 → T55 → T56 → T57 → T58 → Z} : tp58 (x1, x2, x3, x4, x5, x6, x7, x8, x9, x10, x11, x12, x13, x14, x15, x16, x17, x18, x19, x20, x21, x22, x23, x24, x25, x26, x27, x28, x29, x30, x31, x32, x33, x34, x35, x36, x37, x38, x39, x40, x41, x42, x43, x44, x45, x46, x47, x48, x49, x50, x51, x52, x53, x54, x55, x56, x57, x58) f = f x1 x2 x3 x4 x5 x6 x7 x8 x9 x10 x11 x12 x13 x14 x15 x16 x17 x18 x19 x20 x21 x22 x23 x24 x25 x26 x27 x28 x29 x30 x31 x32 x33 x34 x35 x36 x37 x38 x39 x40 x41 x42 x43 x44 x45 x46 x47 x48 x49 x50 x51 x52 x53 x54 x55 x56 x57 x58 := rfl
theorem tp59_mk {T1 T2 T3 T4 T5 T6 T7 T8 T9 T10 T11 T12 T13 T14 T15 T16 T17 T18 T19 T20 T21 T22 T23 T24 T25 T26 T27 T28 T29 T30 T31 T32 T33 T34 T35 T36 T37 T38 T39 T40 T41 T42 T43 T44 T45 T46 T47 T48 T49 T50 T51 T52 T53 T54 T55 T56 T57 T58 T59 Z : Type} {x1 : T1} {x2 : T2} {x3 : T3} {x4 : T4} {x5 : T5} {x6 : T6} {x7 : T7} {x8 : T8} {x9 : T9} {x10 : T10} {x11 : T11} {x12 : T12} {x13 : T13} {x14 : T14} {x15 : T15} {x16 : T16} {x17 : T17} {x18 : T18} {x19 : T19} {x20 : T20} {x21 : T21} {x22 : T22} {x23 : T23} {x24 : T24} {x25 : T25} {x26 : T26} {x27 : T27} {x28 : T28} {x29 : T29} {x30 : T30} {x31 : T31} {x32 : T32} {x33 : T33} {x34 : T34} {x35 : T35} {x36 : T36} {x37 : T37} {x38 : T38} {x39 : T39} {x40 : T40} {x41 : T41} {x42 : T42} {x43 : T43} {x44 : T44} {x45 : T45} {x46 : T46} {x47 : T47} {x48 : T48} {x49 : T49} {x50 : T50} {x51 : T51} {x52 : T52} {x53 : T53} {x54 : T54} {x55 : T55} {x56 : T56} {x57 : T57} {x58 : T58} {x59 : T59} {f : T1 → T2 → T3 → T4 → T5 → T6 → T7 → T8 → T9 → T10 → T11 → T12 → T13 → T14 → T15 → T16 → T17 → T18 → T19 → T20 → T21 → T22 → T23 → T24 → T25 → T26 → T27 → T28 → T29 → T30 → T31 → T32 → T33 → T34 → T35 → T36 → T37 → T38 → T39 → T40 → T41 → T42 → T43 → T44 → T45 → T46 → T47 → T48 → T49 → T50 → T51 → T52 → T53 → T54 → T55 → T56 → T57 → T58 → T59 → Z} : tp59 (x1, x2, x3, x4, x5, x6, x7, x8, x9, x10, x11, x12, x13, x14, x15, x16, x17, x18, x19, x20, x21, x22, x23, x24, x25, x26, x27, x28, x29, x30, x31, x32, x33, x34, x35, x36, x37, x38, x39, x40, x41, x42, x43, x44, x45, x46, x47, x48, x49, x50, x51, x52, x53, x54, x55, x56, x57, x58, x59) f = f x1 x2 x3 x4 x5 x6 x7 x8 x9 x10 x11 x12 x13 x14 x15 x16 x17 x18 x19 x20 x21 x22 x23 x24 x25 x26 x27 x28 x29 x30 x31 x32 x33 x34 x35 x36 x37 x38 x39 x40 x41 x42 x43 x44 x45 x46 x47 x48 x49 x50 x51 x52 x53 x54 x55 x56 x57 x58 x59 := rfl
theorem tp60_mk {T1 T2 T3 T4 T5 T6 T7 T8 T9 T10 T11 T12 T13 T14 T15 T16 T17 T18 T19 T20 T21 T22 T23 T24 T25 T26 T27 T28 T29 T30 T31 T32 T33 T34 T35 T36 T37 T38 T39 T40 T41 T42 T43 T44 T45 T46 T47 T48 T49 T50 T51 T52 T53 T54 T55 T56 T57 T58 T59 T60 Z : Type} {x1 : T1} {x2 : T2} {x3 : T3} {x4 : T4} {x5 : T5} {x6 : T6} {x7 : T7} {x8 : T8} {x9 : T9} {x10 : T10} {x11 : T11} {x12 : T12} {x13 : T13} {x14 : T14} {x15 : T15} {x16 : T16} {x17 : T17} {x18 : T18} {x19 : T19} {x20 : T20} {x21 : T21} {x22 : T22} {x23 : T23} {x24 : T24} {x25 : T25} {x26 : T26} {x27 : T27} {x28 : T28} {x29 : T29} {x30 : T30} {x31 : T31} {x32 : T32} {x33 : T33} {x34 : T34} {x35 : T35} {x36 : T36} {x37 : T37} {x38 : T38} {x39 : T39} {x40 : T40} {x41 : T41} {x42 : T42} {x43 : T43} {x44 : T44} {x45 : T45} {x46 : T46} {x47 : T47} {x48 : T48} {x49 : T49} {x50 : T50} {x51 : T51} {x52 : T52} {x53 : T53} {x54 : T54} {x55 : T55} {x56 : T56} {x57 : T57} {x58 : T58} {x59 : T59} {x60 : T60} {f : T1 → T2 → T3 → T4 → T5 → T6 → T7 → T8 → T9 → T10 → T11 → T12 → T13 → T14 → T15 → T16 → T17 → T18 → T19 → T20 → T21 → T22 → T23 → T24 → T25 → T26 → T27 → T28 → T29 → T30 → T31 → T32 → T33 → T34 → T35 → T36 → T37 → T38 → T39 → T40 → T41 → T42 → T43 → T44 → T45 → T46 → T47 → T48 → T49 → T50 → T51 → T52 → T53 → T54 → T55 → T56 → T57 → T58 → T59 → T60 → Z} : tp60 (x1, x2, x3, x4, x5, x6, x7, x8, x9, x10, x11, x12, x13, x14, x15, x16, x17, x18, x19, x20, x21, x22, x23, x24, x25, x26, x27, x28, x29, x30, x31, x32, x33, x34, x35, x36, x37, x38, x39, x40, x41, x42, x43, x44, x45, x46, x47, x48, x49, x50, x51, x52, x53, x54, x55, x56, x57, x58, x59, x60) f = f x1 x2 x3 x4 x5 x6 x7 x8 x9 x10 x11 x12 x13 x14 x15 x16 x17 x18 x19 x20 x21 x22 x23 x24 x25 x26 x27 x28 x29 x30 x31 x32 x33 x34 x35 x36 x37 x38 x39 x40 x41 x42 x43 x44 x45 x46 x47 x48 x49 x50 x51 x52 x53 x54 x55 x56 x57 x58 x59 x60 := rfl
theorem tp61_mk {T1 T2 T3 T4 T5 T6 T7 T8 T9 T10 T11 T12 T13 T14 T15 T16 T17 T18 T19 T20 T21 T22 T23 T24 T25 T26 T27 T28 T29 T30 T31 T32 T33 T34 T35 T36 T37 T38 T39 T40 T41 T42 T43 T44 T45 T46 T47 T48 T49 T50 T51 T52 T53 T54 T55 T56 T57 T58 T59 T60 T61 Z : Type} {x1 : T1} {x2 : T2} {x3 : T3} {x4 : T4} {x5 : T5} {x6 : T6} {x7 : T7} {x8 : T8} {x9 : T9} {x10 : T10} {x11 : T11} {x12 : T12} {x13 : T13} {x14 : T14} {x15 : T15} {x16 : T16} {x17 : T17} {x18 : T18} {x19 : T19} {x20 : T20} {x21 : T21} {x22 : T22} {x23 : T23} {x24 : T24} {x25 : T25} {x26 : T26} {x27 : T27} {x28 : T28} {x29 : T29} {x30 : T30} {x31 : T31} {x32 : T32} {x33 : T33} {x34 : T34} {x35 : T35} {x36 : T36} {x37 : T37} {x38 : T38} {x39 : T39} {x40 : T40} {x41 : T41} {x42 : T42} {x43 : T43} {x44 : T44} {x45 : T45} {x46 : T46} {x47 : T47} {x48 : T48} {x49 : T49} {x50 : T50} {x51 : T51} {x52 : T52} {x53 : T53} {x54 : T54} {x55 : T55} {x56 : T56} {x57 : T57} {x58 : T58} {x59 : T59} {x60 : T60} {x61 : T61} {f : T1 → T2 → T3 → T4 → T5 → T6 → T7 → T8 → T9 → T10 → T11 → T12 → T13 → T14 → T15 → T16 → T17 → T18 → T19 → T20 → T21 → T22 → T23 → T24 → T25 → T26 → T27 → T28 → T29 → T30 → T31 → T32 → T33 → T34 → T35 → T36 → T37 → T38 → T39 → T40 → T41 → T42 → T43 → T44 → T45 → T46 → T47 → T48 → T49 → T50 → T51 → T52 → T53 → T54 → T55 → T56 → T57 → T58 → T59 → T60 → T61 → Z} : tp61 (x1, x2, x3, x4, x5, x6, x7, x8, x9, x10, x11, x12, x13, x14, x15, x16, x17, x18, x19, x20, x21, x22, x23, x24, x25, x26, x27, x28, x29, x30, x31, x32, x33, x34, x35, x36, x37, x38, x39, x40, x41, x42, x43, x44, x45, x46, x47, x48, x49, x50, x51, x52, x53, x54, x55, x56, x57, x58, x59, x60, x61) f = f x1 x2 x3 x4 x5 x6 x7 x8 x9 x10 x11 x12 x13 x14 x15 x16 x17 x18 x19 x20 x21 x22 x23 x24 x25 x26 x27 x28 x29 x30 x31 x32 x33 x34 x35 x36 x37 x38 x39 x40 x41 x42 x43 x44 x45 x46 x47 x48 x49 x50 x51 x52 x53 x54 x55 x56 x57 x58 x59 x60 x61 := rfl
theorem tp62_mk {T1 T2 T3 T4 T5 T6 T7 T8 T9 T10 T11 T12 T13 T14 T15 T16 T17 T18 T19 T20 T21 T22 T23 T24 T25 T26 T27 T28 T29 T30 T31 T32 T33 T34 T35 T36 T37 T38 T39 T40 T41 T42 T43 T44 T45 T46 T47 T48 T49 T50 T51 T52 T53 T54 T55 T56 T57 T58 T59 T60 T61 T62 Z : Type} {x1 : T1} {x2 : T2} {x3 : T3} {x4 : T4} {x5 : T5} {x6 : T6} {x7 : T7} {x8 : T8} {x9 : T9} {x10 : T10} {x11 : T11} {x12 : T12} {x13 : T13} {x14 : T14} {x15 : T15} {x16 : T16} {x17 : T17} {x18 : T18} {x19 : T19} {x20 : T20} {x21 : T21} {x22 : T22} {x23 : T23} {x24 : T24} {x25 : T25} {x26 : T26} {x27 : T27} {x28 : T28} {x29 : T29} {x30 : T30} {x31 : T31} {x32 : T32} {x33 : T33} {x34 : T34} {x35 : T35} {x36 : T36} {x37 : T37} {x38 : T38} {x39 : T39} {x40 : T40} {x41 : T41} {x42 : T42} {x43 : T43} {x44 : T44} {x45 : T45} {x46 : T46} {x47 : T47} {x48 : T48} {x49 : T49} {x50 : T50} {x51 : T51} {x52 : T52} {x53 : T53} {x54 : T54} {x55 : T55} {x56 : T56} {x57 : T57} {x58 : T58} {x59 : T59} {x60 : T60} {x61 : T61} {x62 : T62} {f : T1 → T2 → T3 → T4 → T5 → T6 → T7 → T8 → T9 → T10 → T11 → T12 → T13 → T14 → T15 → T16 → T17 → T18 → T19 → T20 → T21 → T22 → T23 → T24 → T25 → T26 → T27 → T28 → T29 → T30 → T31 → T32 → T33 → T34 → T35 → T36 → T37 → T38 → T39 → T40 → T41 → T42 → T43 → T44 → T45 → T46 → T47 → T48 → T49 → T50 → T51 → T52 → T53 → T54 → T55 → T56 → T57 → T58 → T59 → T60 → T61 → T62 → Z} : tp62 (x1, x2, x3, x4, x5, x6, x7, x8, x9, x10, x11, x12, x13, x14, x15, x16, x17, x18, x19, x20, x21, x22, x23, x24, x25, x26, x27, x28, x29, x30, x31, x32, x33, x34, x35, x36, x37, x38, x39, x40, x41, x42, x43, x44, x45, x46, x47, x48, x49, x50, x51, x52, x53, x54, x55, x56, x57, x58, x59, x60, x61, x62) f = f x1 x2 x3 x4 x5 x6 x7 x8 x9 x10 x11 x12 x13 x14 x15 x16 x17 x18 x19 x20 x21 x22 x23 x24 x25 x26 x27 x28 x29 x30 x31 x32 x33 x34 x35 x36 x37 x38 x39 x40 x41 x42 x43 x44 x45 x46 x47 x48 x49 x50 x51 x52 x53 x54 x55 x56 x57 x58 x59 x60 x61 x62 := rfl

theorem lp_d8 {x : Int32} {n : Nat} (hm : (x.toInt + 8).toNat < n + 1) (c : ¬ x < 0) : ((x + (-8)).toInt + 8).toNat < n := by
  have a := i_nn c
  have y : (-8 : Int32).toInt = -8 := rfl
  have e : (x + (-8)).toInt = x.toInt + (-8 : Int32).toInt := i_add (by omega) (by have := Int32.toInt_lt x; omega)
  omega
theorem kc_JM_minl : Cond.code Lib.MathLoose.min_long.x Lib.MathLoose.min_long.code 4 (some .long) ∈ lw_g := lw_gm (by decide +kernel) rfl

abbrev wd_PB_feedNumber (aT aS aC aY aH aU aZ aX aB : Nat) (cB cI : ClassId) (onT : Int32) (b : Nat → UInt8) : va_W := [(aT, .inr (10, [.ref aS, .ref aC, .ref aY, .ref aH, .ref aU, .ref aZ, .ref aX, .int onT])), (aS, .inr (0, [.ref aB])), (aB, .inl (cB, 202000, .inl (by_ b)))]
set_option maxHeartbeats 4000000 in
set_option maxRecDepth 100000 in
theorem l_PB_feedNumber_h3 {p : Program} {e : Env} {s : State} {m : MethodId} {args : Array Value} {below : List Frame} {meth : Method} {c : Code} {V : Int32 × (Nat → UInt8)} (C0 : lc_C p s m meth c args b_PB_feedNumber 3 none R_PB lw_g) (l : Launch) (D : va_G) (cB cI : ClassId) (aT aS aC aY aH aU aZ aX aB : Nat) {A : Nat → Prop} (hk : hk_ D cB cI s) (hA : ∀ q : Nat, s.heap.size ≤ q → A q) (p0 : Int32) : ∀ (n : Nat) (x2 : Int32) (onT : Int32) (b : Nat → UInt8), (x2.toInt + 8).toNat < n → V = tw_PB_feedNumber_h3 p0 n x2 onT b → ∀ (H : Heap) (locs : List Loc), va_P D vwCl [(aT, .inr (10, [.ref aS, .ref aC, .ref aY, .ref aH, .ref aU, .ref aZ, .ref aX, .int onT])), (aS, .inr (0, [.ref aB])), (aB, .inl (cB, 202000, .inl (by_ b)))] H → va_D A [(aT, .inr (10, [.ref aS, .ref aC, .ref aY, .ref aH, .ref aU, .ref aZ, .ref aX, .int onT])), (aS, .inr (0, [.ref aB])), (aB, .inl (cB, 202000, .inl (by_ b)))] → va_S A s.heap H locs → ∀ ls : Array Slot, lv_has ls 3 [(0, .ref aT), (1, .int p0), (2, .int x2)] → W p l e ({ frames := 1, cells := 0, slots := 0, locals := 22 }) s m args below meth c H locs 0 0 (MQ below (va_Qv (fun (u : Int32 × (Nat → UInt8)) => u = V) (mt_B D A (fun u => wd_PB_feedNumber aT aS aC aY aH aU aZ aX aB cB cI u.1 u.2)) A) args s 0 0 A) (F0 m 3 ls []) := by
  obtain ⟨hx, hb, hml, hr, hown, hlocks, hT⟩ := id C0
  have hK := hk.1
  have hN := hk.2.1
  intro n
  induction n with
  | zero =>
    intro x2 onT b hm
    exact absurd hm (Nat.not_lt_zero _)
  | succ n ih =>
    intro x2 onT b hm hV H locs hP hD hS ls hl
    refine lv_iload_n hx hb d_PB_feedNumber_3 rfl (lv_at hl 2 rfl) ?_
    refine lv_if_lt (tgt := 39) hx hb d_PB_feedNumber_4 (by decide) (fun c_1 => ?_) (fun c_1 => ?_)
    · exact W.vret hx hb hr (fun t ht hW => ⟨⟨(onT, b), rfl, (by rw [hV, tw_PB_feedNumber_h3, if_pos c_1]; first | done | rfl), by rw [ht]; exact hP, hD⟩, hS.F ht⟩) hS.2.2 d_PB_feedNumber_39
    · refine lv_aload_n hx hb d_PB_feedNumber_7 rfl (lv_at hl 0 rfl) ?_
      refine va_get (D := D) (ci := 10) (v := .ref aS) (C := R_PB) (T := T_PB) (N := 8) hx hb hT u_PB hown hK hP 0 rfl rfl 0 (by decide) (hT _ k_316) (fun _ h9 => h9) rfl d_PB_feedNumber_8 ?_
      refine lv_iconst (v := 0) hx hb d_PB_feedNumber_11 (by decide) ?_
      refine lv_aload_n hx hb d_PB_feedNumber_12 rfl (lv_at hl 0 rfl) ?_
      refine va_get (D := D) (ci := 10) (v := .int onT) (C := R_PB) (T := T_PB) (N := 8) hx hb hT u_PB hown hK hP 0 rfl rfl 7 (by decide) (hT _ k_323) (fun _ h9 => h9) rfl d_PB_feedNumber_13 ?_
      refine lv_iadd hx hb d_PB_feedNumber_16 ?_
      refine lv_iload_n hx hb d_PB_feedNumber_17 rfl (lv_at hl 1 rfl) ?_
      refine lv_iload_n hx hb d_PB_feedNumber_18 rfl (lv_at hl 2 rfl) ?_
      refine lv_ishr hx hb d_PB_feedNumber_19 ?_
      refine mt_Vv (As := [.int (0 + onT), .int (p0 >>> (x2 &&& 31))]) (rest := []) (wr := [(aT, .inr (10, [.ref aS, .ref aC, .ref aY, .ref aH, .ref aU, .ref aZ, .ref aX, .int onT]))]) ⟨hx, hb, hml, hown, hT⟩ (c_ST_write l D cB cI aS aB _ b (0 + onT) (p0 >>> (x2 &&& 31))) (cwV 2 hT (gV_of k_349 k_350 k_351 k_2 kc_ST_write) rfl rfl rfl hd_ST_write ⟨Nat.le_of_ble_eq_true rfl, Nat.le_of_ble_eq_true rfl⟩) hk hP hD hS hA [1, 2] [0] rfl rfl rfl (by decide) (by decide) (by decide) (q0 := 0) rfl rfl rfl rfl hl.1 rfl (Nat.le_of_ble_eq_true rfl) d_PB_feedNumber_20 ⟨Nat.zero_le _, Nat.zero_le _⟩ (fun u_2 H locs hw_2 hP hD hS => ?_)
      obtain ⟨b_2, rfl⟩ : ∃ z, z = u_2 := ⟨_, rfl⟩
      have hP : va_P D vwCl [(aT, .inr (10, [.ref aS, .ref aC, .ref aY, .ref aH, .ref aU, .ref aZ, .ref aX, .int onT])), (aS, .inr (0, [.ref aB])), (aB, .inl (cB, 202000, .inl (by_ b_2)))] H := hP.sub [0, 1, 2] rfl
      have hD : va_D A [(aT, .inr (10, [.ref aS, .ref aC, .ref aY, .ref aH, .ref aU, .ref aZ, .ref aX, .int onT])), (aS, .inr (0, [.ref aB])), (aB, .inl (cB, 202000, .inl (by_ b_2)))] := hD.sub [0, 1, 2] (by decide) rfl
      refine lv_aload_n hx hb d_PB_feedNumber_23 rfl (lv_at hl 0 rfl) ?_
      refine lv_dup hx hb d_PB_feedNumber_24 rfl ?_
      refine va_get (D := D) (ci := 10) (v := .int onT) (C := R_PB) (T := T_PB) (N := 8) hx hb hT u_PB hown hK hP 0 rfl rfl 7 (by decide) (hT _ k_323) (fun _ h9 => h9) rfl d_PB_feedNumber_25 ?_
      refine lv_iconst (v := 1) hx hb d_PB_feedNumber_28 (by decide) ?_
      refine lv_iadd hx hb d_PB_feedNumber_29 ?_
      refine va_put (D := D) (ci := 10) (v := .int (onT + 1)) (ty := .int) (C := R_PB) (T := T_PB) (N := 8) hx hb hT u_PB ty_PB tyok_PB nm_PB hown hK hP hD hS 0 rfl rfl 7 (by decide) (hT _ k_323) (fun _ h9 => h9) rfl (by decide +kernel) (rfl) (rfl) (Nat.le_of_ble_eq_true rfl) d_PB_feedNumber_30 (fun H locs hP hD hS => ?_)
      have hP : va_P D vwCl [(aT, .inr (10, [.ref aS, .ref aC, .ref aY, .ref aH, .ref aU, .ref aZ, .ref aX, .int (onT + 1)])), (aS, .inr (0, [.ref aB])), (aB, .inl (cB, 202000, .inl (by_ b_2)))] H := hP
      have hD : va_D A [(aT, .inr (10, [.ref aS, .ref aC, .ref aY, .ref aH, .ref aU, .ref aZ, .ref aX, .int (onT + 1)])), (aS, .inr (0, [.ref aB])), (aB, .inl (cB, 202000, .inl (by_ b_2)))] := hD
      refine lv_iinc (v := x2 + (-8)) (lv' := [(2, .int (x2 + (-8))), (0, .ref aT), (1, .int p0)]) hx hb d_PB_feedNumber_33 hl (k := 2) rfl rfl (by decide) rfl (fun ls hl => ?_)
      refine lv_goto (tgt := 3) hx hb d_PB_feedNumber_36 (by decide) ?_
      exact ih (x2 + (-8)) (onT + 1) b_2 (lp_d8 hm c_1) (by rw [hV, tw_PB_feedNumber_h3, if_neg c_1, ← hw_2, tp1_mk]) _ _ hP hD hS ls (lv_sub hl [1, 2, 0] rfl)
set_option maxHeartbeats 4000000 in
set_option maxRecDepth 100000 in
theorem c_PB_feedNumber (l : Launch) (D : va_G) (cB cI : ClassId) (aT aS aC aY aH aU aZ aX aB : Nat) (sz : Nat) (onT : Int32) (b : Nat → UInt8) (p0 : Int32) : Met l y_PB_feedNumber mw_PB_feedNumber { frames := 1, cells := 0, slots := 0, locals := 22 } (va_Pc [.ref aT, .int p0] (mt_P D cB cI (wd_PB_feedNumber aT aS aC aY aH aU aZ aX aB cB cI onT b) sz)) (va_Qv (fun (u : Int32 × (Nat → UInt8)) => u = tw_PB_feedNumber onT b p0) (mt_B D (va_A (wd_PB_feedNumber aT aS aC aY aH aU aZ aX aB cB cI onT b) sz) (fun u => wd_PB_feedNumber aT aS aC aY aH aU aZ aX aB cB cI u.1 u.2)) (va_A (wd_PB_feedNumber aT aS aC aY aH aU aZ aX aB cB cI onT b) sz)) 0 0 (va_A (wd_PB_feedNumber aT aS aC aY aH aU aZ aX aB cB cI onT b) sz) := by
  refine Met.ofW (cc := b_PB_feedNumber) (maxL := 3) (ret := none) (by decide) rfl ?_
  intro p e s m args below meth c s₁ B0 hml hv
  obtain ⟨rfl, hsz, hP, hk, hD0⟩ := hv
  have hK := hk.1
  have hN := hk.2.1
  have hx := B0.exec
  have hb := B0.bytes
  have hr := B0.returns
  have hT : ∀ w ∈ lw_g, w.before _ s = true := fun w h => atoms_spec (ws := mw_PB_feedNumber) B0.pre w (List.mem_cons_of_mem _ h)
  have hown : s.vm.findClass R_PB = some m.cls := findClass_of_methodNamed B0.named
  have hlocks := B0.notSynchronized
  subst hsz
  have hD := hD0.self (sz := s.heap.size)
  generalize hAe : va_A [(aT, .inr (10, [.ref aS, .ref aC, .ref aY, .ref aH, .ref aU, .ref aZ, .ref aX, .int onT])), (aS, .inr (0, [.ref aB])), (aB, .inl (cB, 202000, .inl (by_ b)))] s.heap.size = A at hD ⊢
  have hA : ∀ q : Nat, s.heap.size ≤ q → A q := fun q h => by rw [← hAe]; exact Or.inr h
  have hS : va_S A s.heap s.heap [] := va_S.rf
  have hl := lv_entry ([.ref aT, .int p0]) (n := 3) (Nat.le_of_ble_eq_true rfl)
  rw [lg_entry_eq]
  generalize (lg_sl ([.ref aT, .int p0]) ++ List.replicate (3 - (lg_sl ([.ref aT, .int p0])).length) Slot.unset).toArray = ls at hl ⊢
  have hl : lv_has ls 3 [(0, .ref aT), (1, .int p0)] := hl
  have C0 : lc_C p s m meth c _ b_PB_feedNumber 3 none R_PB lw_g := ⟨hx, hb, hml, hr, hown, hlocks, hT⟩
  refine lv_bipush (v := 24) hx hb d_PB_feedNumber_0 (by decide) ?_
  refine lv_istore_n (lv' := [(2, .int 24), (0, .ref aT), (1, .int p0)]) hx hb d_PB_feedNumber_2 rfl hl (by decide) rfl (fun ls hl => ?_)
  exact l_PB_feedNumber_h3 C0 l D cB cI aT aS aC aY aH aU aZ aX aB hk hA p0  ((((24 : Int32).toInt + 8).toNat) + 1) 24 onT b (Nat.lt_succ_self _) (by rw [tw_PB_feedNumber]) _ _ hP hD hS ls (lv_sub hl [1, 2, 0] rfl)
abbrev wd_PB_feed (aT aS aC aY aH aU aZ aX aB : Nat) (cB cI : ClassId) (onT : Int32) (b : Nat → UInt8) : va_W := [(aT, .inr (10, [.ref aS, .ref aC, .ref aY, .ref aH, .ref aU, .ref aZ, .ref aX, .int onT])), (aS, .inr (0, [.ref aB])), (aB, .inl (cB, 202000, .inl (by_ b)))]
set_option maxHeartbeats 4000000 in
set_option maxRecDepth 100000 in
theorem c_PB_feed (l : Launch) (D : va_G) (cB cI : ClassId) (aT aS aC aY aH aU aZ aX aB : Nat) (sz : Nat) (onT : Int32) (b : Nat → UInt8) (p0 : Int32) (p1 : Int32) (p2 : Int32) (p3 : Int32) (p4 : Int32) : Met l y_PB_feed mw_PB_feed { frames := 2, cells := 0, slots := 0, locals := 44 } (va_Pc [.ref aT, .int p0, .int p1, .int p2, .int p3, .int p4] (mt_P D cB cI (wd_PB_feed aT aS aC aY aH aU aZ aX aB cB cI onT b) sz)) (va_Qi (fun (r : Int32) (u : Int32 × (Nat → UInt8)) => (r, u) = tw_PB_feed onT b p0 p1 p2 p3 p4) (mt_B D (va_A (wd_PB_feed aT aS aC aY aH aU aZ aX aB cB cI onT b) sz) (fun u => wd_PB_feed aT aS aC aY aH aU aZ aX aB cB cI u.1 u.2)) (va_A (wd_PB_feed aT aS aC aY aH aU aZ aX aB cB cI onT b) sz)) 0 0 (va_A (wd_PB_feed aT aS aC aY aH aU aZ aX aB cB cI onT b) sz) := by
  refine Met.ofW (cc := b_PB_feed) (maxL := 6) (ret := (some .int)) (by decide) rfl ?_
  intro p e s m args below meth c s₁ B0 hml hv
  obtain ⟨rfl, hsz, hP, hk, hD0⟩ := hv
  have hK := hk.1
  have hN := hk.2.1
  have hx := B0.exec
  have hb := B0.bytes
  have hr := B0.returns
  have hT : ∀ w ∈ lw_g, w.before _ s = true := fun w h => atoms_spec (ws := mw_PB_feed) B0.pre w (List.mem_cons_of_mem _ h)
  have hown : s.vm.findClass R_PB = some m.cls := findClass_of_methodNamed B0.named
  have hlocks := B0.notSynchronized
  subst hsz
  have hD := hD0.self (sz := s.heap.size)
  generalize hAe : va_A [(aT, .inr (10, [.ref aS, .ref aC, .ref aY, .ref aH, .ref aU, .ref aZ, .ref aX, .int onT])), (aS, .inr (0, [.ref aB])), (aB, .inl (cB, 202000, .inl (by_ b)))] s.heap.size = A at hD ⊢
  have hA : ∀ q : Nat, s.heap.size ≤ q → A q := fun q h => by rw [← hAe]; exact Or.inr h
  have hS : va_S A s.heap s.heap [] := va_S.rf
  have hl := lv_entry ([.ref aT, .int p0, .int p1, .int p2, .int p3, .int p4]) (n := 6) (Nat.le_of_ble_eq_true rfl)
  rw [lg_entry_eq]
  generalize (lg_sl ([.ref aT, .int p0, .int p1, .int p2, .int p3, .int p4]) ++ List.replicate (6 - (lg_sl ([.ref aT, .int p0, .int p1, .int p2, .int p3, .int p4])).length) Slot.unset).toArray = ls at hl ⊢
  have hl : lv_has ls 6 [(0, .ref aT), (1, .int p0), (2, .int p1), (3, .int p2), (4, .int p3), (5, .int p4)] := hl
  refine lv_aload_n hx hb d_PB_feed_0 rfl (lv_at hl 0 rfl) ?_
  refine va_get (D := D) (ci := 10) (v := .int onT) (C := R_PB) (T := T_PB) (N := 8) hx hb hT u_PB hown hK hP 0 rfl rfl 7 (by decide) (hT _ k_323) (fun _ h9 => h9) rfl d_PB_feed_1 ?_
  refine lv_bipush (v := 20) hx hb d_PB_feed_4 (by decide) ?_
  refine lv_iadd hx hb d_PB_feed_6 ?_
  refine lv_sipush (v := 2000) hx hb d_PB_feed_7 (by decide) ?_
  refine lv_icmp_le (tgt := 15) hx hb d_PB_feed_10 (by decide) (fun c_1 => ?_) (fun c_1 => ?_)
  · refine lv_aload_n hx hb d_PB_feed_15 rfl (lv_at hl 0 rfl) ?_
    refine lv_iload_n hx hb d_PB_feed_16 rfl (lv_at hl 1 rfl) ?_
    refine mt_Vv (As := [.int p0]) (rest := []) (wr := []) ⟨hx, hb, hml, hown, hT⟩ (c_PB_feedNumber l D cB cI aT aS aC aY aH aU aZ aX aB _ onT b p0) (cwV 1 hT (gV_of k_345 k_347 kp_PB_feedNumber k_1 kc_PB_feedNumber) rfl rfl rfl hd_PB_feedNumber ⟨Nat.le_of_ble_eq_true rfl, Nat.le_of_ble_eq_true rfl⟩) hk hP hD hS hA [0, 1, 2] [] rfl rfl rfl (by decide) (by decide) (by decide) (q0 := 0) rfl rfl rfl rfl hl.1 rfl (Nat.le_of_ble_eq_true rfl) d_PB_feed_17 ⟨Nat.zero_le _, Nat.zero_le _⟩ (fun u_2 H locs hw_2 hP hD hS => ?_)
    obtain ⟨onT_2, b_2⟩ := u_2
    have hP : va_P D vwCl [(aT, .inr (10, [.ref aS, .ref aC, .ref aY, .ref aH, .ref aU, .ref aZ, .ref aX, .int onT_2])), (aS, .inr (0, [.ref aB])), (aB, .inl (cB, 202000, .inl (by_ b_2)))] H := hP.sub [0, 1, 2] rfl
    have hD : va_D A [(aT, .inr (10, [.ref aS, .ref aC, .ref aY, .ref aH, .ref aU, .ref aZ, .ref aX, .int onT_2])), (aS, .inr (0, [.ref aB])), (aB, .inl (cB, 202000, .inl (by_ b_2)))] := hD.sub [0, 1, 2] (by decide) rfl
    refine lv_aload_n hx hb d_PB_feed_20 rfl (lv_at hl 0 rfl) ?_
    refine lv_iload_n hx hb d_PB_feed_21 rfl (lv_at hl 2 rfl) ?_
    refine mt_Vv (As := [.int p1]) (rest := []) (wr := []) ⟨hx, hb, hml, hown, hT⟩ (c_PB_feedNumber l D cB cI aT aS aC aY aH aU aZ aX aB _ onT_2 b_2 p1) (cwV 1 hT (gV_of k_345 k_347 kp_PB_feedNumber k_1 kc_PB_feedNumber) rfl rfl rfl hd_PB_feedNumber ⟨Nat.le_of_ble_eq_true rfl, Nat.le_of_ble_eq_true rfl⟩) hk hP hD hS hA [0, 1, 2] [] rfl rfl rfl (by decide) (by decide) (by decide) (q0 := 0) rfl rfl rfl rfl hl.1 rfl (Nat.le_of_ble_eq_true rfl) d_PB_feed_22 ⟨Nat.zero_le _, Nat.zero_le _⟩ (fun u_3 H locs hw_3 hP hD hS => ?_)
    obtain ⟨onT_3, b_3⟩ := u_3
    have hP : va_P D vwCl [(aT, .inr (10, [.ref aS, .ref aC, .ref aY, .ref aH, .ref aU, .ref aZ, .ref aX, .int onT_3])), (aS, .inr (0, [.ref aB])), (aB, .inl (cB, 202000, .inl (by_ b_3)))] H := hP.sub [0, 1, 2] rfl
    have hD : va_D A [(aT, .inr (10, [.ref aS, .ref aC, .ref aY, .ref aH, .ref aU, .ref aZ, .ref aX, .int onT_3])), (aS, .inr (0, [.ref aB])), (aB, .inl (cB, 202000, .inl (by_ b_3)))] := hD.sub [0, 1, 2] (by decide) rfl
    refine lv_aload_n hx hb d_PB_feed_25 rfl (lv_at hl 0 rfl) ?_
    refine lv_iload_n hx hb d_PB_feed_26 rfl (lv_at hl 3 rfl) ?_
    refine mt_Vv (As := [.int p2]) (rest := []) (wr := []) ⟨hx, hb, hml, hown, hT⟩ (c_PB_feedNumber l D cB cI aT aS aC aY aH aU aZ aX aB _ onT_3 b_3 p2) (cwV 1 hT (gV_of k_345 k_347 kp_PB_feedNumber k_1 kc_PB_feedNumber) rfl rfl rfl hd_PB_feedNumber ⟨Nat.le_of_ble_eq_true rfl, Nat.le_of_ble_eq_true rfl⟩) hk hP hD hS hA [0, 1, 2] [] rfl rfl rfl (by decide) (by decide) (by decide) (q0 := 0) rfl rfl rfl rfl hl.1 rfl (Nat.le_of_ble_eq_true rfl) d_PB_feed_27 ⟨Nat.zero_le _, Nat.zero_le _⟩ (fun u_4 H locs hw_4 hP hD hS => ?_)
    obtain ⟨onT_4, b_4⟩ := u_4
    have hP : va_P D vwCl [(aT, .inr (10, [.ref aS, .ref aC, .ref aY, .ref aH, .ref aU, .ref aZ, .ref aX, .int onT_4])), (aS, .inr (0, [.ref aB])), (aB, .inl (cB, 202000, .inl (by_ b_4)))] H := hP.sub [0, 1, 2] rfl
    have hD : va_D A [(aT, .inr (10, [.ref aS, .ref aC, .ref aY, .ref aH, .ref aU, .ref aZ, .ref aX, .int onT_4])), (aS, .inr (0, [.ref aB])), (aB, .inl (cB, 202000, .inl (by_ b_4)))] := hD.sub [0, 1, 2] (by decide) rfl
    refine lv_aload_n hx hb d_PB_feed_30 rfl (lv_at hl 0 rfl) ?_
    refine lv_iload hx hb d_PB_feed_31 (lv_at hl 4 rfl) ?_
    refine mt_Vv (As := [.int p3]) (rest := []) (wr := []) ⟨hx, hb, hml, hown, hT⟩ (c_PB_feedNumber l D cB cI aT aS aC aY aH aU aZ aX aB _ onT_4 b_4 p3) (cwV 1 hT (gV_of k_345 k_347 kp_PB_feedNumber k_1 kc_PB_feedNumber) rfl rfl rfl hd_PB_feedNumber ⟨Nat.le_of_ble_eq_true rfl, Nat.le_of_ble_eq_true rfl⟩) hk hP hD hS hA [0, 1, 2] [] rfl rfl rfl (by decide) (by decide) (by decide) (q0 := 0) rfl rfl rfl rfl hl.1 rfl (Nat.le_of_ble_eq_true rfl) d_PB_feed_33 ⟨Nat.zero_le _, Nat.zero_le _⟩ (fun u_5 H locs hw_5 hP hD hS => ?_)
    obtain ⟨onT_5, b_5⟩ := u_5
    have hP : va_P D vwCl [(aT, .inr (10, [.ref aS, .ref aC, .ref aY, .ref aH, .ref aU, .ref aZ, .ref aX, .int onT_5])), (aS, .inr (0, [.ref aB])), (aB, .inl (cB, 202000, .inl (by_ b_5)))] H := hP.sub [0, 1, 2] rfl
    have hD : va_D A [(aT, .inr (10, [.ref aS, .ref aC, .ref aY, .ref aH, .ref aU, .ref aZ, .ref aX, .int onT_5])), (aS, .inr (0, [.ref aB])), (aB, .inl (cB, 202000, .inl (by_ b_5)))] := hD.sub [0, 1, 2] (by decide) rfl
    refine lv_aload_n hx hb d_PB_feed_36 rfl (lv_at hl 0 rfl) ?_
    refine lv_iload hx hb d_PB_feed_37 (lv_at hl 5 rfl) ?_
    refine mt_Vv (As := [.int p4]) (rest := []) (wr := []) ⟨hx, hb, hml, hown, hT⟩ (c_PB_feedNumber l D cB cI aT aS aC aY aH aU aZ aX aB _ onT_5 b_5 p4) (cwV 1 hT (gV_of k_345 k_347 kp_PB_feedNumber k_1 kc_PB_feedNumber) rfl rfl rfl hd_PB_feedNumber ⟨Nat.le_of_ble_eq_true rfl, Nat.le_of_ble_eq_true rfl⟩) hk hP hD hS hA [0, 1, 2] [] rfl rfl rfl (by decide) (by decide) (by decide) (q0 := 0) rfl rfl rfl rfl hl.1 rfl (Nat.le_of_ble_eq_true rfl) d_PB_feed_39 ⟨Nat.zero_le _, Nat.zero_le _⟩ (fun u_6 H locs hw_6 hP hD hS => ?_)
    obtain ⟨onT_6, b_6⟩ := u_6
    have hP : va_P D vwCl [(aT, .inr (10, [.ref aS, .ref aC, .ref aY, .ref aH, .ref aU, .ref aZ, .ref aX, .int onT_6])), (aS, .inr (0, [.ref aB])), (aB, .inl (cB, 202000, .inl (by_ b_6)))] H := hP.sub [0, 1, 2] rfl
    have hD : va_D A [(aT, .inr (10, [.ref aS, .ref aC, .ref aY, .ref aH, .ref aU, .ref aZ, .ref aX, .int onT_6])), (aS, .inr (0, [.ref aB])), (aB, .inl (cB, 202000, .inl (by_ b_6)))] := hD.sub [0, 1, 2] (by decide) rfl
    refine lv_aload_n hx hb d_PB_feed_42 rfl (lv_at hl 0 rfl) ?_
    refine va_get (D := D) (ci := 10) (v := .int onT_6) (C := R_PB) (T := T_PB) (N := 8) hx hb hT u_PB hown hK hP 0 rfl rfl 7 (by decide) (hT _ k_323) (fun _ h9 => h9) rfl d_PB_feed_43 ?_
    exact W.iret (v := onT_6) hx hb hr (fun t ht hW => ⟨⟨onT_6, (onT_6, b_6), rfl, (by rw [tw_PB_feed, if_pos c_1, ← hw_2, tp2_mk, ← hw_3, tp2_mk, ← hw_4, tp2_mk, ← hw_5, tp2_mk, ← hw_6, tp2_mk]; first | done | rfl), by rw [ht]; exact hP, hD⟩, hS.F ht⟩) hS.2.2 d_PB_feed_46
  · refine lv_iconst (v := -1) hx hb d_PB_feed_13 (by decide) ?_
    exact W.iret (v := (-1)) hx hb hr (fun t ht hW => ⟨⟨(-1), (onT, b), rfl, (by rw [tw_PB_feed, if_neg c_1]; first | done | rfl), by rw [ht]; exact hP, hD⟩, hS.F ht⟩) hS.2.2 d_PB_feed_14
abbrev wd_PB_put (aT aS aC aY aH aU aZ aX aW aF aK aN aB aFs aKs : Nat) (cB cI : ClassId) (fbase : Int32) (kbase : Int32) (onT : Int32) (place : Int32) (limit : Int32) (full : Bool) (b : Nat → UInt8) (fcnt : Int32) (fsts : Nat → Int32) (kcnt : Int32) (ksts : Nat → Int32) : va_W := [(aT, .inr (10, [.ref aS, .ref aC, .ref aY, .ref aH, .ref aU, .ref aZ, .ref aX, .int onT])), (aC, .inr (4, [.ref aS])), (aY, .inr (3, [.ref aS, .ref aW, .ref aF, .ref aK, .ref aN])), (aW, .inr (1, [.ref aS, .int place, .int limit, .int (b2i full)])), (aS, .inr (0, [.ref aB])), (aB, .inl (cB, 202000, .inl (by_ b))), (aF, .inr (2, [.int fbase, .ref aFs, .int fcnt])), (aFs, .inl (cI, 201, .inl fsts)), (aK, .inr (2, [.int kbase, .ref aKs, .int kcnt])), (aKs, .inl (cI, 201, .inl ksts))]
set_option maxHeartbeats 4000000 in
set_option maxRecDepth 100000 in
theorem c_PB_put (l : Launch) (D : va_G) (cB cI : ClassId) (aT aS aC aY aH aU aZ aX aW aF aK aN aB aFs aKs : Nat) (fbase : Int32) (kbase : Int32) (sz : Nat) (onT : Int32) (place : Int32) (limit : Int32) (full : Bool) (b : Nat → UInt8) (fcnt : Int32) (fsts : Nat → Int32) (kcnt : Int32) (ksts : Nat → Int32) (p0 : Int32) (p1 : Int32) (hef : be_ok fbase fcnt fsts) (hek : be_ok kbase kcnt ksts) : Met l y_PB_put mw_PB_put { frames := 247, cells := 0, slots := 0, locals := 5929 } (va_Pc [.ref aT, .int p0, .int p1] (mt_P D cB cI (wd_PB_put aT aS aC aY aH aU aZ aX aW aF aK aN aB aFs aKs cB cI fbase kbase onT place limit full b fcnt fsts kcnt ksts) sz)) (va_Qi (fun (r : Int32) (u : Int32 × Int32 × Int32 × Bool × (Nat → UInt8) × Int32 × (Nat → Int32) × Int32 × (Nat → Int32)) => (r, u) = tw_PB_put fbase kbase onT place limit full b fcnt fsts kcnt ksts p0 p1) (mt_B D (va_A (wd_PB_put aT aS aC aY aH aU aZ aX aW aF aK aN aB aFs aKs cB cI fbase kbase onT place limit full b fcnt fsts kcnt ksts) sz) (fun u => wd_PB_put aT aS aC aY aH aU aZ aX aW aF aK aN aB aFs aKs cB cI fbase kbase u.1 u.2.1 u.2.2.1 u.2.2.2.1 u.2.2.2.2.1 u.2.2.2.2.2.1 u.2.2.2.2.2.2.1 u.2.2.2.2.2.2.2.1 u.2.2.2.2.2.2.2.2)) (va_A (wd_PB_put aT aS aC aY aH aU aZ aX aW aF aK aN aB aFs aKs cB cI fbase kbase onT place limit full b fcnt fsts kcnt ksts) sz)) 0 0 (va_A (wd_PB_put aT aS aC aY aH aU aZ aX aW aF aK aN aB aFs aKs cB cI fbase kbase onT place limit full b fcnt fsts kcnt ksts) sz) := by
  refine Met.ofW (cc := b_PB_put) (maxL := 4) (ret := (some .int)) (by decide) rfl ?_
  intro p e s m args below meth c s₁ B0 hml hv
  obtain ⟨rfl, hsz, hP, hk, hD0⟩ := hv
  have hK := hk.1
  have hN := hk.2.1
  have hx := B0.exec
  have hb := B0.bytes
  have hr := B0.returns
  have hT : ∀ w ∈ lw_g, w.before _ s = true := fun w h => atoms_spec (ws := mw_PB_put) B0.pre w (List.mem_cons_of_mem _ h)
  have hown : s.vm.findClass R_PB = some m.cls := findClass_of_methodNamed B0.named
  have hlocks := B0.notSynchronized
  subst hsz
  have hD := hD0.self (sz := s.heap.size)
  generalize hAe : va_A [(aT, .inr (10, [.ref aS, .ref aC, .ref aY, .ref aH, .ref aU, .ref aZ, .ref aX, .int onT])), (aC, .inr (4, [.ref aS])), (aY, .inr (3, [.ref aS, .ref aW, .ref aF, .ref aK, .ref aN])), (aW, .inr (1, [.ref aS, .int place, .int limit, .int (b2i full)])), (aS, .inr (0, [.ref aB])), (aB, .inl (cB, 202000, .inl (by_ b))), (aF, .inr (2, [.int fbase, .ref aFs, .int fcnt])), (aFs, .inl (cI, 201, .inl fsts)), (aK, .inr (2, [.int kbase, .ref aKs, .int kcnt])), (aKs, .inl (cI, 201, .inl ksts))] s.heap.size = A at hD ⊢
  have hA : ∀ q : Nat, s.heap.size ≤ q → A q := fun q h => by rw [← hAe]; exact Or.inr h
  have hS : va_S A s.heap s.heap [] := va_S.rf
  have hl := lv_entry ([.ref aT, .int p0, .int p1]) (n := 4) (Nat.le_of_ble_eq_true rfl)
  rw [lg_entry_eq]
  generalize (lg_sl ([.ref aT, .int p0, .int p1]) ++ List.replicate (4 - (lg_sl ([.ref aT, .int p0, .int p1])).length) Slot.unset).toArray = ls at hl ⊢
  have hl : lv_has ls 4 [(0, .ref aT), (1, .int p0), (2, .int p1)] := hl
  refine lv_aload_n hx hb d_PB_put_0 rfl (lv_at hl 0 rfl) ?_
  refine va_get (D := D) (ci := 10) (v := .ref aY) (C := R_PB) (T := T_PB) (N := 8) hx hb hT u_PB hown hK hP 0 rfl rfl 2 (by decide) (hT _ k_318) (fun _ h9 => h9) rfl d_PB_put_1 ?_
  refine lv_iload_n hx hb d_PB_put_4 rfl (lv_at hl 1 rfl) ?_
  by_cases c_1 : p0 = 0
  · refine rd_Vq (val := some aF) (As := [.int p0]) (rest := []) ⟨hx, hb, hml, hown, hT⟩ (by have h9 := c_BS_numbered l D cB cI aY aS aW aF aK aN p0; rw [show tw_BS_numbered aF aK p0 = some aF from by unfold tw_BS_numbered; rw [if_pos c_1]] at h9; exact h9) (cwV 1 hT (gV_of k_357 k_358 k_359 k_4 kc_BS_numbered) rfl rfl rfl hd_BS_numbered ⟨Nat.le_of_ble_eq_true rfl, Nat.le_of_ble_eq_true rfl⟩) hk (hP.sub (ws' := [(aY, .inr (3, [.ref aS, .ref aW, .ref aF, .ref aK, .ref aN]))]) [2] rfl) (q0 := 0) rfl rfl rfl rfl hl.1 rfl (Nat.le_of_ble_eq_true rfl) d_PB_put_5 ⟨Nat.zero_le _, Nat.zero_le _⟩ ?_
    refine lv_astore_n (lv' := [(3, .ref aF), (0, .ref aT), (1, .int p0), (2, .int p1)]) hx hb d_PB_put_8 rfl hl (by decide) rfl (fun ls hl => ?_)
    refine lv_aload_n hx hb d_PB_put_9 rfl (lv_at hl 0 rfl) ?_
    refine lv_ifnull hx hb d_PB_put_10 ?_
    refine lv_iload_n hx hb d_PB_put_13 rfl (lv_at hl 3 rfl) ?_
    refine lv_if_lt (tgt := 25) hx hb d_PB_put_14 (by decide) (fun c_2 => ?_) (fun c_2 => ?_)
    · refine lv_bipush (v := -2) hx hb d_PB_put_25 (by decide) ?_
      exact W.iret (v := (-2)) hx hb hr (fun t ht hW => ⟨⟨(-2), (onT, place, limit, full, b, fcnt, fsts, kcnt, ksts), rfl, (by rw [tw_PB_put, if_pos c_1, if_pos c_2]; first | done | rfl), by rw [ht]; exact hP, hD⟩, hS.F ht⟩) hS.2.2 d_PB_put_27
    · refine lv_iload_n hx hb d_PB_put_17 rfl (lv_at hl 3 rfl) ?_
      refine lv_aload_n hx hb d_PB_put_18 rfl (lv_at hl 1 rfl) ?_
      refine va_get (D := D) (ci := 10) (v := .int onT) (C := R_PB) (T := T_PB) (N := 8) hx hb hT u_PB hown hK hP 0 rfl rfl 7 (by decide) (hT _ k_323) (fun _ h9 => h9) rfl d_PB_put_19 ?_
      refine lv_icmp_le (tgt := 28) hx hb d_PB_put_22 (by decide) (fun c_3 => ?_) (fun c_3 => ?_)
      · refine lv_aload_n hx hb d_PB_put_28 rfl (lv_at hl 1 rfl) ?_
        refine lv_iconst (v := 0) hx hb d_PB_put_29 (by decide) ?_
        refine va_put (D := D) (ci := 10) (v := .int 0) (ty := .int) (C := R_PB) (T := T_PB) (N := 8) hx hb hT u_PB ty_PB tyok_PB nm_PB hown hK hP hD hS 0 rfl rfl 7 (by decide) (hT _ k_323) (fun _ h9 => h9) rfl (by decide +kernel) (rfl) (rfl) (Nat.le_of_ble_eq_true rfl) d_PB_put_30 (fun H locs hP hD hS => ?_)
        have hP : va_P D vwCl [(aT, .inr (10, [.ref aS, .ref aC, .ref aY, .ref aH, .ref aU, .ref aZ, .ref aX, .int 0])), (aC, .inr (4, [.ref aS])), (aY, .inr (3, [.ref aS, .ref aW, .ref aF, .ref aK, .ref aN])), (aW, .inr (1, [.ref aS, .int place, .int limit, .int (b2i full)])), (aS, .inr (0, [.ref aB])), (aB, .inl (cB, 202000, .inl (by_ b))), (aF, .inr (2, [.int fbase, .ref aFs, .int fcnt])), (aFs, .inl (cI, 201, .inl fsts)), (aK, .inr (2, [.int kbase, .ref aKs, .int kcnt])), (aKs, .inl (cI, 201, .inl ksts))] H := hP
        have hD : va_D A [(aT, .inr (10, [.ref aS, .ref aC, .ref aY, .ref aH, .ref aU, .ref aZ, .ref aX, .int 0])), (aC, .inr (4, [.ref aS])), (aY, .inr (3, [.ref aS, .ref aW, .ref aF, .ref aK, .ref aN])), (aW, .inr (1, [.ref aS, .int place, .int limit, .int (b2i full)])), (aS, .inr (0, [.ref aB])), (aB, .inl (cB, 202000, .inl (by_ b))), (aF, .inr (2, [.int fbase, .ref aFs, .int fcnt])), (aFs, .inl (cI, 201, .inl fsts)), (aK, .inr (2, [.int kbase, .ref aKs, .int kcnt])), (aKs, .inl (cI, 201, .inl ksts))] := hD
        refine lv_aload_n hx hb d_PB_put_33 rfl (lv_at hl 1 rfl) ?_
        refine va_get (D := D) (ci := 10) (v := .ref aC) (C := R_PB) (T := T_PB) (N := 8) hx hb hT u_PB hown hK hP 0 rfl rfl 1 (by decide) (hT _ k_317) (fun _ h9 => h9) rfl d_PB_put_34 ?_
        refine lv_iload_n hx hb d_PB_put_37 rfl (lv_at hl 3 rfl) ?_
        refine rd_V (val := b2i (tw_CH_isDocument b p1)) (As := [.int p1]) (rest := []) ⟨hx, hb, hml, hown, hT⟩ (c_CH_isDocument l D cB cI aC aS aB b p1) (cwV 1 hT (gV_of k_361 k_362 k_363 k_3 kc_CH_isDocument) rfl rfl rfl hd_CH_isDocument ⟨Nat.le_of_ble_eq_true rfl, Nat.le_of_ble_eq_true rfl⟩) hk (hP.sub (ws' := [(aC, .inr (4, [.ref aS])), (aS, .inr (0, [.ref aB])), (aB, .inl (cB, 202000, .inl (by_ b)))]) [1, 4, 5] rfl) (q0 := 0) rfl rfl rfl rfl hl.1 rfl (Nat.le_of_ble_eq_true rfl) d_PB_put_38 ⟨Nat.zero_le _, Nat.zero_le _⟩ ?_
        refine lv_if_ne (tgt := 46) hx hb d_PB_put_41 (by decide) (fun c_4 => ?_) (fun c_4 => ?_)
        · refine lv_aload_n hx hb d_PB_put_46 rfl (lv_at hl 1 rfl) ?_
          refine va_get (D := D) (ci := 10) (v := .ref aY) (C := R_PB) (T := T_PB) (N := 8) hx hb hT u_PB hown hK hP 0 rfl rfl 2 (by decide) (hT _ k_318) (fun _ h9 => h9) rfl d_PB_put_47 ?_
          refine lv_aload_n hx hb d_PB_put_50 rfl (lv_at hl 0 rfl) ?_
          refine lv_iconst (v := 0) hx hb d_PB_put_51 (by decide) ?_
          refine lv_iload_n hx hb d_PB_put_52 rfl (lv_at hl 3 rfl) ?_
          refine mt_Vi (As := [.ref aF, .int 0, .int p1]) (rest := []) (wr := [(aT, .inr (10, [.ref aS, .ref aC, .ref aY, .ref aH, .ref aU, .ref aZ, .ref aX, .int 0])), (aC, .inr (4, [.ref aS])), (aK, .inr (2, [.int kbase, .ref aKs, .int kcnt])), (aKs, .inl (cI, 201, .inl ksts))]) ⟨hx, hb, hml, hown, hT⟩ (c_BS_append l D cB cI aY aS aW aF aK aN aB aF aFs fbase _ place limit full b fcnt fsts 0 p1 (Or.inl (by decide)) (hef)) (cwV 3 hT (gV_of k_431 k_432 k_433 k_4 kc_BS_append) rfl rfl rfl hd_BS_append ⟨Nat.le_of_ble_eq_true rfl, Nat.le_of_ble_eq_true rfl⟩) hk hP hD hS hA [2, 3, 4, 5, 6, 7] [0, 1, 8, 9] rfl rfl rfl (by decide) (by decide) (by decide) (q0 := 0) rfl rfl rfl rfl hl.1 rfl (Nat.le_of_ble_eq_true rfl) d_PB_put_53 ⟨Nat.zero_le _, Nat.zero_le _⟩ (fun r_5 u_5 H locs hw_5 hP hD hS => ?_)
          obtain ⟨place_5, limit_5, full_5, b_5, ecnt_5, ests_5⟩ := u_5
          obtain ⟨r_5, rfl, hw_5⟩ := hw_5
          obtain ⟨hw_5, hi_5⟩ := hw_5
          have hP : va_P D vwCl [(aT, .inr (10, [.ref aS, .ref aC, .ref aY, .ref aH, .ref aU, .ref aZ, .ref aX, .int 0])), (aC, .inr (4, [.ref aS])), (aY, .inr (3, [.ref aS, .ref aW, .ref aF, .ref aK, .ref aN])), (aW, .inr (1, [.ref aS, .int place_5, .int limit_5, .int (b2i full_5)])), (aS, .inr (0, [.ref aB])), (aB, .inl (cB, 202000, .inl (by_ b_5))), (aF, .inr (2, [.int fbase, .ref aFs, .int ecnt_5])), (aFs, .inl (cI, 201, .inl ests_5)), (aK, .inr (2, [.int kbase, .ref aKs, .int kcnt])), (aKs, .inl (cI, 201, .inl ksts))] H := hP.sub [0, 1, 4, 5, 6, 7, 8, 9, 2, 3] rfl
          have hD : va_D A [(aT, .inr (10, [.ref aS, .ref aC, .ref aY, .ref aH, .ref aU, .ref aZ, .ref aX, .int 0])), (aC, .inr (4, [.ref aS])), (aY, .inr (3, [.ref aS, .ref aW, .ref aF, .ref aK, .ref aN])), (aW, .inr (1, [.ref aS, .int place_5, .int limit_5, .int (b2i full_5)])), (aS, .inr (0, [.ref aB])), (aB, .inl (cB, 202000, .inl (by_ b_5))), (aF, .inr (2, [.int fbase, .ref aFs, .int ecnt_5])), (aFs, .inl (cI, 201, .inl ests_5)), (aK, .inr (2, [.int kbase, .ref aKs, .int kcnt])), (aKs, .inl (cI, 201, .inl ksts))] := hD.sub [0, 1, 4, 5, 6, 7, 8, 9, 2, 3] (by decide) rfl
          refine lv_if_eq (tgt := 66) hx hb d_PB_put_56 (by decide) (fun c_6 => ?_) (fun c_6 => ?_)
          · refine lv_bipush (v := -3) hx hb d_PB_put_66 (by decide) ?_
            exact W.iret (v := (-3)) hx hb hr (fun t ht hW => ⟨⟨(-3), (0, place_5, limit_5, full_5, b_5, ecnt_5, ests_5, kcnt, ksts), rfl, (by rw [tw_PB_put, if_pos c_1, if_neg c_2, if_pos c_3, if_neg c_4, ← hw_5, tp7_mk, if_pos c_6]; first | done | rfl), by rw [ht]; exact hP, hD⟩, hS.F ht⟩) hS.2.2 d_PB_put_68
          · refine lv_aload_n hx hb d_PB_put_59 rfl (lv_at hl 0 rfl) ?_
            refine va_getN (D := D) (ci := 2) (v := .int ecnt_5) (C := R_BE) (T := T_BE) (N := 3) hx hb hT u_BE hown hK hP 6 rfl rfl 2 (by decide) (va_Nw.use rfl (hN ("PipelineBelt", 85, "PipelineBelt$Belt", "count", "I", "PipelineBelt") (by decide))) (fun _ h9 => h9) rfl d_PB_put_60 ?_
            refine lv_goto (tgt := 68) hx hb d_PB_put_63 (by decide) ?_
            exact W.iret (v := ecnt_5) hx hb hr (fun t ht hW => ⟨⟨ecnt_5, (0, place_5, limit_5, full_5, b_5, ecnt_5, ests_5, kcnt, ksts), rfl, (by rw [tw_PB_put, if_pos c_1, if_neg c_2, if_pos c_3, if_neg c_4, ← hw_5, tp7_mk, if_neg c_6]; first | done | rfl), by rw [ht]; exact hP, hD⟩, hS.F ht⟩) hS.2.2 d_PB_put_68
        · refine lv_iconst (v := -1) hx hb d_PB_put_44 (by decide) ?_
          exact W.iret (v := (-1)) hx hb hr (fun t ht hW => ⟨⟨(-1), (0, place, limit, full, b, fcnt, fsts, kcnt, ksts), rfl, (by rw [tw_PB_put, if_pos c_1, if_neg c_2, if_pos c_3, if_pos c_4]; first | done | rfl), by rw [ht]; exact hP, hD⟩, hS.F ht⟩) hS.2.2 d_PB_put_45
      · refine lv_bipush (v := -2) hx hb d_PB_put_25 (by decide) ?_
        exact W.iret (v := (-2)) hx hb hr (fun t ht hW => ⟨⟨(-2), (onT, place, limit, full, b, fcnt, fsts, kcnt, ksts), rfl, (by rw [tw_PB_put, if_pos c_1, if_neg c_2, if_neg c_3]; first | done | rfl), by rw [ht]; exact hP, hD⟩, hS.F ht⟩) hS.2.2 d_PB_put_27
  by_cases c_7 : p0 = 1
  · refine rd_Vq (val := some aK) (As := [.int p0]) (rest := []) ⟨hx, hb, hml, hown, hT⟩ (by have h9 := c_BS_numbered l D cB cI aY aS aW aF aK aN p0; rw [show tw_BS_numbered aF aK p0 = some aK from by unfold tw_BS_numbered; rw [if_neg c_1, if_pos c_7]] at h9; exact h9) (cwV 1 hT (gV_of k_357 k_358 k_359 k_4 kc_BS_numbered) rfl rfl rfl hd_BS_numbered ⟨Nat.le_of_ble_eq_true rfl, Nat.le_of_ble_eq_true rfl⟩) hk (hP.sub (ws' := [(aY, .inr (3, [.ref aS, .ref aW, .ref aF, .ref aK, .ref aN]))]) [2] rfl) (q0 := 0) rfl rfl rfl rfl hl.1 rfl (Nat.le_of_ble_eq_true rfl) d_PB_put_5 ⟨Nat.zero_le _, Nat.zero_le _⟩ ?_
    refine lv_astore_n (lv' := [(3, .ref aK), (0, .ref aT), (1, .int p0), (2, .int p1)]) hx hb d_PB_put_8 rfl hl (by decide) rfl (fun ls hl => ?_)
    refine lv_aload_n hx hb d_PB_put_9 rfl (lv_at hl 0 rfl) ?_
    refine lv_ifnull hx hb d_PB_put_10 ?_
    refine lv_iload_n hx hb d_PB_put_13 rfl (lv_at hl 3 rfl) ?_
    refine lv_if_lt (tgt := 25) hx hb d_PB_put_14 (by decide) (fun c_8 => ?_) (fun c_8 => ?_)
    · refine lv_bipush (v := -2) hx hb d_PB_put_25 (by decide) ?_
      exact W.iret (v := (-2)) hx hb hr (fun t ht hW => ⟨⟨(-2), (onT, place, limit, full, b, fcnt, fsts, kcnt, ksts), rfl, (by rw [tw_PB_put, if_neg c_1, if_pos c_7, if_pos c_8]; first | done | rfl), by rw [ht]; exact hP, hD⟩, hS.F ht⟩) hS.2.2 d_PB_put_27
    · refine lv_iload_n hx hb d_PB_put_17 rfl (lv_at hl 3 rfl) ?_
      refine lv_aload_n hx hb d_PB_put_18 rfl (lv_at hl 1 rfl) ?_
      refine va_get (D := D) (ci := 10) (v := .int onT) (C := R_PB) (T := T_PB) (N := 8) hx hb hT u_PB hown hK hP 0 rfl rfl 7 (by decide) (hT _ k_323) (fun _ h9 => h9) rfl d_PB_put_19 ?_
      refine lv_icmp_le (tgt := 28) hx hb d_PB_put_22 (by decide) (fun c_9 => ?_) (fun c_9 => ?_)
      · refine lv_aload_n hx hb d_PB_put_28 rfl (lv_at hl 1 rfl) ?_
        refine lv_iconst (v := 0) hx hb d_PB_put_29 (by decide) ?_
        refine va_put (D := D) (ci := 10) (v := .int 0) (ty := .int) (C := R_PB) (T := T_PB) (N := 8) hx hb hT u_PB ty_PB tyok_PB nm_PB hown hK hP hD hS 0 rfl rfl 7 (by decide) (hT _ k_323) (fun _ h9 => h9) rfl (by decide +kernel) (rfl) (rfl) (Nat.le_of_ble_eq_true rfl) d_PB_put_30 (fun H locs hP hD hS => ?_)
        have hP : va_P D vwCl [(aT, .inr (10, [.ref aS, .ref aC, .ref aY, .ref aH, .ref aU, .ref aZ, .ref aX, .int 0])), (aC, .inr (4, [.ref aS])), (aY, .inr (3, [.ref aS, .ref aW, .ref aF, .ref aK, .ref aN])), (aW, .inr (1, [.ref aS, .int place, .int limit, .int (b2i full)])), (aS, .inr (0, [.ref aB])), (aB, .inl (cB, 202000, .inl (by_ b))), (aF, .inr (2, [.int fbase, .ref aFs, .int fcnt])), (aFs, .inl (cI, 201, .inl fsts)), (aK, .inr (2, [.int kbase, .ref aKs, .int kcnt])), (aKs, .inl (cI, 201, .inl ksts))] H := hP
        have hD : va_D A [(aT, .inr (10, [.ref aS, .ref aC, .ref aY, .ref aH, .ref aU, .ref aZ, .ref aX, .int 0])), (aC, .inr (4, [.ref aS])), (aY, .inr (3, [.ref aS, .ref aW, .ref aF, .ref aK, .ref aN])), (aW, .inr (1, [.ref aS, .int place, .int limit, .int (b2i full)])), (aS, .inr (0, [.ref aB])), (aB, .inl (cB, 202000, .inl (by_ b))), (aF, .inr (2, [.int fbase, .ref aFs, .int fcnt])), (aFs, .inl (cI, 201, .inl fsts)), (aK, .inr (2, [.int kbase, .ref aKs, .int kcnt])), (aKs, .inl (cI, 201, .inl ksts))] := hD
        refine lv_aload_n hx hb d_PB_put_33 rfl (lv_at hl 1 rfl) ?_
        refine va_get (D := D) (ci := 10) (v := .ref aC) (C := R_PB) (T := T_PB) (N := 8) hx hb hT u_PB hown hK hP 0 rfl rfl 1 (by decide) (hT _ k_317) (fun _ h9 => h9) rfl d_PB_put_34 ?_
        refine lv_iload_n hx hb d_PB_put_37 rfl (lv_at hl 3 rfl) ?_
        refine rd_V (val := b2i (tw_CH_isDocument b p1)) (As := [.int p1]) (rest := []) ⟨hx, hb, hml, hown, hT⟩ (c_CH_isDocument l D cB cI aC aS aB b p1) (cwV 1 hT (gV_of k_361 k_362 k_363 k_3 kc_CH_isDocument) rfl rfl rfl hd_CH_isDocument ⟨Nat.le_of_ble_eq_true rfl, Nat.le_of_ble_eq_true rfl⟩) hk (hP.sub (ws' := [(aC, .inr (4, [.ref aS])), (aS, .inr (0, [.ref aB])), (aB, .inl (cB, 202000, .inl (by_ b)))]) [1, 4, 5] rfl) (q0 := 0) rfl rfl rfl rfl hl.1 rfl (Nat.le_of_ble_eq_true rfl) d_PB_put_38 ⟨Nat.zero_le _, Nat.zero_le _⟩ ?_
        refine lv_if_ne (tgt := 46) hx hb d_PB_put_41 (by decide) (fun c_10 => ?_) (fun c_10 => ?_)
        · refine lv_aload_n hx hb d_PB_put_46 rfl (lv_at hl 1 rfl) ?_
          refine va_get (D := D) (ci := 10) (v := .ref aY) (C := R_PB) (T := T_PB) (N := 8) hx hb hT u_PB hown hK hP 0 rfl rfl 2 (by decide) (hT _ k_318) (fun _ h9 => h9) rfl d_PB_put_47 ?_
          refine lv_aload_n hx hb d_PB_put_50 rfl (lv_at hl 0 rfl) ?_
          refine lv_iconst (v := 0) hx hb d_PB_put_51 (by decide) ?_
          refine lv_iload_n hx hb d_PB_put_52 rfl (lv_at hl 3 rfl) ?_
          refine mt_Vi (As := [.ref aK, .int 0, .int p1]) (rest := []) (wr := [(aT, .inr (10, [.ref aS, .ref aC, .ref aY, .ref aH, .ref aU, .ref aZ, .ref aX, .int 0])), (aC, .inr (4, [.ref aS])), (aF, .inr (2, [.int fbase, .ref aFs, .int fcnt])), (aFs, .inl (cI, 201, .inl fsts))]) ⟨hx, hb, hml, hown, hT⟩ (c_BS_append l D cB cI aY aS aW aF aK aN aB aK aKs kbase _ place limit full b kcnt ksts 0 p1 (Or.inl (by decide)) (hek)) (cwV 3 hT (gV_of k_431 k_432 k_433 k_4 kc_BS_append) rfl rfl rfl hd_BS_append ⟨Nat.le_of_ble_eq_true rfl, Nat.le_of_ble_eq_true rfl⟩) hk hP hD hS hA [2, 3, 4, 5, 8, 9] [0, 1, 6, 7] rfl rfl rfl (by decide) (by decide) (by decide) (q0 := 0) rfl rfl rfl rfl hl.1 rfl (Nat.le_of_ble_eq_true rfl) d_PB_put_53 ⟨Nat.zero_le _, Nat.zero_le _⟩ (fun r_11 u_11 H locs hw_11 hP hD hS => ?_)
          obtain ⟨place_11, limit_11, full_11, b_11, ecnt_11, ests_11⟩ := u_11
          obtain ⟨r_11, rfl, hw_11⟩ := hw_11
          obtain ⟨hw_11, hi_11⟩ := hw_11
          have hP : va_P D vwCl [(aT, .inr (10, [.ref aS, .ref aC, .ref aY, .ref aH, .ref aU, .ref aZ, .ref aX, .int 0])), (aC, .inr (4, [.ref aS])), (aY, .inr (3, [.ref aS, .ref aW, .ref aF, .ref aK, .ref aN])), (aW, .inr (1, [.ref aS, .int place_11, .int limit_11, .int (b2i full_11)])), (aS, .inr (0, [.ref aB])), (aB, .inl (cB, 202000, .inl (by_ b_11))), (aF, .inr (2, [.int fbase, .ref aFs, .int fcnt])), (aFs, .inl (cI, 201, .inl fsts)), (aK, .inr (2, [.int kbase, .ref aKs, .int ecnt_11])), (aKs, .inl (cI, 201, .inl ests_11))] H := hP.sub [0, 1, 4, 5, 6, 7, 2, 3, 8, 9] rfl
          have hD : va_D A [(aT, .inr (10, [.ref aS, .ref aC, .ref aY, .ref aH, .ref aU, .ref aZ, .ref aX, .int 0])), (aC, .inr (4, [.ref aS])), (aY, .inr (3, [.ref aS, .ref aW, .ref aF, .ref aK, .ref aN])), (aW, .inr (1, [.ref aS, .int place_11, .int limit_11, .int (b2i full_11)])), (aS, .inr (0, [.ref aB])), (aB, .inl (cB, 202000, .inl (by_ b_11))), (aF, .inr (2, [.int fbase, .ref aFs, .int fcnt])), (aFs, .inl (cI, 201, .inl fsts)), (aK, .inr (2, [.int kbase, .ref aKs, .int ecnt_11])), (aKs, .inl (cI, 201, .inl ests_11))] := hD.sub [0, 1, 4, 5, 6, 7, 2, 3, 8, 9] (by decide) rfl
          refine lv_if_eq (tgt := 66) hx hb d_PB_put_56 (by decide) (fun c_12 => ?_) (fun c_12 => ?_)
          · refine lv_bipush (v := -3) hx hb d_PB_put_66 (by decide) ?_
            exact W.iret (v := (-3)) hx hb hr (fun t ht hW => ⟨⟨(-3), (0, place_11, limit_11, full_11, b_11, fcnt, fsts, ecnt_11, ests_11), rfl, (by rw [tw_PB_put, if_neg c_1, if_pos c_7, if_neg c_8, if_pos c_9, if_neg c_10, ← hw_11, tp7_mk, if_pos c_12]; first | done | rfl), by rw [ht]; exact hP, hD⟩, hS.F ht⟩) hS.2.2 d_PB_put_68
          · refine lv_aload_n hx hb d_PB_put_59 rfl (lv_at hl 0 rfl) ?_
            refine va_getN (D := D) (ci := 2) (v := .int ecnt_11) (C := R_BE) (T := T_BE) (N := 3) hx hb hT u_BE hown hK hP 8 rfl rfl 2 (by decide) (va_Nw.use rfl (hN ("PipelineBelt", 85, "PipelineBelt$Belt", "count", "I", "PipelineBelt") (by decide))) (fun _ h9 => h9) rfl d_PB_put_60 ?_
            refine lv_goto (tgt := 68) hx hb d_PB_put_63 (by decide) ?_
            exact W.iret (v := ecnt_11) hx hb hr (fun t ht hW => ⟨⟨ecnt_11, (0, place_11, limit_11, full_11, b_11, fcnt, fsts, ecnt_11, ests_11), rfl, (by rw [tw_PB_put, if_neg c_1, if_pos c_7, if_neg c_8, if_pos c_9, if_neg c_10, ← hw_11, tp7_mk, if_neg c_12]; first | done | rfl), by rw [ht]; exact hP, hD⟩, hS.F ht⟩) hS.2.2 d_PB_put_68
        · refine lv_iconst (v := -1) hx hb d_PB_put_44 (by decide) ?_
          exact W.iret (v := (-1)) hx hb hr (fun t ht hW => ⟨⟨(-1), (0, place, limit, full, b, fcnt, fsts, kcnt, ksts), rfl, (by rw [tw_PB_put, if_neg c_1, if_pos c_7, if_neg c_8, if_pos c_9, if_pos c_10]; first | done | rfl), by rw [ht]; exact hP, hD⟩, hS.F ht⟩) hS.2.2 d_PB_put_45
      · refine lv_bipush (v := -2) hx hb d_PB_put_25 (by decide) ?_
        exact W.iret (v := (-2)) hx hb hr (fun t ht hW => ⟨⟨(-2), (onT, place, limit, full, b, fcnt, fsts, kcnt, ksts), rfl, (by rw [tw_PB_put, if_neg c_1, if_pos c_7, if_neg c_8, if_neg c_9]; first | done | rfl), by rw [ht]; exact hP, hD⟩, hS.F ht⟩) hS.2.2 d_PB_put_27
  refine rd_Vq (val := none) (As := [.int p0]) (rest := []) ⟨hx, hb, hml, hown, hT⟩ (by have h9 := c_BS_numbered l D cB cI aY aS aW aF aK aN p0; rw [show tw_BS_numbered aF aK p0 = none from by unfold tw_BS_numbered; rw [if_neg c_1, if_neg c_7]] at h9; exact h9) (cwV 1 hT (gV_of k_357 k_358 k_359 k_4 kc_BS_numbered) rfl rfl rfl hd_BS_numbered ⟨Nat.le_of_ble_eq_true rfl, Nat.le_of_ble_eq_true rfl⟩) hk (hP.sub (ws' := [(aY, .inr (3, [.ref aS, .ref aW, .ref aF, .ref aK, .ref aN]))]) [2] rfl) (q0 := 0) rfl rfl rfl rfl hl.1 rfl (Nat.le_of_ble_eq_true rfl) d_PB_put_5 ⟨Nat.zero_le _, Nat.zero_le _⟩ ?_
  refine lv_astore_nN (lv' := [(3, .null), (0, .ref aT), (1, .int p0), (2, .int p1)]) hx hb d_PB_put_8 rfl hl (by decide) rfl (fun ls hl => ?_)
  refine lv_aload_nN hx hb d_PB_put_9 rfl (lv_at hl 0 rfl) ?_
  refine lv_ifnullN (tgt := 25) hx hb d_PB_put_10 (by decide) ?_
  refine lv_bipush (v := -2) hx hb d_PB_put_25 (by decide) ?_
  exact W.iret (v := (-2)) hx hb hr (fun t ht hW => ⟨⟨(-2), (onT, place, limit, full, b, fcnt, fsts, kcnt, ksts), rfl, (by rw [tw_PB_put, if_neg c_1, if_neg c_7]; first | done | rfl), by rw [ht]; exact hP, hD⟩, hS.F ht⟩) hS.2.2 d_PB_put_27
set_option maxHeartbeats 4000000 in
set_option maxRecDepth 100000 in
theorem c_PB_many (l : Launch) (D : va_G) (cB cI : ClassId) (aT aS aC aY aH aU aZ aX aW aF aK aN aFs aKs : Nat) (fbase : Int32) (kbase : Int32) (onT : Int32) (fcnt : Int32) (fsts : Nat → Int32) (kcnt : Int32) (ksts : Nat → Int32) (p0 : Int32) (p1 : Int32) : Met l y_PB_many mw_PB_many { frames := 2, cells := 0, slots := 0, locals := 41 } (va_Pc [.ref aT, .int p0, .int p1] (fun U => va_P D vwCl [(aT, .inr (10, [.ref aS, .ref aC, .ref aY, .ref aH, .ref aU, .ref aZ, .ref aX, .int onT])), (aY, .inr (3, [.ref aS, .ref aW, .ref aF, .ref aK, .ref aN])), (aF, .inr (2, [.int fbase, .ref aFs, .int fcnt])), (aFs, .inl (cI, 201, .inl fsts)), (aK, .inr (2, [.int kbase, .ref aKs, .int kcnt])), (aKs, .inl (cI, 201, .inl ksts))] U.heap ∧ hk_ D cB cI U)) (vp_Si (fun r => r = tw_PB_many fbase kbase fcnt fsts kcnt ksts p0 p1)) 0 0 (fun _ => False) := by
  refine Met.ofW (cc := b_PB_many) (maxL := 4) (ret := (some .int)) (by decide) rfl ?_
  intro p e s m args below meth c s₁ B0 hml hv
  obtain ⟨rfl, hP, hk⟩ := hv
  have hK := hk.1
  have hN := hk.2.1
  have hx := B0.exec
  have hb := B0.bytes
  have hr := B0.returns
  have hT : ∀ w ∈ lw_g, w.before _ s = true := fun w h => atoms_spec (ws := mw_PB_many) B0.pre w (List.mem_cons_of_mem _ h)
  have hown : s.vm.findClass R_PB = some m.cls := findClass_of_methodNamed B0.named
  have hlocks := B0.notSynchronized
  have hl := lv_entry ([.ref aT, .int p0, .int p1]) (n := 4) (Nat.le_of_ble_eq_true rfl)
  rw [lg_entry_eq]
  generalize (lg_sl ([.ref aT, .int p0, .int p1]) ++ List.replicate (4 - (lg_sl ([.ref aT, .int p0, .int p1])).length) Slot.unset).toArray = ls at hl ⊢
  have hl : lv_has ls 4 [(0, .ref aT), (1, .int p0), (2, .int p1)] := hl
  refine lv_aload_n hx hb d_PB_many_0 rfl (lv_at hl 0 rfl) ?_
  refine va_get (D := D) (ci := 10) (v := .ref aY) (C := R_PB) (T := T_PB) (N := 8) hx hb hT u_PB hown hK hP 0 rfl rfl 2 (by decide) (hT _ k_318) (fun _ h9 => h9) rfl d_PB_many_1 ?_
  refine lv_iload_n hx hb d_PB_many_4 rfl (lv_at hl 1 rfl) ?_
  by_cases c_1 : p0 = 0
  · refine rd_Vq (val := some aF) (As := [.int p0]) (rest := []) ⟨hx, hb, hml, hown, hT⟩ (by have h9 := c_BS_numbered l D cB cI aY aS aW aF aK aN p0; rw [show tw_BS_numbered aF aK p0 = some aF from by unfold tw_BS_numbered; rw [if_pos c_1]] at h9; exact h9) (cwV 1 hT (gV_of k_357 k_358 k_359 k_4 kc_BS_numbered) rfl rfl rfl hd_BS_numbered ⟨Nat.le_of_ble_eq_true rfl, Nat.le_of_ble_eq_true rfl⟩) hk (hP.sub (ws' := [(aY, .inr (3, [.ref aS, .ref aW, .ref aF, .ref aK, .ref aN]))]) [1] rfl) (q0 := 0) rfl rfl rfl rfl hl.1 rfl (Nat.le_of_ble_eq_true rfl) d_PB_many_5 ⟨Nat.zero_le _, Nat.zero_le _⟩ ?_
    refine lv_astore_n (lv' := [(3, .ref aF), (0, .ref aT), (1, .int p0), (2, .int p1)]) hx hb d_PB_many_8 rfl hl (by decide) rfl (fun ls hl => ?_)
    refine lv_aload_n hx hb d_PB_many_9 rfl (lv_at hl 0 rfl) ?_
    refine lv_ifnull hx hb d_PB_many_10 ?_
    refine lv_iload_n hx hb d_PB_many_13 rfl (lv_at hl 3 rfl) ?_
    refine lv_if_lt (tgt := 22) hx hb d_PB_many_14 (by decide) (fun c_2 => ?_) (fun c_2 => ?_)
    · refine lv_iconst (v := -1) hx hb d_PB_many_22 (by decide) ?_
      exact W.iret (v := (-1)) hx hb hr (fun t ht hW => ⟨(-1), rfl, (by rw [tw_PB_many, if_pos c_1, if_pos c_2]; first | done | rfl), ht⟩) (fun _ h => by cases h) d_PB_many_23
    · refine lv_iload_n hx hb d_PB_many_17 rfl (lv_at hl 3 rfl) ?_
      refine lv_iconst (v := 1) hx hb d_PB_many_18 (by decide) ?_
      refine lv_icmp_le (tgt := 24) hx hb d_PB_many_19 (by decide) (fun c_3 => ?_) (fun c_3 => ?_)
      · refine lv_iload_n hx hb d_PB_many_24 rfl (lv_at hl 3 rfl) ?_
        refine lv_if_ne (tgt := 35) hx hb d_PB_many_25 (by decide) (fun c_4 => ?_) (fun c_4 => ?_)
        · refine lv_aload_n hx hb d_PB_many_35 rfl (lv_at hl 0 rfl) ?_
          refine rd_V (val := tw_BE_end fbase fcnt fsts) (As := []) (rest := []) ⟨hx, hb, hml, hown, hT⟩ (c_BE_end l D cB cI aF aFs fbase fcnt fsts) (cwV 0 hT (gV_of k_1013 k_436 k_437 k_6 kc_BE_end) rfl rfl rfl hd_BE_end ⟨Nat.le_of_ble_eq_true rfl, Nat.le_of_ble_eq_true rfl⟩) hk (hP.sub (ws' := [(aF, .inr (2, [.int fbase, .ref aFs, .int fcnt])), (aFs, .inl (cI, 201, .inl fsts))]) [2, 3] rfl) (q0 := 0) rfl rfl rfl rfl hl.1 rfl (Nat.le_of_ble_eq_true rfl) d_PB_many_36 ⟨Nat.zero_le _, Nat.zero_le _⟩ ?_
          refine lv_aload_n hx hb d_PB_many_39 rfl (lv_at hl 0 rfl) ?_
          refine va_getN (D := D) (ci := 2) (v := .int fbase) (C := R_BE) (T := T_BE) (N := 3) hx hb hT u_BE hown hK hP 2 rfl rfl 0 (by decide) (va_Nw.use rfl (hN ("PipelineBelt", 130, "PipelineBelt$Belt", "base", "I", "PipelineBelt") (by decide))) (fun _ h9 => h9) rfl d_PB_many_40 ?_
          refine lv_isub hx hb d_PB_many_43 ?_
          exact W.iret (v := (tw_BE_end fbase fcnt fsts) - fbase) hx hb hr (fun t ht hW => ⟨(tw_BE_end fbase fcnt fsts) - fbase, rfl, (by rw [tw_PB_many, if_pos c_1, if_neg c_2, if_pos c_3, if_neg c_4]; first | done | rfl), ht⟩) (fun _ h => by cases h) d_PB_many_44
        · refine lv_aload_n hx hb d_PB_many_28 rfl (lv_at hl 0 rfl) ?_
          refine va_getN (D := D) (ci := 2) (v := .int fcnt) (C := R_BE) (T := T_BE) (N := 3) hx hb hT u_BE hown hK hP 2 rfl rfl 2 (by decide) (va_Nw.use rfl (hN ("PipelineBelt", 85, "PipelineBelt$Belt", "count", "I", "PipelineBelt") (by decide))) (fun _ h9 => h9) rfl d_PB_many_29 ?_
          refine lv_goto (tgt := 44) hx hb d_PB_many_32 (by decide) ?_
          exact W.iret (v := fcnt) hx hb hr (fun t ht hW => ⟨fcnt, rfl, (by rw [tw_PB_many, if_pos c_1, if_neg c_2, if_pos c_3, if_pos c_4]; first | done | rfl), ht⟩) (fun _ h => by cases h) d_PB_many_44
      · refine lv_iconst (v := -1) hx hb d_PB_many_22 (by decide) ?_
        exact W.iret (v := (-1)) hx hb hr (fun t ht hW => ⟨(-1), rfl, (by rw [tw_PB_many, if_pos c_1, if_neg c_2, if_neg c_3]; first | done | rfl), ht⟩) (fun _ h => by cases h) d_PB_many_23
  by_cases c_5 : p0 = 1
  · refine rd_Vq (val := some aK) (As := [.int p0]) (rest := []) ⟨hx, hb, hml, hown, hT⟩ (by have h9 := c_BS_numbered l D cB cI aY aS aW aF aK aN p0; rw [show tw_BS_numbered aF aK p0 = some aK from by unfold tw_BS_numbered; rw [if_neg c_1, if_pos c_5]] at h9; exact h9) (cwV 1 hT (gV_of k_357 k_358 k_359 k_4 kc_BS_numbered) rfl rfl rfl hd_BS_numbered ⟨Nat.le_of_ble_eq_true rfl, Nat.le_of_ble_eq_true rfl⟩) hk (hP.sub (ws' := [(aY, .inr (3, [.ref aS, .ref aW, .ref aF, .ref aK, .ref aN]))]) [1] rfl) (q0 := 0) rfl rfl rfl rfl hl.1 rfl (Nat.le_of_ble_eq_true rfl) d_PB_many_5 ⟨Nat.zero_le _, Nat.zero_le _⟩ ?_
    refine lv_astore_n (lv' := [(3, .ref aK), (0, .ref aT), (1, .int p0), (2, .int p1)]) hx hb d_PB_many_8 rfl hl (by decide) rfl (fun ls hl => ?_)
    refine lv_aload_n hx hb d_PB_many_9 rfl (lv_at hl 0 rfl) ?_
    refine lv_ifnull hx hb d_PB_many_10 ?_
    refine lv_iload_n hx hb d_PB_many_13 rfl (lv_at hl 3 rfl) ?_
    refine lv_if_lt (tgt := 22) hx hb d_PB_many_14 (by decide) (fun c_6 => ?_) (fun c_6 => ?_)
    · refine lv_iconst (v := -1) hx hb d_PB_many_22 (by decide) ?_
      exact W.iret (v := (-1)) hx hb hr (fun t ht hW => ⟨(-1), rfl, (by rw [tw_PB_many, if_neg c_1, if_pos c_5, if_pos c_6]; first | done | rfl), ht⟩) (fun _ h => by cases h) d_PB_many_23
    · refine lv_iload_n hx hb d_PB_many_17 rfl (lv_at hl 3 rfl) ?_
      refine lv_iconst (v := 1) hx hb d_PB_many_18 (by decide) ?_
      refine lv_icmp_le (tgt := 24) hx hb d_PB_many_19 (by decide) (fun c_7 => ?_) (fun c_7 => ?_)
      · refine lv_iload_n hx hb d_PB_many_24 rfl (lv_at hl 3 rfl) ?_
        refine lv_if_ne (tgt := 35) hx hb d_PB_many_25 (by decide) (fun c_8 => ?_) (fun c_8 => ?_)
        · refine lv_aload_n hx hb d_PB_many_35 rfl (lv_at hl 0 rfl) ?_
          refine rd_V (val := tw_BE_end kbase kcnt ksts) (As := []) (rest := []) ⟨hx, hb, hml, hown, hT⟩ (c_BE_end l D cB cI aK aKs kbase kcnt ksts) (cwV 0 hT (gV_of k_1013 k_436 k_437 k_6 kc_BE_end) rfl rfl rfl hd_BE_end ⟨Nat.le_of_ble_eq_true rfl, Nat.le_of_ble_eq_true rfl⟩) hk (hP.sub (ws' := [(aK, .inr (2, [.int kbase, .ref aKs, .int kcnt])), (aKs, .inl (cI, 201, .inl ksts))]) [4, 5] rfl) (q0 := 0) rfl rfl rfl rfl hl.1 rfl (Nat.le_of_ble_eq_true rfl) d_PB_many_36 ⟨Nat.zero_le _, Nat.zero_le _⟩ ?_
          refine lv_aload_n hx hb d_PB_many_39 rfl (lv_at hl 0 rfl) ?_
          refine va_getN (D := D) (ci := 2) (v := .int kbase) (C := R_BE) (T := T_BE) (N := 3) hx hb hT u_BE hown hK hP 4 rfl rfl 0 (by decide) (va_Nw.use rfl (hN ("PipelineBelt", 130, "PipelineBelt$Belt", "base", "I", "PipelineBelt") (by decide))) (fun _ h9 => h9) rfl d_PB_many_40 ?_
          refine lv_isub hx hb d_PB_many_43 ?_
          exact W.iret (v := (tw_BE_end kbase kcnt ksts) - kbase) hx hb hr (fun t ht hW => ⟨(tw_BE_end kbase kcnt ksts) - kbase, rfl, (by rw [tw_PB_many, if_neg c_1, if_pos c_5, if_neg c_6, if_pos c_7, if_neg c_8]; first | done | rfl), ht⟩) (fun _ h => by cases h) d_PB_many_44
        · refine lv_aload_n hx hb d_PB_many_28 rfl (lv_at hl 0 rfl) ?_
          refine va_getN (D := D) (ci := 2) (v := .int kcnt) (C := R_BE) (T := T_BE) (N := 3) hx hb hT u_BE hown hK hP 4 rfl rfl 2 (by decide) (va_Nw.use rfl (hN ("PipelineBelt", 85, "PipelineBelt$Belt", "count", "I", "PipelineBelt") (by decide))) (fun _ h9 => h9) rfl d_PB_many_29 ?_
          refine lv_goto (tgt := 44) hx hb d_PB_many_32 (by decide) ?_
          exact W.iret (v := kcnt) hx hb hr (fun t ht hW => ⟨kcnt, rfl, (by rw [tw_PB_many, if_neg c_1, if_pos c_5, if_neg c_6, if_pos c_7, if_pos c_8]; first | done | rfl), ht⟩) (fun _ h => by cases h) d_PB_many_44
      · refine lv_iconst (v := -1) hx hb d_PB_many_22 (by decide) ?_
        exact W.iret (v := (-1)) hx hb hr (fun t ht hW => ⟨(-1), rfl, (by rw [tw_PB_many, if_neg c_1, if_pos c_5, if_neg c_6, if_neg c_7]; first | done | rfl), ht⟩) (fun _ h => by cases h) d_PB_many_23
  refine rd_Vq (val := none) (As := [.int p0]) (rest := []) ⟨hx, hb, hml, hown, hT⟩ (by have h9 := c_BS_numbered l D cB cI aY aS aW aF aK aN p0; rw [show tw_BS_numbered aF aK p0 = none from by unfold tw_BS_numbered; rw [if_neg c_1, if_neg c_5]] at h9; exact h9) (cwV 1 hT (gV_of k_357 k_358 k_359 k_4 kc_BS_numbered) rfl rfl rfl hd_BS_numbered ⟨Nat.le_of_ble_eq_true rfl, Nat.le_of_ble_eq_true rfl⟩) hk (hP.sub (ws' := [(aY, .inr (3, [.ref aS, .ref aW, .ref aF, .ref aK, .ref aN]))]) [1] rfl) (q0 := 0) rfl rfl rfl rfl hl.1 rfl (Nat.le_of_ble_eq_true rfl) d_PB_many_5 ⟨Nat.zero_le _, Nat.zero_le _⟩ ?_
  refine lv_astore_nN (lv' := [(3, .null), (0, .ref aT), (1, .int p0), (2, .int p1)]) hx hb d_PB_many_8 rfl hl (by decide) rfl (fun ls hl => ?_)
  refine lv_aload_nN hx hb d_PB_many_9 rfl (lv_at hl 0 rfl) ?_
  refine lv_ifnullN (tgt := 22) hx hb d_PB_many_10 (by decide) ?_
  refine lv_iconst (v := -1) hx hb d_PB_many_22 (by decide) ?_
  exact W.iret (v := (-1)) hx hb hr (fun t ht hW => ⟨(-1), rfl, (by rw [tw_PB_many, if_neg c_1, if_neg c_5]; first | done | rfl), ht⟩) (fun _ h => by cases h) d_PB_many_23
set_option maxHeartbeats 4000000 in
set_option maxRecDepth 100000 in
theorem c_PB_size (l : Launch) (D : va_G) (cB cI : ClassId) (aT aS aC aY aH aU aZ aX aW aF aK aN aFs aKs : Nat) (fbase : Int32) (kbase : Int32) (onT : Int32) (fcnt : Int32) (fsts : Nat → Int32) (kcnt : Int32) (ksts : Nat → Int32) (p0 : Int32) (p1 : Int32) : Met l y_PB_size mw_PB_size { frames := 1, cells := 0, slots := 0, locals := 21 } (va_Pc [.ref aT, .int p0, .int p1] (fun U => va_P D vwCl [(aT, .inr (10, [.ref aS, .ref aC, .ref aY, .ref aH, .ref aU, .ref aZ, .ref aX, .int onT])), (aY, .inr (3, [.ref aS, .ref aW, .ref aF, .ref aK, .ref aN])), (aF, .inr (2, [.int fbase, .ref aFs, .int fcnt])), (aFs, .inl (cI, 201, .inl fsts)), (aK, .inr (2, [.int kbase, .ref aKs, .int kcnt])), (aKs, .inl (cI, 201, .inl ksts))] U.heap ∧ hk_ D cB cI U)) (vp_Si (fun r => r = tw_PB_size fbase kbase fcnt fsts kcnt ksts p0 p1)) 0 0 (fun _ => False) := by
  refine Met.ofW (cc := b_PB_size) (maxL := 4) (ret := (some .int)) (by decide) rfl ?_
  intro p e s m args below meth c s₁ B0 hml hv
  obtain ⟨rfl, hP, hk⟩ := hv
  have hK := hk.1
  have hN := hk.2.1
  have hx := B0.exec
  have hb := B0.bytes
  have hr := B0.returns
  have hT : ∀ w ∈ lw_g, w.before _ s = true := fun w h => atoms_spec (ws := mw_PB_size) B0.pre w (List.mem_cons_of_mem _ h)
  have hown : s.vm.findClass R_PB = some m.cls := findClass_of_methodNamed B0.named
  have hlocks := B0.notSynchronized
  have hl := lv_entry ([.ref aT, .int p0, .int p1]) (n := 4) (Nat.le_of_ble_eq_true rfl)
  rw [lg_entry_eq]
  generalize (lg_sl ([.ref aT, .int p0, .int p1]) ++ List.replicate (4 - (lg_sl ([.ref aT, .int p0, .int p1])).length) Slot.unset).toArray = ls at hl ⊢
  have hl : lv_has ls 4 [(0, .ref aT), (1, .int p0), (2, .int p1)] := hl
  refine lv_aload_n hx hb d_PB_size_0 rfl (lv_at hl 0 rfl) ?_
  refine va_get (D := D) (ci := 10) (v := .ref aY) (C := R_PB) (T := T_PB) (N := 8) hx hb hT u_PB hown hK hP 0 rfl rfl 2 (by decide) (hT _ k_318) (fun _ h9 => h9) rfl d_PB_size_1 ?_
  refine lv_iload_n hx hb d_PB_size_4 rfl (lv_at hl 1 rfl) ?_
  by_cases c_1 : p0 = 0
  · refine rd_Vq (val := some aF) (As := [.int p0]) (rest := []) ⟨hx, hb, hml, hown, hT⟩ (by have h9 := c_BS_numbered l D cB cI aY aS aW aF aK aN p0; rw [show tw_BS_numbered aF aK p0 = some aF from by unfold tw_BS_numbered; rw [if_pos c_1]] at h9; exact h9) (cwV 1 hT (gV_of k_357 k_358 k_359 k_4 kc_BS_numbered) rfl rfl rfl hd_BS_numbered ⟨Nat.le_of_ble_eq_true rfl, Nat.le_of_ble_eq_true rfl⟩) hk (hP.sub (ws' := [(aY, .inr (3, [.ref aS, .ref aW, .ref aF, .ref aK, .ref aN]))]) [1] rfl) (q0 := 0) rfl rfl rfl rfl hl.1 rfl (Nat.le_of_ble_eq_true rfl) d_PB_size_5 ⟨Nat.zero_le _, Nat.zero_le _⟩ ?_
    refine lv_astore_n (lv' := [(3, .ref aF), (0, .ref aT), (1, .int p0), (2, .int p1)]) hx hb d_PB_size_8 rfl hl (by decide) rfl (fun ls hl => ?_)
    refine lv_aload_n hx hb d_PB_size_9 rfl (lv_at hl 0 rfl) ?_
    refine lv_ifnull hx hb d_PB_size_10 ?_
    refine lv_iload_n hx hb d_PB_size_13 rfl (lv_at hl 3 rfl) ?_
    refine lv_if_lt (tgt := 25) hx hb d_PB_size_14 (by decide) (fun c_2 => ?_) (fun c_2 => ?_)
    · refine lv_iconst (v := -1) hx hb d_PB_size_25 (by decide) ?_
      exact W.iret (v := (-1)) hx hb hr (fun t ht hW => ⟨(-1), rfl, (by rw [tw_PB_size, if_pos c_1, if_pos c_2]; first | done | rfl), ht⟩) (fun _ h => by cases h) d_PB_size_26
    · refine lv_iload_n hx hb d_PB_size_17 rfl (lv_at hl 3 rfl) ?_
      refine lv_aload_n hx hb d_PB_size_18 rfl (lv_at hl 0 rfl) ?_
      refine va_getN (D := D) (ci := 2) (v := .int fcnt) (C := R_BE) (T := T_BE) (N := 3) hx hb hT u_BE hown hK hP 2 rfl rfl 2 (by decide) (va_Nw.use rfl (hN ("PipelineBelt", 85, "PipelineBelt$Belt", "count", "I", "PipelineBelt") (by decide))) (fun _ h9 => h9) rfl d_PB_size_19 ?_
      refine lv_icmp_lt (tgt := 27) hx hb d_PB_size_22 (by decide) (fun c_3 => ?_) (fun c_3 => ?_)
      · refine lv_aload_n hx hb d_PB_size_27 rfl (lv_at hl 0 rfl) ?_
        refine lv_iload_n hx hb d_PB_size_28 rfl (lv_at hl 3 rfl) ?_
        refine lv_iconst (v := 1) hx hb d_PB_size_29 (by decide) ?_
        refine lv_iadd hx hb d_PB_size_30 ?_
        refine rd_V (val := tw_BE_start fbase fcnt fsts (p1 + 1)) (As := [.int (p1 + 1)]) (rest := []) ⟨hx, hb, hml, hown, hT⟩ (c_BE_start l D cB cI aF aFs fbase fcnt fsts (p1 + 1)) (cwV 1 hT (gV_of k_1018 k_440 k_441 k_6 kc_BE_start) rfl rfl rfl hd_BE_start ⟨Nat.le_of_ble_eq_true rfl, Nat.le_of_ble_eq_true rfl⟩) hk (hP.sub (ws' := [(aF, .inr (2, [.int fbase, .ref aFs, .int fcnt])), (aFs, .inl (cI, 201, .inl fsts))]) [2, 3] rfl) (q0 := 0) rfl rfl rfl rfl hl.1 rfl (Nat.le_of_ble_eq_true rfl) d_PB_size_31 ⟨Nat.zero_le _, Nat.zero_le _⟩ ?_
        refine lv_aload_n hx hb d_PB_size_34 rfl (lv_at hl 0 rfl) ?_
        refine lv_iload_n hx hb d_PB_size_35 rfl (lv_at hl 3 rfl) ?_
        refine rd_V (val := tw_BE_start fbase fcnt fsts p1) (As := [.int p1]) (rest := [.int (tw_BE_start fbase fcnt fsts (p1 + 1))]) ⟨hx, hb, hml, hown, hT⟩ (c_BE_start l D cB cI aF aFs fbase fcnt fsts p1) (cwV 1 hT (gV_of k_1018 k_440 k_441 k_6 kc_BE_start) rfl rfl rfl hd_BE_start ⟨Nat.le_of_ble_eq_true rfl, Nat.le_of_ble_eq_true rfl⟩) hk (hP.sub (ws' := [(aF, .inr (2, [.int fbase, .ref aFs, .int fcnt])), (aFs, .inl (cI, 201, .inl fsts))]) [2, 3] rfl) (q0 := 0) rfl rfl rfl rfl hl.1 rfl (Nat.le_of_ble_eq_true rfl) d_PB_size_36 ⟨Nat.zero_le _, Nat.zero_le _⟩ ?_
        refine lv_isub hx hb d_PB_size_39 ?_
        exact W.iret (v := (tw_BE_start fbase fcnt fsts (p1 + 1)) - (tw_BE_start fbase fcnt fsts p1)) hx hb hr (fun t ht hW => ⟨(tw_BE_start fbase fcnt fsts (p1 + 1)) - (tw_BE_start fbase fcnt fsts p1), rfl, (by rw [tw_PB_size, if_pos c_1, if_neg c_2, if_pos c_3]; first | done | rfl), ht⟩) (fun _ h => by cases h) d_PB_size_40
      · refine lv_iconst (v := -1) hx hb d_PB_size_25 (by decide) ?_
        exact W.iret (v := (-1)) hx hb hr (fun t ht hW => ⟨(-1), rfl, (by rw [tw_PB_size, if_pos c_1, if_neg c_2, if_neg c_3]; first | done | rfl), ht⟩) (fun _ h => by cases h) d_PB_size_26
  by_cases c_4 : p0 = 1
  · refine rd_Vq (val := some aK) (As := [.int p0]) (rest := []) ⟨hx, hb, hml, hown, hT⟩ (by have h9 := c_BS_numbered l D cB cI aY aS aW aF aK aN p0; rw [show tw_BS_numbered aF aK p0 = some aK from by unfold tw_BS_numbered; rw [if_neg c_1, if_pos c_4]] at h9; exact h9) (cwV 1 hT (gV_of k_357 k_358 k_359 k_4 kc_BS_numbered) rfl rfl rfl hd_BS_numbered ⟨Nat.le_of_ble_eq_true rfl, Nat.le_of_ble_eq_true rfl⟩) hk (hP.sub (ws' := [(aY, .inr (3, [.ref aS, .ref aW, .ref aF, .ref aK, .ref aN]))]) [1] rfl) (q0 := 0) rfl rfl rfl rfl hl.1 rfl (Nat.le_of_ble_eq_true rfl) d_PB_size_5 ⟨Nat.zero_le _, Nat.zero_le _⟩ ?_
    refine lv_astore_n (lv' := [(3, .ref aK), (0, .ref aT), (1, .int p0), (2, .int p1)]) hx hb d_PB_size_8 rfl hl (by decide) rfl (fun ls hl => ?_)
    refine lv_aload_n hx hb d_PB_size_9 rfl (lv_at hl 0 rfl) ?_
    refine lv_ifnull hx hb d_PB_size_10 ?_
    refine lv_iload_n hx hb d_PB_size_13 rfl (lv_at hl 3 rfl) ?_
    refine lv_if_lt (tgt := 25) hx hb d_PB_size_14 (by decide) (fun c_5 => ?_) (fun c_5 => ?_)
    · refine lv_iconst (v := -1) hx hb d_PB_size_25 (by decide) ?_
      exact W.iret (v := (-1)) hx hb hr (fun t ht hW => ⟨(-1), rfl, (by rw [tw_PB_size, if_neg c_1, if_pos c_4, if_pos c_5]; first | done | rfl), ht⟩) (fun _ h => by cases h) d_PB_size_26
    · refine lv_iload_n hx hb d_PB_size_17 rfl (lv_at hl 3 rfl) ?_
      refine lv_aload_n hx hb d_PB_size_18 rfl (lv_at hl 0 rfl) ?_
      refine va_getN (D := D) (ci := 2) (v := .int kcnt) (C := R_BE) (T := T_BE) (N := 3) hx hb hT u_BE hown hK hP 4 rfl rfl 2 (by decide) (va_Nw.use rfl (hN ("PipelineBelt", 85, "PipelineBelt$Belt", "count", "I", "PipelineBelt") (by decide))) (fun _ h9 => h9) rfl d_PB_size_19 ?_
      refine lv_icmp_lt (tgt := 27) hx hb d_PB_size_22 (by decide) (fun c_6 => ?_) (fun c_6 => ?_)
      · refine lv_aload_n hx hb d_PB_size_27 rfl (lv_at hl 0 rfl) ?_
        refine lv_iload_n hx hb d_PB_size_28 rfl (lv_at hl 3 rfl) ?_
        refine lv_iconst (v := 1) hx hb d_PB_size_29 (by decide) ?_
        refine lv_iadd hx hb d_PB_size_30 ?_
        refine rd_V (val := tw_BE_start kbase kcnt ksts (p1 + 1)) (As := [.int (p1 + 1)]) (rest := []) ⟨hx, hb, hml, hown, hT⟩ (c_BE_start l D cB cI aK aKs kbase kcnt ksts (p1 + 1)) (cwV 1 hT (gV_of k_1018 k_440 k_441 k_6 kc_BE_start) rfl rfl rfl hd_BE_start ⟨Nat.le_of_ble_eq_true rfl, Nat.le_of_ble_eq_true rfl⟩) hk (hP.sub (ws' := [(aK, .inr (2, [.int kbase, .ref aKs, .int kcnt])), (aKs, .inl (cI, 201, .inl ksts))]) [4, 5] rfl) (q0 := 0) rfl rfl rfl rfl hl.1 rfl (Nat.le_of_ble_eq_true rfl) d_PB_size_31 ⟨Nat.zero_le _, Nat.zero_le _⟩ ?_
        refine lv_aload_n hx hb d_PB_size_34 rfl (lv_at hl 0 rfl) ?_
        refine lv_iload_n hx hb d_PB_size_35 rfl (lv_at hl 3 rfl) ?_
        refine rd_V (val := tw_BE_start kbase kcnt ksts p1) (As := [.int p1]) (rest := [.int (tw_BE_start kbase kcnt ksts (p1 + 1))]) ⟨hx, hb, hml, hown, hT⟩ (c_BE_start l D cB cI aK aKs kbase kcnt ksts p1) (cwV 1 hT (gV_of k_1018 k_440 k_441 k_6 kc_BE_start) rfl rfl rfl hd_BE_start ⟨Nat.le_of_ble_eq_true rfl, Nat.le_of_ble_eq_true rfl⟩) hk (hP.sub (ws' := [(aK, .inr (2, [.int kbase, .ref aKs, .int kcnt])), (aKs, .inl (cI, 201, .inl ksts))]) [4, 5] rfl) (q0 := 0) rfl rfl rfl rfl hl.1 rfl (Nat.le_of_ble_eq_true rfl) d_PB_size_36 ⟨Nat.zero_le _, Nat.zero_le _⟩ ?_
        refine lv_isub hx hb d_PB_size_39 ?_
        exact W.iret (v := (tw_BE_start kbase kcnt ksts (p1 + 1)) - (tw_BE_start kbase kcnt ksts p1)) hx hb hr (fun t ht hW => ⟨(tw_BE_start kbase kcnt ksts (p1 + 1)) - (tw_BE_start kbase kcnt ksts p1), rfl, (by rw [tw_PB_size, if_neg c_1, if_pos c_4, if_neg c_5, if_pos c_6]; first | done | rfl), ht⟩) (fun _ h => by cases h) d_PB_size_40
      · refine lv_iconst (v := -1) hx hb d_PB_size_25 (by decide) ?_
        exact W.iret (v := (-1)) hx hb hr (fun t ht hW => ⟨(-1), rfl, (by rw [tw_PB_size, if_neg c_1, if_pos c_4, if_neg c_5, if_neg c_6]; first | done | rfl), ht⟩) (fun _ h => by cases h) d_PB_size_26
  refine rd_Vq (val := none) (As := [.int p0]) (rest := []) ⟨hx, hb, hml, hown, hT⟩ (by have h9 := c_BS_numbered l D cB cI aY aS aW aF aK aN p0; rw [show tw_BS_numbered aF aK p0 = none from by unfold tw_BS_numbered; rw [if_neg c_1, if_neg c_4]] at h9; exact h9) (cwV 1 hT (gV_of k_357 k_358 k_359 k_4 kc_BS_numbered) rfl rfl rfl hd_BS_numbered ⟨Nat.le_of_ble_eq_true rfl, Nat.le_of_ble_eq_true rfl⟩) hk (hP.sub (ws' := [(aY, .inr (3, [.ref aS, .ref aW, .ref aF, .ref aK, .ref aN]))]) [1] rfl) (q0 := 0) rfl rfl rfl rfl hl.1 rfl (Nat.le_of_ble_eq_true rfl) d_PB_size_5 ⟨Nat.zero_le _, Nat.zero_le _⟩ ?_
  refine lv_astore_nN (lv' := [(3, .null), (0, .ref aT), (1, .int p0), (2, .int p1)]) hx hb d_PB_size_8 rfl hl (by decide) rfl (fun ls hl => ?_)
  refine lv_aload_nN hx hb d_PB_size_9 rfl (lv_at hl 0 rfl) ?_
  refine lv_ifnullN (tgt := 25) hx hb d_PB_size_10 (by decide) ?_
  refine lv_iconst (v := -1) hx hb d_PB_size_25 (by decide) ?_
  exact W.iret (v := (-1)) hx hb hr (fun t ht hW => ⟨(-1), rfl, (by rw [tw_PB_size, if_neg c_1, if_neg c_4]; first | done | rfl), ht⟩) (fun _ h => by cases h) d_PB_size_26
set_option maxHeartbeats 4000000 in
set_option maxRecDepth 100000 in
theorem c_PB_byteAt (l : Launch) (D : va_G) (cB cI : ClassId) (aT aS aC aY aH aU aZ aX aW aF aK aN aB aFs aKs : Nat) (fbase : Int32) (kbase : Int32) (onT : Int32) (b : Nat → UInt8) (fcnt : Int32) (fsts : Nat → Int32) (kcnt : Int32) (ksts : Nat → Int32) (p0 : Int32) (p1 : Int32) (p2 : Int32) : Met l y_PB_byteAt mw_PB_byteAt { frames := 1, cells := 0, slots := 0, locals := 21 } (va_Pc [.ref aT, .int p0, .int p1, .int p2] (fun U => va_P D vwCl [(aT, .inr (10, [.ref aS, .ref aC, .ref aY, .ref aH, .ref aU, .ref aZ, .ref aX, .int onT])), (aY, .inr (3, [.ref aS, .ref aW, .ref aF, .ref aK, .ref aN])), (aS, .inr (0, [.ref aB])), (aB, .inl (cB, 202000, .inl (by_ b))), (aF, .inr (2, [.int fbase, .ref aFs, .int fcnt])), (aFs, .inl (cI, 201, .inl fsts)), (aK, .inr (2, [.int kbase, .ref aKs, .int kcnt])), (aKs, .inl (cI, 201, .inl ksts))] U.heap ∧ hk_ D cB cI U)) (vp_Si (fun r => r = tw_PB_byteAt fbase kbase b fcnt fsts kcnt ksts p0 p1 p2)) 0 0 (fun _ => False) := by
  refine Met.ofW (cc := b_PB_byteAt) (maxL := 6) (ret := (some .int)) (by decide) rfl ?_
  intro p e s m args below meth c s₁ B0 hml hv
  obtain ⟨rfl, hP, hk⟩ := hv
  have hK := hk.1
  have hN := hk.2.1
  have hx := B0.exec
  have hb := B0.bytes
  have hr := B0.returns
  have hT : ∀ w ∈ lw_g, w.before _ s = true := fun w h => atoms_spec (ws := mw_PB_byteAt) B0.pre w (List.mem_cons_of_mem _ h)
  have hown : s.vm.findClass R_PB = some m.cls := findClass_of_methodNamed B0.named
  have hlocks := B0.notSynchronized
  have hl := lv_entry ([.ref aT, .int p0, .int p1, .int p2]) (n := 6) (Nat.le_of_ble_eq_true rfl)
  rw [lg_entry_eq]
  generalize (lg_sl ([.ref aT, .int p0, .int p1, .int p2]) ++ List.replicate (6 - (lg_sl ([.ref aT, .int p0, .int p1, .int p2])).length) Slot.unset).toArray = ls at hl ⊢
  have hl : lv_has ls 6 [(0, .ref aT), (1, .int p0), (2, .int p1), (3, .int p2)] := hl
  refine lv_aload_n hx hb d_PB_byteAt_0 rfl (lv_at hl 0 rfl) ?_
  refine va_get (D := D) (ci := 10) (v := .ref aY) (C := R_PB) (T := T_PB) (N := 8) hx hb hT u_PB hown hK hP 0 rfl rfl 2 (by decide) (hT _ k_318) (fun _ h9 => h9) rfl d_PB_byteAt_1 ?_
  refine lv_iload_n hx hb d_PB_byteAt_4 rfl (lv_at hl 1 rfl) ?_
  by_cases c_1 : p0 = 0
  · refine rd_Vq (val := some aF) (As := [.int p0]) (rest := []) ⟨hx, hb, hml, hown, hT⟩ (by have h9 := c_BS_numbered l D cB cI aY aS aW aF aK aN p0; rw [show tw_BS_numbered aF aK p0 = some aF from by unfold tw_BS_numbered; rw [if_pos c_1]] at h9; exact h9) (cwV 1 hT (gV_of k_357 k_358 k_359 k_4 kc_BS_numbered) rfl rfl rfl hd_BS_numbered ⟨Nat.le_of_ble_eq_true rfl, Nat.le_of_ble_eq_true rfl⟩) hk (hP.sub (ws' := [(aY, .inr (3, [.ref aS, .ref aW, .ref aF, .ref aK, .ref aN]))]) [1] rfl) (q0 := 0) rfl rfl rfl rfl hl.1 rfl (Nat.le_of_ble_eq_true rfl) d_PB_byteAt_5 ⟨Nat.zero_le _, Nat.zero_le _⟩ ?_
    refine lv_astore (lv' := [(4, .ref aF), (0, .ref aT), (1, .int p0), (2, .int p1), (3, .int p2)]) hx hb d_PB_byteAt_8 hl (by decide) rfl (fun ls hl => ?_)
    refine lv_aload hx hb d_PB_byteAt_10 (lv_at hl 0 rfl) ?_
    refine lv_ifnull hx hb d_PB_byteAt_12 ?_
    refine lv_iload_n hx hb d_PB_byteAt_15 rfl (lv_at hl 3 rfl) ?_
    refine lv_if_lt (tgt := 28) hx hb d_PB_byteAt_16 (by decide) (fun c_2 => ?_) (fun c_2 => ?_)
    · refine lv_iconst (v := -1) hx hb d_PB_byteAt_28 (by decide) ?_
      exact W.iret (v := (-1)) hx hb hr (fun t ht hW => ⟨(-1), rfl, (by rw [tw_PB_byteAt, if_pos c_1, if_pos c_2]; first | done | rfl), ht⟩) (fun _ h => by cases h) d_PB_byteAt_29
    · refine lv_iload_n hx hb d_PB_byteAt_19 rfl (lv_at hl 3 rfl) ?_
      refine lv_aload hx hb d_PB_byteAt_20 (lv_at hl 0 rfl) ?_
      refine va_getN (D := D) (ci := 2) (v := .int fcnt) (C := R_BE) (T := T_BE) (N := 3) hx hb hT u_BE hown hK hP 4 rfl rfl 2 (by decide) (va_Nw.use rfl (hN ("PipelineBelt", 85, "PipelineBelt$Belt", "count", "I", "PipelineBelt") (by decide))) (fun _ h9 => h9) rfl d_PB_byteAt_22 ?_
      refine lv_icmp_lt (tgt := 30) hx hb d_PB_byteAt_25 (by decide) (fun c_3 => ?_) (fun c_3 => ?_)
      · refine lv_aload hx hb d_PB_byteAt_30 (lv_at hl 0 rfl) ?_
        refine lv_iload_n hx hb d_PB_byteAt_32 rfl (lv_at hl 3 rfl) ?_
        refine rd_V (val := tw_BE_start fbase fcnt fsts p1) (As := [.int p1]) (rest := []) ⟨hx, hb, hml, hown, hT⟩ (c_BE_start l D cB cI aF aFs fbase fcnt fsts p1) (cwV 1 hT (gV_of k_1018 k_440 k_441 k_6 kc_BE_start) rfl rfl rfl hd_BE_start ⟨Nat.le_of_ble_eq_true rfl, Nat.le_of_ble_eq_true rfl⟩) hk (hP.sub (ws' := [(aF, .inr (2, [.int fbase, .ref aFs, .int fcnt])), (aFs, .inl (cI, 201, .inl fsts))]) [4, 5] rfl) (q0 := 0) rfl rfl rfl rfl hl.1 rfl (Nat.le_of_ble_eq_true rfl) d_PB_byteAt_33 ⟨Nat.zero_le _, Nat.zero_le _⟩ ?_
        refine lv_istore (lv' := [(5, .int (tw_BE_start fbase fcnt fsts p1)), (4, .ref aF), (0, .ref aT), (1, .int p0), (2, .int p1), (3, .int p2)]) hx hb d_PB_byteAt_36 hl (by decide) rfl (fun ls hl => ?_)
        refine lv_iload_n hx hb d_PB_byteAt_38 rfl (lv_at hl 5 rfl) ?_
        refine lv_if_lt (tgt := 57) hx hb d_PB_byteAt_39 (by decide) (fun c_4 => ?_) (fun c_4 => ?_)
        · refine lv_iconst (v := -1) hx hb d_PB_byteAt_57 (by decide) ?_
          exact W.iret (v := (-1)) hx hb hr (fun t ht hW => ⟨(-1), rfl, (by rw [tw_PB_byteAt, if_pos c_1, if_neg c_2, if_pos c_3, if_pos c_4]; first | done | rfl), ht⟩) (fun _ h => by cases h) d_PB_byteAt_58
        · refine lv_iload_n hx hb d_PB_byteAt_42 rfl (lv_at hl 5 rfl) ?_
          refine lv_aload hx hb d_PB_byteAt_43 (lv_at hl 1 rfl) ?_
          refine lv_iload_n hx hb d_PB_byteAt_45 rfl (lv_at hl 4 rfl) ?_
          refine lv_iconst (v := 1) hx hb d_PB_byteAt_46 (by decide) ?_
          refine lv_iadd hx hb d_PB_byteAt_47 ?_
          refine rd_V (val := tw_BE_start fbase fcnt fsts (p1 + 1)) (As := [.int (p1 + 1)]) (rest := [.int p2]) ⟨hx, hb, hml, hown, hT⟩ (c_BE_start l D cB cI aF aFs fbase fcnt fsts (p1 + 1)) (cwV 1 hT (gV_of k_1018 k_440 k_441 k_6 kc_BE_start) rfl rfl rfl hd_BE_start ⟨Nat.le_of_ble_eq_true rfl, Nat.le_of_ble_eq_true rfl⟩) hk (hP.sub (ws' := [(aF, .inr (2, [.int fbase, .ref aFs, .int fcnt])), (aFs, .inl (cI, 201, .inl fsts))]) [4, 5] rfl) (q0 := 0) rfl rfl rfl rfl hl.1 rfl (Nat.le_of_ble_eq_true rfl) d_PB_byteAt_48 ⟨Nat.zero_le _, Nat.zero_le _⟩ ?_
          refine lv_iload hx hb d_PB_byteAt_51 (lv_at hl 0 rfl) ?_
          refine lv_isub hx hb d_PB_byteAt_53 ?_
          refine lv_icmp_lt (tgt := 59) hx hb d_PB_byteAt_54 (by decide) (fun c_5 => ?_) (fun c_5 => ?_)
          · refine lv_aload_n hx hb d_PB_byteAt_59 rfl (lv_at hl 2 rfl) ?_
            refine va_get (D := D) (ci := 10) (v := .ref aS) (C := R_PB) (T := T_PB) (N := 8) hx hb hT u_PB hown hK hP 0 rfl rfl 0 (by decide) (hT _ k_316) (fun _ h9 => h9) rfl d_PB_byteAt_60 ?_
            refine lv_iload hx hb d_PB_byteAt_63 (lv_at hl 0 rfl) ?_
            refine lv_iload_n hx hb d_PB_byteAt_65 rfl (lv_at hl 5 rfl) ?_
            refine lv_iadd hx hb d_PB_byteAt_66 ?_
            refine rd_V (val := tw_ST_at b ((tw_BE_start fbase fcnt fsts p1) + p2)) (As := [.int ((tw_BE_start fbase fcnt fsts p1) + p2)]) (rest := []) ⟨hx, hb, hml, hown, hT⟩ (c_ST_at l D cB cI aS aB b ((tw_BE_start fbase fcnt fsts p1) + p2)) (cwV 1 hT (gV_of k_1023 k_378 k_379 k_2 kc_ST_at) rfl rfl rfl hd_ST_at ⟨Nat.le_of_ble_eq_true rfl, Nat.le_of_ble_eq_true rfl⟩) hk (hP.sub (ws' := [(aS, .inr (0, [.ref aB])), (aB, .inl (cB, 202000, .inl (by_ b)))]) [2, 3] rfl) (q0 := 0) rfl rfl rfl rfl hl.1 rfl (Nat.le_of_ble_eq_true rfl) d_PB_byteAt_67 ⟨Nat.zero_le _, Nat.zero_le _⟩ ?_
            exact W.iret (v := tw_ST_at b ((tw_BE_start fbase fcnt fsts p1) + p2)) hx hb hr (fun t ht hW => ⟨tw_ST_at b ((tw_BE_start fbase fcnt fsts p1) + p2), rfl, (by rw [tw_PB_byteAt, if_pos c_1, if_neg c_2, if_pos c_3, if_neg c_4, if_pos c_5]; first | done | rfl), ht⟩) (fun _ h => by cases h) d_PB_byteAt_70
          · refine lv_iconst (v := -1) hx hb d_PB_byteAt_57 (by decide) ?_
            exact W.iret (v := (-1)) hx hb hr (fun t ht hW => ⟨(-1), rfl, (by rw [tw_PB_byteAt, if_pos c_1, if_neg c_2, if_pos c_3, if_neg c_4, if_neg c_5]; first | done | rfl), ht⟩) (fun _ h => by cases h) d_PB_byteAt_58
      · refine lv_iconst (v := -1) hx hb d_PB_byteAt_28 (by decide) ?_
        exact W.iret (v := (-1)) hx hb hr (fun t ht hW => ⟨(-1), rfl, (by rw [tw_PB_byteAt, if_pos c_1, if_neg c_2, if_neg c_3]; first | done | rfl), ht⟩) (fun _ h => by cases h) d_PB_byteAt_29
  by_cases c_6 : p0 = 1
  · refine rd_Vq (val := some aK) (As := [.int p0]) (rest := []) ⟨hx, hb, hml, hown, hT⟩ (by have h9 := c_BS_numbered l D cB cI aY aS aW aF aK aN p0; rw [show tw_BS_numbered aF aK p0 = some aK from by unfold tw_BS_numbered; rw [if_neg c_1, if_pos c_6]] at h9; exact h9) (cwV 1 hT (gV_of k_357 k_358 k_359 k_4 kc_BS_numbered) rfl rfl rfl hd_BS_numbered ⟨Nat.le_of_ble_eq_true rfl, Nat.le_of_ble_eq_true rfl⟩) hk (hP.sub (ws' := [(aY, .inr (3, [.ref aS, .ref aW, .ref aF, .ref aK, .ref aN]))]) [1] rfl) (q0 := 0) rfl rfl rfl rfl hl.1 rfl (Nat.le_of_ble_eq_true rfl) d_PB_byteAt_5 ⟨Nat.zero_le _, Nat.zero_le _⟩ ?_
    refine lv_astore (lv' := [(4, .ref aK), (0, .ref aT), (1, .int p0), (2, .int p1), (3, .int p2)]) hx hb d_PB_byteAt_8 hl (by decide) rfl (fun ls hl => ?_)
    refine lv_aload hx hb d_PB_byteAt_10 (lv_at hl 0 rfl) ?_
    refine lv_ifnull hx hb d_PB_byteAt_12 ?_
    refine lv_iload_n hx hb d_PB_byteAt_15 rfl (lv_at hl 3 rfl) ?_
    refine lv_if_lt (tgt := 28) hx hb d_PB_byteAt_16 (by decide) (fun c_7 => ?_) (fun c_7 => ?_)
    · refine lv_iconst (v := -1) hx hb d_PB_byteAt_28 (by decide) ?_
      exact W.iret (v := (-1)) hx hb hr (fun t ht hW => ⟨(-1), rfl, (by rw [tw_PB_byteAt, if_neg c_1, if_pos c_6, if_pos c_7]; first | done | rfl), ht⟩) (fun _ h => by cases h) d_PB_byteAt_29
    · refine lv_iload_n hx hb d_PB_byteAt_19 rfl (lv_at hl 3 rfl) ?_
      refine lv_aload hx hb d_PB_byteAt_20 (lv_at hl 0 rfl) ?_
      refine va_getN (D := D) (ci := 2) (v := .int kcnt) (C := R_BE) (T := T_BE) (N := 3) hx hb hT u_BE hown hK hP 6 rfl rfl 2 (by decide) (va_Nw.use rfl (hN ("PipelineBelt", 85, "PipelineBelt$Belt", "count", "I", "PipelineBelt") (by decide))) (fun _ h9 => h9) rfl d_PB_byteAt_22 ?_
      refine lv_icmp_lt (tgt := 30) hx hb d_PB_byteAt_25 (by decide) (fun c_8 => ?_) (fun c_8 => ?_)
      · refine lv_aload hx hb d_PB_byteAt_30 (lv_at hl 0 rfl) ?_
        refine lv_iload_n hx hb d_PB_byteAt_32 rfl (lv_at hl 3 rfl) ?_
        refine rd_V (val := tw_BE_start kbase kcnt ksts p1) (As := [.int p1]) (rest := []) ⟨hx, hb, hml, hown, hT⟩ (c_BE_start l D cB cI aK aKs kbase kcnt ksts p1) (cwV 1 hT (gV_of k_1018 k_440 k_441 k_6 kc_BE_start) rfl rfl rfl hd_BE_start ⟨Nat.le_of_ble_eq_true rfl, Nat.le_of_ble_eq_true rfl⟩) hk (hP.sub (ws' := [(aK, .inr (2, [.int kbase, .ref aKs, .int kcnt])), (aKs, .inl (cI, 201, .inl ksts))]) [6, 7] rfl) (q0 := 0) rfl rfl rfl rfl hl.1 rfl (Nat.le_of_ble_eq_true rfl) d_PB_byteAt_33 ⟨Nat.zero_le _, Nat.zero_le _⟩ ?_
        refine lv_istore (lv' := [(5, .int (tw_BE_start kbase kcnt ksts p1)), (4, .ref aK), (0, .ref aT), (1, .int p0), (2, .int p1), (3, .int p2)]) hx hb d_PB_byteAt_36 hl (by decide) rfl (fun ls hl => ?_)
        refine lv_iload_n hx hb d_PB_byteAt_38 rfl (lv_at hl 5 rfl) ?_
        refine lv_if_lt (tgt := 57) hx hb d_PB_byteAt_39 (by decide) (fun c_9 => ?_) (fun c_9 => ?_)
        · refine lv_iconst (v := -1) hx hb d_PB_byteAt_57 (by decide) ?_
          exact W.iret (v := (-1)) hx hb hr (fun t ht hW => ⟨(-1), rfl, (by rw [tw_PB_byteAt, if_neg c_1, if_pos c_6, if_neg c_7, if_pos c_8, if_pos c_9]; first | done | rfl), ht⟩) (fun _ h => by cases h) d_PB_byteAt_58
        · refine lv_iload_n hx hb d_PB_byteAt_42 rfl (lv_at hl 5 rfl) ?_
          refine lv_aload hx hb d_PB_byteAt_43 (lv_at hl 1 rfl) ?_
          refine lv_iload_n hx hb d_PB_byteAt_45 rfl (lv_at hl 4 rfl) ?_
          refine lv_iconst (v := 1) hx hb d_PB_byteAt_46 (by decide) ?_
          refine lv_iadd hx hb d_PB_byteAt_47 ?_
          refine rd_V (val := tw_BE_start kbase kcnt ksts (p1 + 1)) (As := [.int (p1 + 1)]) (rest := [.int p2]) ⟨hx, hb, hml, hown, hT⟩ (c_BE_start l D cB cI aK aKs kbase kcnt ksts (p1 + 1)) (cwV 1 hT (gV_of k_1018 k_440 k_441 k_6 kc_BE_start) rfl rfl rfl hd_BE_start ⟨Nat.le_of_ble_eq_true rfl, Nat.le_of_ble_eq_true rfl⟩) hk (hP.sub (ws' := [(aK, .inr (2, [.int kbase, .ref aKs, .int kcnt])), (aKs, .inl (cI, 201, .inl ksts))]) [6, 7] rfl) (q0 := 0) rfl rfl rfl rfl hl.1 rfl (Nat.le_of_ble_eq_true rfl) d_PB_byteAt_48 ⟨Nat.zero_le _, Nat.zero_le _⟩ ?_
          refine lv_iload hx hb d_PB_byteAt_51 (lv_at hl 0 rfl) ?_
          refine lv_isub hx hb d_PB_byteAt_53 ?_
          refine lv_icmp_lt (tgt := 59) hx hb d_PB_byteAt_54 (by decide) (fun c_10 => ?_) (fun c_10 => ?_)
          · refine lv_aload_n hx hb d_PB_byteAt_59 rfl (lv_at hl 2 rfl) ?_
            refine va_get (D := D) (ci := 10) (v := .ref aS) (C := R_PB) (T := T_PB) (N := 8) hx hb hT u_PB hown hK hP 0 rfl rfl 0 (by decide) (hT _ k_316) (fun _ h9 => h9) rfl d_PB_byteAt_60 ?_
            refine lv_iload hx hb d_PB_byteAt_63 (lv_at hl 0 rfl) ?_
            refine lv_iload_n hx hb d_PB_byteAt_65 rfl (lv_at hl 5 rfl) ?_
            refine lv_iadd hx hb d_PB_byteAt_66 ?_
            refine rd_V (val := tw_ST_at b ((tw_BE_start kbase kcnt ksts p1) + p2)) (As := [.int ((tw_BE_start kbase kcnt ksts p1) + p2)]) (rest := []) ⟨hx, hb, hml, hown, hT⟩ (c_ST_at l D cB cI aS aB b ((tw_BE_start kbase kcnt ksts p1) + p2)) (cwV 1 hT (gV_of k_1023 k_378 k_379 k_2 kc_ST_at) rfl rfl rfl hd_ST_at ⟨Nat.le_of_ble_eq_true rfl, Nat.le_of_ble_eq_true rfl⟩) hk (hP.sub (ws' := [(aS, .inr (0, [.ref aB])), (aB, .inl (cB, 202000, .inl (by_ b)))]) [2, 3] rfl) (q0 := 0) rfl rfl rfl rfl hl.1 rfl (Nat.le_of_ble_eq_true rfl) d_PB_byteAt_67 ⟨Nat.zero_le _, Nat.zero_le _⟩ ?_
            exact W.iret (v := tw_ST_at b ((tw_BE_start kbase kcnt ksts p1) + p2)) hx hb hr (fun t ht hW => ⟨tw_ST_at b ((tw_BE_start kbase kcnt ksts p1) + p2), rfl, (by rw [tw_PB_byteAt, if_neg c_1, if_pos c_6, if_neg c_7, if_pos c_8, if_neg c_9, if_pos c_10]; first | done | rfl), ht⟩) (fun _ h => by cases h) d_PB_byteAt_70
          · refine lv_iconst (v := -1) hx hb d_PB_byteAt_57 (by decide) ?_
            exact W.iret (v := (-1)) hx hb hr (fun t ht hW => ⟨(-1), rfl, (by rw [tw_PB_byteAt, if_neg c_1, if_pos c_6, if_neg c_7, if_pos c_8, if_neg c_9, if_neg c_10]; first | done | rfl), ht⟩) (fun _ h => by cases h) d_PB_byteAt_58
      · refine lv_iconst (v := -1) hx hb d_PB_byteAt_28 (by decide) ?_
        exact W.iret (v := (-1)) hx hb hr (fun t ht hW => ⟨(-1), rfl, (by rw [tw_PB_byteAt, if_neg c_1, if_pos c_6, if_neg c_7, if_neg c_8]; first | done | rfl), ht⟩) (fun _ h => by cases h) d_PB_byteAt_29
  refine rd_Vq (val := none) (As := [.int p0]) (rest := []) ⟨hx, hb, hml, hown, hT⟩ (by have h9 := c_BS_numbered l D cB cI aY aS aW aF aK aN p0; rw [show tw_BS_numbered aF aK p0 = none from by unfold tw_BS_numbered; rw [if_neg c_1, if_neg c_6]] at h9; exact h9) (cwV 1 hT (gV_of k_357 k_358 k_359 k_4 kc_BS_numbered) rfl rfl rfl hd_BS_numbered ⟨Nat.le_of_ble_eq_true rfl, Nat.le_of_ble_eq_true rfl⟩) hk (hP.sub (ws' := [(aY, .inr (3, [.ref aS, .ref aW, .ref aF, .ref aK, .ref aN]))]) [1] rfl) (q0 := 0) rfl rfl rfl rfl hl.1 rfl (Nat.le_of_ble_eq_true rfl) d_PB_byteAt_5 ⟨Nat.zero_le _, Nat.zero_le _⟩ ?_
  refine lv_astoreN (lv' := [(4, .null), (0, .ref aT), (1, .int p0), (2, .int p1), (3, .int p2)]) hx hb d_PB_byteAt_8 hl (by decide) rfl (fun ls hl => ?_)
  refine lv_aloadN hx hb d_PB_byteAt_10 (lv_at hl 0 rfl) ?_
  refine lv_ifnullN (tgt := 28) hx hb d_PB_byteAt_12 (by decide) ?_
  refine lv_iconst (v := -1) hx hb d_PB_byteAt_28 (by decide) ?_
  exact W.iret (v := (-1)) hx hb hr (fun t ht hW => ⟨(-1), rfl, (by rw [tw_PB_byteAt, if_neg c_1, if_neg c_6]; first | done | rfl), ht⟩) (fun _ h => by cases h) d_PB_byteAt_29
abbrev wd_PB_clear (aT aS aC aY aH aU aZ aX aW aF aK aN aFs aKs : Nat) (cB cI : ClassId) (fbase : Int32) (kbase : Int32) (onT : Int32) (fcnt : Int32) (kcnt : Int32) : va_W := [(aT, .inr (10, [.ref aS, .ref aC, .ref aY, .ref aH, .ref aU, .ref aZ, .ref aX, .int onT])), (aY, .inr (3, [.ref aS, .ref aW, .ref aF, .ref aK, .ref aN])), (aF, .inr (2, [.int fbase, .ref aFs, .int fcnt])), (aK, .inr (2, [.int kbase, .ref aKs, .int kcnt]))]
set_option maxHeartbeats 4000000 in
set_option maxRecDepth 100000 in
theorem c_PB_clear (l : Launch) (D : va_G) (cB cI : ClassId) (aT aS aC aY aH aU aZ aX aW aF aK aN aFs aKs : Nat) (fbase : Int32) (kbase : Int32) (onT : Int32) (sz : Nat) (fcnt : Int32) (kcnt : Int32) (p0 : Int32) : Met l y_PB_clear mw_PB_clear { frames := 1, cells := 0, slots := 0, locals := 21 } (va_Pc [.ref aT, .int p0] (mt_P D cB cI (wd_PB_clear aT aS aC aY aH aU aZ aX aW aF aK aN aFs aKs cB cI fbase kbase onT fcnt kcnt) sz)) (va_Qi (fun (r : Int32) (u : Int32 × Int32) => (r, u) = tw_PB_clear fbase kbase fcnt kcnt p0) (mt_B D (va_A (wd_PB_clear aT aS aC aY aH aU aZ aX aW aF aK aN aFs aKs cB cI fbase kbase onT fcnt kcnt) sz) (fun u => wd_PB_clear aT aS aC aY aH aU aZ aX aW aF aK aN aFs aKs cB cI fbase kbase onT u.1 u.2)) (va_A (wd_PB_clear aT aS aC aY aH aU aZ aX aW aF aK aN aFs aKs cB cI fbase kbase onT fcnt kcnt) sz)) 0 0 (va_A (wd_PB_clear aT aS aC aY aH aU aZ aX aW aF aK aN aFs aKs cB cI fbase kbase onT fcnt kcnt) sz) := by
  refine Met.ofW (cc := b_PB_clear) (maxL := 4) (ret := (some .int)) (by decide) rfl ?_
  intro p e s m args below meth c s₁ B0 hml hv
  obtain ⟨rfl, hsz, hP, hk, hD0⟩ := hv
  have hK := hk.1
  have hN := hk.2.1
  have hx := B0.exec
  have hb := B0.bytes
  have hr := B0.returns
  have hT : ∀ w ∈ lw_g, w.before _ s = true := fun w h => atoms_spec (ws := mw_PB_clear) B0.pre w (List.mem_cons_of_mem _ h)
  have hown : s.vm.findClass R_PB = some m.cls := findClass_of_methodNamed B0.named
  have hlocks := B0.notSynchronized
  subst hsz
  have hD := hD0.self (sz := s.heap.size)
  generalize hAe : va_A [(aT, .inr (10, [.ref aS, .ref aC, .ref aY, .ref aH, .ref aU, .ref aZ, .ref aX, .int onT])), (aY, .inr (3, [.ref aS, .ref aW, .ref aF, .ref aK, .ref aN])), (aF, .inr (2, [.int fbase, .ref aFs, .int fcnt])), (aK, .inr (2, [.int kbase, .ref aKs, .int kcnt]))] s.heap.size = A at hD ⊢
  have hA : ∀ q : Nat, s.heap.size ≤ q → A q := fun q h => by rw [← hAe]; exact Or.inr h
  have hS : va_S A s.heap s.heap [] := va_S.rf
  have hl := lv_entry ([.ref aT, .int p0]) (n := 4) (Nat.le_of_ble_eq_true rfl)
  rw [lg_entry_eq]
  generalize (lg_sl ([.ref aT, .int p0]) ++ List.replicate (4 - (lg_sl ([.ref aT, .int p0])).length) Slot.unset).toArray = ls at hl ⊢
  have hl : lv_has ls 4 [(0, .ref aT), (1, .int p0)] := hl
  refine lv_aload_n hx hb d_PB_clear_0 rfl (lv_at hl 0 rfl) ?_
  refine va_get (D := D) (ci := 10) (v := .ref aY) (C := R_PB) (T := T_PB) (N := 8) hx hb hT u_PB hown hK hP 0 rfl rfl 2 (by decide) (hT _ k_318) (fun _ h9 => h9) rfl d_PB_clear_1 ?_
  refine lv_iload_n hx hb d_PB_clear_4 rfl (lv_at hl 1 rfl) ?_
  by_cases c_1 : p0 = 0
  · refine rd_Vq (val := some aF) (As := [.int p0]) (rest := []) ⟨hx, hb, hml, hown, hT⟩ (by have h9 := c_BS_numbered l D cB cI aY aS aW aF aK aN p0; rw [show tw_BS_numbered aF aK p0 = some aF from by unfold tw_BS_numbered; rw [if_pos c_1]] at h9; exact h9) (cwV 1 hT (gV_of k_357 k_358 k_359 k_4 kc_BS_numbered) rfl rfl rfl hd_BS_numbered ⟨Nat.le_of_ble_eq_true rfl, Nat.le_of_ble_eq_true rfl⟩) hk (hP.sub (ws' := [(aY, .inr (3, [.ref aS, .ref aW, .ref aF, .ref aK, .ref aN]))]) [1] rfl) (q0 := 0) rfl rfl rfl rfl hl.1 rfl (Nat.le_of_ble_eq_true rfl) d_PB_clear_5 ⟨Nat.zero_le _, Nat.zero_le _⟩ ?_
    refine lv_astore_n (lv' := [(2, .ref aF), (0, .ref aT), (1, .int p0)]) hx hb d_PB_clear_8 rfl hl (by decide) rfl (fun ls hl => ?_)
    refine lv_aload_n hx hb d_PB_clear_9 rfl (lv_at hl 0 rfl) ?_
    refine lv_ifnonnull (tgt := 15) hx hb d_PB_clear_10 (by decide) ?_
    refine lv_aload_n hx hb d_PB_clear_15 rfl (lv_at hl 0 rfl) ?_
    refine va_getN (D := D) (ci := 2) (v := .int fcnt) (C := R_BE) (T := T_BE) (N := 3) hx hb hT u_BE hown hK hP 2 rfl rfl 2 (by decide) (va_Nw.use rfl (hN ("PipelineBelt", 85, "PipelineBelt$Belt", "count", "I", "PipelineBelt") (by decide))) (fun _ h9 => h9) rfl d_PB_clear_16 ?_
    refine lv_istore_n (lv' := [(3, .int fcnt), (2, .ref aF), (0, .ref aT), (1, .int p0)]) hx hb d_PB_clear_19 rfl hl (by decide) rfl (fun ls hl => ?_)
    refine lv_aload_n hx hb d_PB_clear_20 rfl (lv_at hl 1 rfl) ?_
    refine lv_iconst (v := 0) hx hb d_PB_clear_21 (by decide) ?_
    refine va_putN (D := D) (ci := 2) (v := .int 0) (ty := .int) (C := R_BE) (T := T_BE) (N := 3) hx hb hT u_BE ty_BE tyok_BE nm_BE hown hK hP hD hS 2 rfl rfl 2 (by decide) (va_Nw.use rfl (hN ("PipelineBelt", 85, "PipelineBelt$Belt", "count", "I", "PipelineBelt") (by decide))) (fun _ h9 => h9) rfl (by decide +kernel) (rfl) (rfl) (Nat.le_of_ble_eq_true rfl) d_PB_clear_22 (fun H locs hP hD hS => ?_)
    have hP : va_P D vwCl [(aT, .inr (10, [.ref aS, .ref aC, .ref aY, .ref aH, .ref aU, .ref aZ, .ref aX, .int onT])), (aY, .inr (3, [.ref aS, .ref aW, .ref aF, .ref aK, .ref aN])), (aF, .inr (2, [.int fbase, .ref aFs, .int 0])), (aK, .inr (2, [.int kbase, .ref aKs, .int kcnt]))] H := hP
    have hD : va_D A [(aT, .inr (10, [.ref aS, .ref aC, .ref aY, .ref aH, .ref aU, .ref aZ, .ref aX, .int onT])), (aY, .inr (3, [.ref aS, .ref aW, .ref aF, .ref aK, .ref aN])), (aF, .inr (2, [.int fbase, .ref aFs, .int 0])), (aK, .inr (2, [.int kbase, .ref aKs, .int kcnt]))] := hD
    refine lv_iload_n hx hb d_PB_clear_25 rfl (lv_at hl 0 rfl) ?_
    exact W.iret (v := fcnt) hx hb hr (fun t ht hW => ⟨⟨fcnt, (0, kcnt), rfl, (by rw [tw_PB_clear, if_pos c_1]; first | done | rfl), by rw [ht]; exact hP, hD⟩, hS.F ht⟩) hS.2.2 d_PB_clear_26
  by_cases c_2 : p0 = 1
  · refine rd_Vq (val := some aK) (As := [.int p0]) (rest := []) ⟨hx, hb, hml, hown, hT⟩ (by have h9 := c_BS_numbered l D cB cI aY aS aW aF aK aN p0; rw [show tw_BS_numbered aF aK p0 = some aK from by unfold tw_BS_numbered; rw [if_neg c_1, if_pos c_2]] at h9; exact h9) (cwV 1 hT (gV_of k_357 k_358 k_359 k_4 kc_BS_numbered) rfl rfl rfl hd_BS_numbered ⟨Nat.le_of_ble_eq_true rfl, Nat.le_of_ble_eq_true rfl⟩) hk (hP.sub (ws' := [(aY, .inr (3, [.ref aS, .ref aW, .ref aF, .ref aK, .ref aN]))]) [1] rfl) (q0 := 0) rfl rfl rfl rfl hl.1 rfl (Nat.le_of_ble_eq_true rfl) d_PB_clear_5 ⟨Nat.zero_le _, Nat.zero_le _⟩ ?_
    refine lv_astore_n (lv' := [(2, .ref aK), (0, .ref aT), (1, .int p0)]) hx hb d_PB_clear_8 rfl hl (by decide) rfl (fun ls hl => ?_)
    refine lv_aload_n hx hb d_PB_clear_9 rfl (lv_at hl 0 rfl) ?_
    refine lv_ifnonnull (tgt := 15) hx hb d_PB_clear_10 (by decide) ?_
    refine lv_aload_n hx hb d_PB_clear_15 rfl (lv_at hl 0 rfl) ?_
    refine va_getN (D := D) (ci := 2) (v := .int kcnt) (C := R_BE) (T := T_BE) (N := 3) hx hb hT u_BE hown hK hP 3 rfl rfl 2 (by decide) (va_Nw.use rfl (hN ("PipelineBelt", 85, "PipelineBelt$Belt", "count", "I", "PipelineBelt") (by decide))) (fun _ h9 => h9) rfl d_PB_clear_16 ?_
    refine lv_istore_n (lv' := [(3, .int kcnt), (2, .ref aK), (0, .ref aT), (1, .int p0)]) hx hb d_PB_clear_19 rfl hl (by decide) rfl (fun ls hl => ?_)
    refine lv_aload_n hx hb d_PB_clear_20 rfl (lv_at hl 1 rfl) ?_
    refine lv_iconst (v := 0) hx hb d_PB_clear_21 (by decide) ?_
    refine va_putN (D := D) (ci := 2) (v := .int 0) (ty := .int) (C := R_BE) (T := T_BE) (N := 3) hx hb hT u_BE ty_BE tyok_BE nm_BE hown hK hP hD hS 3 rfl rfl 2 (by decide) (va_Nw.use rfl (hN ("PipelineBelt", 85, "PipelineBelt$Belt", "count", "I", "PipelineBelt") (by decide))) (fun _ h9 => h9) rfl (by decide +kernel) (rfl) (rfl) (Nat.le_of_ble_eq_true rfl) d_PB_clear_22 (fun H locs hP hD hS => ?_)
    have hP : va_P D vwCl [(aT, .inr (10, [.ref aS, .ref aC, .ref aY, .ref aH, .ref aU, .ref aZ, .ref aX, .int onT])), (aY, .inr (3, [.ref aS, .ref aW, .ref aF, .ref aK, .ref aN])), (aF, .inr (2, [.int fbase, .ref aFs, .int fcnt])), (aK, .inr (2, [.int kbase, .ref aKs, .int 0]))] H := hP
    have hD : va_D A [(aT, .inr (10, [.ref aS, .ref aC, .ref aY, .ref aH, .ref aU, .ref aZ, .ref aX, .int onT])), (aY, .inr (3, [.ref aS, .ref aW, .ref aF, .ref aK, .ref aN])), (aF, .inr (2, [.int fbase, .ref aFs, .int fcnt])), (aK, .inr (2, [.int kbase, .ref aKs, .int 0]))] := hD
    refine lv_iload_n hx hb d_PB_clear_25 rfl (lv_at hl 0 rfl) ?_
    exact W.iret (v := kcnt) hx hb hr (fun t ht hW => ⟨⟨kcnt, (fcnt, 0), rfl, (by rw [tw_PB_clear, if_neg c_1, if_pos c_2]; first | done | rfl), by rw [ht]; exact hP, hD⟩, hS.F ht⟩) hS.2.2 d_PB_clear_26
  refine rd_Vq (val := none) (As := [.int p0]) (rest := []) ⟨hx, hb, hml, hown, hT⟩ (by have h9 := c_BS_numbered l D cB cI aY aS aW aF aK aN p0; rw [show tw_BS_numbered aF aK p0 = none from by unfold tw_BS_numbered; rw [if_neg c_1, if_neg c_2]] at h9; exact h9) (cwV 1 hT (gV_of k_357 k_358 k_359 k_4 kc_BS_numbered) rfl rfl rfl hd_BS_numbered ⟨Nat.le_of_ble_eq_true rfl, Nat.le_of_ble_eq_true rfl⟩) hk (hP.sub (ws' := [(aY, .inr (3, [.ref aS, .ref aW, .ref aF, .ref aK, .ref aN]))]) [1] rfl) (q0 := 0) rfl rfl rfl rfl hl.1 rfl (Nat.le_of_ble_eq_true rfl) d_PB_clear_5 ⟨Nat.zero_le _, Nat.zero_le _⟩ ?_
  refine lv_astore_nN (lv' := [(2, .null), (0, .ref aT), (1, .int p0)]) hx hb d_PB_clear_8 rfl hl (by decide) rfl (fun ls hl => ?_)
  refine lv_aload_nN hx hb d_PB_clear_9 rfl (lv_at hl 0 rfl) ?_
  refine lv_ifnonnullN hx hb d_PB_clear_10 ?_
  refine lv_iconst (v := -1) hx hb d_PB_clear_13 (by decide) ?_
  exact W.iret (v := (-1)) hx hb hr (fun t ht hW => ⟨⟨(-1), (fcnt, kcnt), rfl, (by rw [tw_PB_clear, if_neg c_1, if_neg c_2]; first | done | rfl), by rw [ht]; exact hP, hD⟩, hS.F ht⟩) hS.2.2 d_PB_clear_14
abbrev wd_PB_swap (aT aS aC aY aH aU aZ aX aW aF aK aN : Nat) (cB cI : ClassId) (onT : Int32) : va_W := [(aT, .inr (10, [.ref aS, .ref aC, .ref aY, .ref aH, .ref aU, .ref aZ, .ref aX, .int onT])), (aY, .inr (3, [.ref aS, .ref aW, .ref aF, .ref aK, .ref aN]))]
set_option maxHeartbeats 4000000 in
set_option maxRecDepth 100000 in
theorem c_PB_swap (l : Launch) (D : va_G) (cB cI : ClassId) (aT aS aC aY aH aU aZ aX aW aF aK aN : Nat) (onT : Int32) (sz : Nat)  : Met l y_PB_swap mw_PB_swap { frames := 1, cells := 0, slots := 0, locals := 21 } (va_Pc [.ref aT] (mt_P D cB cI (wd_PB_swap aT aS aC aY aH aU aZ aX aW aF aK aN cB cI onT) sz)) (va_Qv (fun (u : Unit) => u = tw_PB_swap) (mt_B D (va_A (wd_PB_swap aT aS aC aY aH aU aZ aX aW aF aK aN cB cI onT) sz) (fun (_ : Unit) => [(aT, .inr (10, [.ref aS, .ref aC, .ref aY, .ref aH, .ref aU, .ref aZ, .ref aX, .int onT])), (aY, .inr (3, [.ref aS, .ref aW, .ref aK, .ref aF, .ref aN]))])) (va_A (wd_PB_swap aT aS aC aY aH aU aZ aX aW aF aK aN cB cI onT) sz)) 0 0 (va_A (wd_PB_swap aT aS aC aY aH aU aZ aX aW aF aK aN cB cI onT) sz) := by
  refine Met.ofW (cc := b_PB_swap) (maxL := 1) (ret := none) (by decide) rfl ?_
  intro p e s m args below meth c s₁ B0 hml hv
  obtain ⟨rfl, hsz, hP, hk, hD0⟩ := hv
  have hK := hk.1
  have hN := hk.2.1
  have hx := B0.exec
  have hb := B0.bytes
  have hr := B0.returns
  have hT : ∀ w ∈ lw_g, w.before _ s = true := fun w h => atoms_spec (ws := mw_PB_swap) B0.pre w (List.mem_cons_of_mem _ h)
  have hown : s.vm.findClass R_PB = some m.cls := findClass_of_methodNamed B0.named
  have hlocks := B0.notSynchronized
  subst hsz
  have hD := hD0.self (sz := s.heap.size)
  generalize hAe : va_A [(aT, .inr (10, [.ref aS, .ref aC, .ref aY, .ref aH, .ref aU, .ref aZ, .ref aX, .int onT])), (aY, .inr (3, [.ref aS, .ref aW, .ref aF, .ref aK, .ref aN]))] s.heap.size = A at hD ⊢
  have hA : ∀ q : Nat, s.heap.size ≤ q → A q := fun q h => by rw [← hAe]; exact Or.inr h
  have hS : va_S A s.heap s.heap [] := va_S.rf
  have hl := lv_entry ([.ref aT]) (n := 1) (Nat.le_of_ble_eq_true rfl)
  rw [lg_entry_eq]
  generalize (lg_sl ([.ref aT]) ++ List.replicate (1 - (lg_sl ([.ref aT])).length) Slot.unset).toArray = ls at hl ⊢
  have hl : lv_has ls 1 [(0, .ref aT)] := hl
  refine lv_aload_n hx hb d_PB_swap_0 rfl (lv_at hl 0 rfl) ?_
  refine va_get (D := D) (ci := 10) (v := .ref aY) (C := R_PB) (T := T_PB) (N := 8) hx hb hT u_PB hown hK hP 0 rfl rfl 2 (by decide) (hT _ k_318) (fun _ h9 => h9) rfl d_PB_swap_1 ?_
  refine mt_Vv (As := []) (rest := []) (wr := [(aT, .inr (10, [.ref aS, .ref aC, .ref aY, .ref aH, .ref aU, .ref aZ, .ref aX, .int onT]))]) ⟨hx, hb, hml, hown, hT⟩ (c_BS_exchange l D cB cI aY aS aW aF aK aN _ ) (cwV 0 hT (gV_of k_1032 k_1033 k_1034 k_4 kc_BS_exchange) rfl rfl rfl hd_BS_exchange ⟨Nat.le_of_ble_eq_true rfl, Nat.le_of_ble_eq_true rfl⟩) hk hP hD hS hA [1] [0] rfl rfl rfl (by decide) (by decide) (by decide) (q0 := 0) rfl rfl rfl rfl hl.1 rfl (Nat.le_of_ble_eq_true rfl) d_PB_swap_4 ⟨Nat.zero_le _, Nat.zero_le _⟩ (fun u_1 H locs hw_1 hP hD hS => ?_)
  have hP : va_P D vwCl [(aT, .inr (10, [.ref aS, .ref aC, .ref aY, .ref aH, .ref aU, .ref aZ, .ref aX, .int onT])), (aY, .inr (3, [.ref aS, .ref aW, .ref aK, .ref aF, .ref aN]))] H := hP.sub [0, 1] rfl
  have hD : va_D A [(aT, .inr (10, [.ref aS, .ref aC, .ref aY, .ref aH, .ref aU, .ref aZ, .ref aX, .int onT])), (aY, .inr (3, [.ref aS, .ref aW, .ref aK, .ref aF, .ref aN]))] := hD.sub [0, 1] (by decide) rfl
  exact W.vret hx hb hr (fun t ht hW => ⟨⟨(), rfl, (by rw [tw_PB_swap]; first | done | rfl), by rw [ht]; exact hP, hD⟩, hS.F ht⟩) hS.2.2 d_PB_swap_7
set_option maxHeartbeats 4000000 in
set_option maxRecDepth 100000 in
theorem c_PB_stageOnTape (l : Launch) (D : va_G) (cB cI : ClassId) (aT aS aC aY aH aU aZ aX aB : Nat) (onT : Int32) (b : Nat → UInt8) : Met l y_PB_stageOnTape mw_PB_stageOnTape { frames := 5, cells := 0, slots := 0, locals := 111 } (va_Pc [.ref aT] (fun U => va_P D vwCl [(aT, .inr (10, [.ref aS, .ref aC, .ref aY, .ref aH, .ref aU, .ref aZ, .ref aX, .int onT])), (aS, .inr (0, [.ref aB])), (aB, .inl (cB, 202000, .inl (by_ b)))] U.heap ∧ hk_ D cB cI U ∧ sk_ D U U.heap)) (vp_Si (fun r => r = tw_PB_stageOnTape b)) 0 0 (fun _ => False) := by
  refine Met.ofW (cc := b_PB_stageOnTape) (maxL := 3) (ret := (some .int)) (by decide) rfl ?_
  intro p e s m args below meth c s₁ B0 hml hv
  obtain ⟨rfl, hP, hk, hz⟩ := hv
  have hK := hk.1
  have hN := hk.2.1
  have hx := B0.exec
  have hb := B0.bytes
  have hr := B0.returns
  have hT : ∀ w ∈ lw_g, w.before _ s = true := fun w h => atoms_spec (ws := mw_PB_stageOnTape) B0.pre w (List.mem_cons_of_mem _ h)
  have hown : s.vm.findClass R_PB = some m.cls := findClass_of_methodNamed B0.named
  have hlocks := B0.notSynchronized
  have hl := lv_entry ([.ref aT]) (n := 3) (Nat.le_of_ble_eq_true rfl)
  rw [lg_entry_eq]
  generalize (lg_sl ([.ref aT]) ++ List.replicate (3 - (lg_sl ([.ref aT])).length) Slot.unset).toArray = ls at hl ⊢
  have hl : lv_has ls 3 [(0, .ref aT)] := hl
  refine lv_aload_n hx hb d_PB_stageOnTape_0 rfl (lv_at hl 0 rfl) ?_
  refine va_get (D := D) (ci := 10) (v := .ref aS) (C := R_PB) (T := T_PB) (N := 8) hx hb hT u_PB hown hK hP 0 rfl rfl 0 (by decide) (hT _ k_316) (fun _ h9 => h9) rfl d_PB_stageOnTape_1 ?_
  refine lv_iconst (v := 3) hx hb d_PB_stageOnTape_4 (by decide) ?_
  refine lv_iconst (v := 0) hx hb d_PB_stageOnTape_5 (by decide) ?_
  refine rd_S (val := tw_ST_ref 3 0) (As := [.int 3, .int 0]) (rest := [.ref aS]) ⟨hx, hb, hml, hown, hT⟩ (c_ST_ref l D cB cI 3 0) (va_cwS 2 hT (gS_of k_476 k_477 k_2 kc_ST_ref) rfl rfl rfl hd_ST_ref ⟨Nat.le_of_ble_eq_true rfl, Nat.le_of_ble_eq_true rfl⟩) hk (va_P_nil) rfl hl.1 rfl (Nat.le_of_ble_eq_true rfl) d_PB_stageOnTape_6 ⟨Nat.zero_le _, Nat.zero_le _⟩ ?_
  refine rd_V (val := tw_ST_countParts b (tw_ST_ref 3 0)) (As := [.int (tw_ST_ref 3 0)]) (rest := []) ⟨hx, hb, hml, hown, hT⟩ (c_ST_countParts l D cB cI aS aB b (tw_ST_ref 3 0)) (cwV 1 hT (gV_of k_479 k_480 k_481 k_2 kc_ST_countParts) rfl rfl rfl hd_ST_countParts ⟨Nat.le_of_ble_eq_true rfl, Nat.le_of_ble_eq_true rfl⟩) hk (hP.sub (ws' := [(aS, .inr (0, [.ref aB])), (aB, .inl (cB, 202000, .inl (by_ b)))]) [1, 2] rfl) (q0 := 0) rfl rfl rfl rfl hl.1 rfl (Nat.le_of_ble_eq_true rfl) d_PB_stageOnTape_9 ⟨Nat.zero_le _, Nat.zero_le _⟩ ?_
  refine lv_iconst (v := 1) hx hb d_PB_stageOnTape_12 (by decide) ?_
  refine lv_icmp_eq (tgt := 18) hx hb d_PB_stageOnTape_13 (by decide) (fun c_1 => ?_) (fun c_1 => ?_)
  · refine lv_iconst (v := 5) hx hb d_PB_stageOnTape_18 (by decide) ?_
    refine lv_istore_n (lv' := [(1, .int 5), (0, .ref aT)]) hx hb d_PB_stageOnTape_19 rfl hl (by decide) rfl (fun ls hl => ?_)
    refine lv_aload_n hx hb d_PB_stageOnTape_20 rfl (lv_at hl 1 rfl) ?_
    refine va_get (D := D) (ci := 10) (v := .ref aS) (C := R_PB) (T := T_PB) (N := 8) hx hb hT u_PB hown hK hP 0 rfl rfl 0 (by decide) (hT _ k_316) (fun _ h9 => h9) rfl d_PB_stageOnTape_21 ?_
    refine lv_iconst (v := 4) hx hb d_PB_stageOnTape_24 (by decide) ?_
    refine rd_V (val := tw_ST_valueOf b 4) (As := [.int 4]) (rest := []) ⟨hx, hb, hml, hown, hT⟩ (c_ST_valueOf l D cB cI aS aB b 4) (cwV 1 hT (gV_of k_471 k_399 k_400 k_2 kc_ST_valueOf) rfl rfl rfl hd_ST_valueOf ⟨Nat.le_of_ble_eq_true rfl, Nat.le_of_ble_eq_true rfl⟩) hk (hP.sub (ws' := [(aS, .inr (0, [.ref aB])), (aB, .inl (cB, 202000, .inl (by_ b)))]) [1, 2] rfl) (q0 := 0) rfl rfl rfl rfl hl.1 rfl (Nat.le_of_ble_eq_true rfl) d_PB_stageOnTape_25 ⟨Nat.zero_le _, Nat.zero_le _⟩ ?_
    refine rd_S (val := tw_ST_placeOf (tw_ST_valueOf b 4)) (As := [.int (tw_ST_valueOf b 4)]) (rest := []) ⟨hx, hb, hml, hown, hT⟩ (c_ST_placeOf l D cB cI (tw_ST_valueOf b 4)) (va_cwS 1 hT (gS_of k_486 k_403 k_2 kc_ST_placeOf) rfl rfl rfl hd_ST_placeOf ⟨Nat.le_of_ble_eq_true rfl, Nat.le_of_ble_eq_true rfl⟩) hk (va_P_nil) rfl hl.1 rfl (Nat.le_of_ble_eq_true rfl) d_PB_stageOnTape_28 ⟨Nat.zero_le _, Nat.zero_le _⟩ ?_
    refine lv_iconst (v := 1) hx hb d_PB_stageOnTape_31 (by decide) ?_
    refine lv_isub hx hb d_PB_stageOnTape_32 ?_
    refine lv_istore_n (lv' := [(2, .int ((tw_ST_placeOf (tw_ST_valueOf b 4)) - 1)), (1, .int 5), (0, .ref aT)]) hx hb d_PB_stageOnTape_33 rfl hl (by decide) rfl (fun ls hl => ?_)
    refine lv_aload_n hx hb d_PB_stageOnTape_34 rfl (lv_at hl 2 rfl) ?_
    refine va_get (D := D) (ci := 10) (v := .ref aS) (C := R_PB) (T := T_PB) (N := 8) hx hb hT u_PB hown hK hP 0 rfl rfl 0 (by decide) (hT _ k_316) (fun _ h9 => h9) rfl d_PB_stageOnTape_35 ?_
    refine lv_iload_n hx hb d_PB_stageOnTape_38 rfl (lv_at hl 1 rfl) ?_
    refine lv_iload_n hx hb d_PB_stageOnTape_39 rfl (lv_at hl 0 rfl) ?_
    refine va_ldcS hx hb hown (hz.2.1 0 ("PipelineBelt", 156, "$project") rfl) d_PB_stageOnTape_40 ?_
    refine rd_Vs (val := b2i (tw_ST_named 0 b 5 ((tw_ST_placeOf (tw_ST_valueOf b 4)) - 1))) (As := [.int 5, .int ((tw_ST_placeOf (tw_ST_valueOf b 4)) - 1), .ref (D.2 101 0)]) (rest := []) ⟨hx, hb, hml, hown, hT⟩ (c_ST_named l D cB cI aS aB 0 b 5 ((tw_ST_placeOf (tw_ST_valueOf b 4)) - 1) (by decide)) (cwV 3 hT (gV_of k_488 k_489 k_490 k_2 kc_ST_named) rfl rfl rfl hd_ST_named ⟨Nat.le_of_ble_eq_true rfl, Nat.le_of_ble_eq_true rfl⟩) hk (hP.sub (ws' := [(aS, .inr (0, [.ref aB])), (aB, .inl (cB, 202000, .inl (by_ b)))]) [1, 2] rfl) hz (q0 := 0) rfl rfl rfl rfl hl.1 rfl (Nat.le_of_ble_eq_true rfl) d_PB_stageOnTape_42 ⟨Nat.zero_le _, Nat.zero_le _⟩ ?_
    refine lv_if_eq (tgt := 50) hx hb d_PB_stageOnTape_45 (by decide) (fun c_2 => ?_) (fun c_2 => ?_)
    · refine lv_aload_n hx hb d_PB_stageOnTape_50 rfl (lv_at hl 2 rfl) ?_
      refine va_get (D := D) (ci := 10) (v := .ref aS) (C := R_PB) (T := T_PB) (N := 8) hx hb hT u_PB hown hK hP 0 rfl rfl 0 (by decide) (hT _ k_316) (fun _ h9 => h9) rfl d_PB_stageOnTape_51 ?_
      refine lv_iload_n hx hb d_PB_stageOnTape_54 rfl (lv_at hl 1 rfl) ?_
      refine lv_iload_n hx hb d_PB_stageOnTape_55 rfl (lv_at hl 0 rfl) ?_
      refine va_ldcS hx hb hown (hz.2.1 1 ("PipelineBelt", 162, "$unwind") rfl) d_PB_stageOnTape_56 ?_
      refine rd_Vs (val := b2i (tw_ST_named 1 b 5 ((tw_ST_placeOf (tw_ST_valueOf b 4)) - 1))) (As := [.int 5, .int ((tw_ST_placeOf (tw_ST_valueOf b 4)) - 1), .ref (D.2 101 1)]) (rest := []) ⟨hx, hb, hml, hown, hT⟩ (c_ST_named l D cB cI aS aB 1 b 5 ((tw_ST_placeOf (tw_ST_valueOf b 4)) - 1) (by decide)) (cwV 3 hT (gV_of k_488 k_489 k_490 k_2 kc_ST_named) rfl rfl rfl hd_ST_named ⟨Nat.le_of_ble_eq_true rfl, Nat.le_of_ble_eq_true rfl⟩) hk (hP.sub (ws' := [(aS, .inr (0, [.ref aB])), (aB, .inl (cB, 202000, .inl (by_ b)))]) [1, 2] rfl) hz (q0 := 0) rfl rfl rfl rfl hl.1 rfl (Nat.le_of_ble_eq_true rfl) d_PB_stageOnTape_58 ⟨Nat.zero_le _, Nat.zero_le _⟩ ?_
      refine lv_if_eq (tgt := 66) hx hb d_PB_stageOnTape_61 (by decide) (fun c_3 => ?_) (fun c_3 => ?_)
      · refine lv_aload_n hx hb d_PB_stageOnTape_66 rfl (lv_at hl 2 rfl) ?_
        refine va_get (D := D) (ci := 10) (v := .ref aS) (C := R_PB) (T := T_PB) (N := 8) hx hb hT u_PB hown hK hP 0 rfl rfl 0 (by decide) (hT _ k_316) (fun _ h9 => h9) rfl d_PB_stageOnTape_67 ?_
        refine lv_iload_n hx hb d_PB_stageOnTape_70 rfl (lv_at hl 1 rfl) ?_
        refine lv_iload_n hx hb d_PB_stageOnTape_71 rfl (lv_at hl 0 rfl) ?_
        refine va_ldcS hx hb hown (hz.2.1 2 ("PipelineBelt", 164, "$group") rfl) d_PB_stageOnTape_72 ?_
        refine rd_Vs (val := b2i (tw_ST_named 2 b 5 ((tw_ST_placeOf (tw_ST_valueOf b 4)) - 1))) (As := [.int 5, .int ((tw_ST_placeOf (tw_ST_valueOf b 4)) - 1), .ref (D.2 101 2)]) (rest := []) ⟨hx, hb, hml, hown, hT⟩ (c_ST_named l D cB cI aS aB 2 b 5 ((tw_ST_placeOf (tw_ST_valueOf b 4)) - 1) (by decide)) (cwV 3 hT (gV_of k_488 k_489 k_490 k_2 kc_ST_named) rfl rfl rfl hd_ST_named ⟨Nat.le_of_ble_eq_true rfl, Nat.le_of_ble_eq_true rfl⟩) hk (hP.sub (ws' := [(aS, .inr (0, [.ref aB])), (aB, .inl (cB, 202000, .inl (by_ b)))]) [1, 2] rfl) hz (q0 := 0) rfl rfl rfl rfl hl.1 rfl (Nat.le_of_ble_eq_true rfl) d_PB_stageOnTape_74 ⟨Nat.zero_le _, Nat.zero_le _⟩ ?_
        refine lv_if_eq (tgt := 82) hx hb d_PB_stageOnTape_77 (by decide) (fun c_4 => ?_) (fun c_4 => ?_)
        · refine lv_aload_n hx hb d_PB_stageOnTape_82 rfl (lv_at hl 2 rfl) ?_
          refine va_get (D := D) (ci := 10) (v := .ref aS) (C := R_PB) (T := T_PB) (N := 8) hx hb hT u_PB hown hK hP 0 rfl rfl 0 (by decide) (hT _ k_316) (fun _ h9 => h9) rfl d_PB_stageOnTape_83 ?_
          refine lv_iload_n hx hb d_PB_stageOnTape_86 rfl (lv_at hl 1 rfl) ?_
          refine lv_iload_n hx hb d_PB_stageOnTape_87 rfl (lv_at hl 0 rfl) ?_
          refine va_ldcS hx hb hown (hz.2.1 3 ("PipelineBelt", 166, "$sort") rfl) d_PB_stageOnTape_88 ?_
          refine rd_Vs (val := b2i (tw_ST_named 3 b 5 ((tw_ST_placeOf (tw_ST_valueOf b 4)) - 1))) (As := [.int 5, .int ((tw_ST_placeOf (tw_ST_valueOf b 4)) - 1), .ref (D.2 101 3)]) (rest := []) ⟨hx, hb, hml, hown, hT⟩ (c_ST_named l D cB cI aS aB 3 b 5 ((tw_ST_placeOf (tw_ST_valueOf b 4)) - 1) (by decide)) (cwV 3 hT (gV_of k_488 k_489 k_490 k_2 kc_ST_named) rfl rfl rfl hd_ST_named ⟨Nat.le_of_ble_eq_true rfl, Nat.le_of_ble_eq_true rfl⟩) hk (hP.sub (ws' := [(aS, .inr (0, [.ref aB])), (aB, .inl (cB, 202000, .inl (by_ b)))]) [1, 2] rfl) hz (q0 := 0) rfl rfl rfl rfl hl.1 rfl (Nat.le_of_ble_eq_true rfl) d_PB_stageOnTape_90 ⟨Nat.zero_le _, Nat.zero_le _⟩ ?_
          refine lv_if_eq (tgt := 98) hx hb d_PB_stageOnTape_93 (by decide) (fun c_5 => ?_) (fun c_5 => ?_)
          · refine lv_aload_n hx hb d_PB_stageOnTape_98 rfl (lv_at hl 2 rfl) ?_
            refine va_get (D := D) (ci := 10) (v := .ref aS) (C := R_PB) (T := T_PB) (N := 8) hx hb hT u_PB hown hK hP 0 rfl rfl 0 (by decide) (hT _ k_316) (fun _ h9 => h9) rfl d_PB_stageOnTape_99 ?_
            refine lv_iload_n hx hb d_PB_stageOnTape_102 rfl (lv_at hl 1 rfl) ?_
            refine lv_iload_n hx hb d_PB_stageOnTape_103 rfl (lv_at hl 0 rfl) ?_
            refine va_ldcS hx hb hown (hz.2.1 4 ("PipelineBelt", 168, "$skip") rfl) d_PB_stageOnTape_104 ?_
            refine rd_Vs (val := b2i (tw_ST_named 4 b 5 ((tw_ST_placeOf (tw_ST_valueOf b 4)) - 1))) (As := [.int 5, .int ((tw_ST_placeOf (tw_ST_valueOf b 4)) - 1), .ref (D.2 101 4)]) (rest := []) ⟨hx, hb, hml, hown, hT⟩ (c_ST_named l D cB cI aS aB 4 b 5 ((tw_ST_placeOf (tw_ST_valueOf b 4)) - 1) (by decide)) (cwV 3 hT (gV_of k_488 k_489 k_490 k_2 kc_ST_named) rfl rfl rfl hd_ST_named ⟨Nat.le_of_ble_eq_true rfl, Nat.le_of_ble_eq_true rfl⟩) hk (hP.sub (ws' := [(aS, .inr (0, [.ref aB])), (aB, .inl (cB, 202000, .inl (by_ b)))]) [1, 2] rfl) hz (q0 := 0) rfl rfl rfl rfl hl.1 rfl (Nat.le_of_ble_eq_true rfl) d_PB_stageOnTape_106 ⟨Nat.zero_le _, Nat.zero_le _⟩ ?_
            refine lv_if_eq (tgt := 114) hx hb d_PB_stageOnTape_109 (by decide) (fun c_6 => ?_) (fun c_6 => ?_)
            · refine lv_aload_n hx hb d_PB_stageOnTape_114 rfl (lv_at hl 2 rfl) ?_
              refine va_get (D := D) (ci := 10) (v := .ref aS) (C := R_PB) (T := T_PB) (N := 8) hx hb hT u_PB hown hK hP 0 rfl rfl 0 (by decide) (hT _ k_316) (fun _ h9 => h9) rfl d_PB_stageOnTape_115 ?_
              refine lv_iload_n hx hb d_PB_stageOnTape_118 rfl (lv_at hl 1 rfl) ?_
              refine lv_iload_n hx hb d_PB_stageOnTape_119 rfl (lv_at hl 0 rfl) ?_
              refine va_ldcS hx hb hown (hz.2.1 5 ("PipelineBelt", 170, "$limit") rfl) d_PB_stageOnTape_120 ?_
              refine rd_Vs (val := b2i (tw_ST_named 5 b 5 ((tw_ST_placeOf (tw_ST_valueOf b 4)) - 1))) (As := [.int 5, .int ((tw_ST_placeOf (tw_ST_valueOf b 4)) - 1), .ref (D.2 101 5)]) (rest := []) ⟨hx, hb, hml, hown, hT⟩ (c_ST_named l D cB cI aS aB 5 b 5 ((tw_ST_placeOf (tw_ST_valueOf b 4)) - 1) (by decide)) (cwV 3 hT (gV_of k_488 k_489 k_490 k_2 kc_ST_named) rfl rfl rfl hd_ST_named ⟨Nat.le_of_ble_eq_true rfl, Nat.le_of_ble_eq_true rfl⟩) hk (hP.sub (ws' := [(aS, .inr (0, [.ref aB])), (aB, .inl (cB, 202000, .inl (by_ b)))]) [1, 2] rfl) hz (q0 := 0) rfl rfl rfl rfl hl.1 rfl (Nat.le_of_ble_eq_true rfl) d_PB_stageOnTape_122 ⟨Nat.zero_le _, Nat.zero_le _⟩ ?_
              refine lv_if_eq (tgt := 131) hx hb d_PB_stageOnTape_125 (by decide) (fun c_7 => ?_) (fun c_7 => ?_)
              · refine lv_aload_n hx hb d_PB_stageOnTape_131 rfl (lv_at hl 2 rfl) ?_
                refine va_get (D := D) (ci := 10) (v := .ref aS) (C := R_PB) (T := T_PB) (N := 8) hx hb hT u_PB hown hK hP 0 rfl rfl 0 (by decide) (hT _ k_316) (fun _ h9 => h9) rfl d_PB_stageOnTape_132 ?_
                refine lv_iload_n hx hb d_PB_stageOnTape_135 rfl (lv_at hl 1 rfl) ?_
                refine lv_iload_n hx hb d_PB_stageOnTape_136 rfl (lv_at hl 0 rfl) ?_
                refine va_ldcS hx hb hown (hz.2.1 6 ("PipelineBelt", 172, "$lookup") rfl) d_PB_stageOnTape_137 ?_
                refine rd_Vs (val := b2i (tw_ST_named 6 b 5 ((tw_ST_placeOf (tw_ST_valueOf b 4)) - 1))) (As := [.int 5, .int ((tw_ST_placeOf (tw_ST_valueOf b 4)) - 1), .ref (D.2 101 6)]) (rest := []) ⟨hx, hb, hml, hown, hT⟩ (c_ST_named l D cB cI aS aB 6 b 5 ((tw_ST_placeOf (tw_ST_valueOf b 4)) - 1) (by decide)) (cwV 3 hT (gV_of k_488 k_489 k_490 k_2 kc_ST_named) rfl rfl rfl hd_ST_named ⟨Nat.le_of_ble_eq_true rfl, Nat.le_of_ble_eq_true rfl⟩) hk (hP.sub (ws' := [(aS, .inr (0, [.ref aB])), (aB, .inl (cB, 202000, .inl (by_ b)))]) [1, 2] rfl) hz (q0 := 0) rfl rfl rfl rfl hl.1 rfl (Nat.le_of_ble_eq_true rfl) d_PB_stageOnTape_139 ⟨Nat.zero_le _, Nat.zero_le _⟩ ?_
                refine lv_if_eq (tgt := 150) hx hb d_PB_stageOnTape_142 (by decide) (fun c_8 => ?_) (fun c_8 => ?_)
                · refine lv_iconst (v := 0) hx hb d_PB_stageOnTape_150 (by decide) ?_
                  exact W.iret (v := 0) hx hb hr (fun t ht hW => ⟨0, rfl, (by rw [tw_PB_stageOnTape, if_pos c_1, if_pos c_2, if_pos c_3, if_pos c_4, if_pos c_5, if_pos c_6, if_pos c_7, if_pos c_8]; first | done | rfl), ht⟩) (fun _ h => by cases h) d_PB_stageOnTape_151
                · refine lv_bipush (v := 7) hx hb d_PB_stageOnTape_145 (by decide) ?_
                  refine lv_goto (tgt := 151) hx hb d_PB_stageOnTape_147 (by decide) ?_
                  exact W.iret (v := 7) hx hb hr (fun t ht hW => ⟨7, rfl, (by rw [tw_PB_stageOnTape, if_pos c_1, if_pos c_2, if_pos c_3, if_pos c_4, if_pos c_5, if_pos c_6, if_pos c_7, if_neg c_8]; first | done | rfl), ht⟩) (fun _ h => by cases h) d_PB_stageOnTape_151
              · refine lv_bipush (v := 6) hx hb d_PB_stageOnTape_128 (by decide) ?_
                exact W.iret (v := 6) hx hb hr (fun t ht hW => ⟨6, rfl, (by rw [tw_PB_stageOnTape, if_pos c_1, if_pos c_2, if_pos c_3, if_pos c_4, if_pos c_5, if_pos c_6, if_neg c_7]; first | done | rfl), ht⟩) (fun _ h => by cases h) d_PB_stageOnTape_130
            · refine lv_iconst (v := 5) hx hb d_PB_stageOnTape_112 (by decide) ?_
              exact W.iret (v := 5) hx hb hr (fun t ht hW => ⟨5, rfl, (by rw [tw_PB_stageOnTape, if_pos c_1, if_pos c_2, if_pos c_3, if_pos c_4, if_pos c_5, if_neg c_6]; first | done | rfl), ht⟩) (fun _ h => by cases h) d_PB_stageOnTape_113
          · refine lv_iconst (v := 4) hx hb d_PB_stageOnTape_96 (by decide) ?_
            exact W.iret (v := 4) hx hb hr (fun t ht hW => ⟨4, rfl, (by rw [tw_PB_stageOnTape, if_pos c_1, if_pos c_2, if_pos c_3, if_pos c_4, if_neg c_5]; first | done | rfl), ht⟩) (fun _ h => by cases h) d_PB_stageOnTape_97
        · refine lv_iconst (v := 3) hx hb d_PB_stageOnTape_80 (by decide) ?_
          exact W.iret (v := 3) hx hb hr (fun t ht hW => ⟨3, rfl, (by rw [tw_PB_stageOnTape, if_pos c_1, if_pos c_2, if_pos c_3, if_neg c_4]; first | done | rfl), ht⟩) (fun _ h => by cases h) d_PB_stageOnTape_81
      · refine lv_iconst (v := 2) hx hb d_PB_stageOnTape_64 (by decide) ?_
        exact W.iret (v := 2) hx hb hr (fun t ht hW => ⟨2, rfl, (by rw [tw_PB_stageOnTape, if_pos c_1, if_pos c_2, if_neg c_3]; first | done | rfl), ht⟩) (fun _ h => by cases h) d_PB_stageOnTape_65
    · refine lv_iconst (v := 1) hx hb d_PB_stageOnTape_48 (by decide) ?_
      exact W.iret (v := 1) hx hb hr (fun t ht hW => ⟨1, rfl, (by rw [tw_PB_stageOnTape, if_pos c_1, if_neg c_2]; first | done | rfl), ht⟩) (fun _ h => by cases h) d_PB_stageOnTape_49
  · refine lv_iconst (v := 0) hx hb d_PB_stageOnTape_16 (by decide) ?_
    exact W.iret (v := 0) hx hb hr (fun t ht hW => ⟨0, rfl, (by rw [tw_PB_stageOnTape, if_neg c_1]; first | done | rfl), ht⟩) (fun _ h => by cases h) d_PB_stageOnTape_17
abbrev wd_PB_leaveOut (aT aS aC aY aH aU aZ aX aW aF aK aN aB aFs aNs : Nat) (cB cI : ClassId) (fbase : Int32) (nbase : Int32) (onT : Int32) (fcnt : Int32) (fsts : Nat → Int32) (place : Int32) (limit : Int32) (full : Bool) (b : Nat → UInt8) (ncnt : Int32) (nsts : Nat → Int32) : va_W := [(aT, .inr (10, [.ref aS, .ref aC, .ref aY, .ref aH, .ref aU, .ref aZ, .ref aX, .int onT])), (aY, .inr (3, [.ref aS, .ref aW, .ref aF, .ref aK, .ref aN])), (aW, .inr (1, [.ref aS, .int place, .int limit, .int (b2i full)])), (aS, .inr (0, [.ref aB])), (aB, .inl (cB, 202000, .inl (by_ b))), (aF, .inr (2, [.int fbase, .ref aFs, .int fcnt])), (aFs, .inl (cI, 201, .inl fsts)), (aN, .inr (2, [.int nbase, .ref aNs, .int ncnt])), (aNs, .inl (cI, 201, .inl nsts))]
set_option maxHeartbeats 4000000 in
set_option maxRecDepth 100000 in
theorem l_PB_leaveOut_h78 {p : Program} {e : Env} {s : State} {m : MethodId} {args : Array Value} {below : List Frame} {meth : Method} {c : Code} {V : Int32 × Int32 × Int32 × Bool × (Nat → UInt8) × Int32 × (Nat → Int32)} (C0 : lc_C p s m meth c args b_PB_leaveOut 8 (some .int) R_PB lw_g) (l : Launch) (D : va_G) (cB cI : ClassId) (aT aS aC aY aH aU aZ aX aW aF aK aN aB aFs aNs : Nat) (fbase : Int32) (nbase : Int32) (onT : Int32) (fcnt : Int32) (fsts : Nat → Int32) {A : Nat → Prop} (hk : hk_ D cB cI s) (hA : ∀ q : Nat, s.heap.size ≤ q → A q) (x6 : Int32) (hfr : ∀ j : Int32, 0 ≤ (tw_BE_start fbase fcnt fsts j).toInt ∧ (tw_BE_start fbase fcnt fsts j).toInt ≤ 202000) : ∀ (n : Nat) (x7 : Int32) (place : Int32) (limit : Int32) (full : Bool) (b : Nat → UInt8) (ncnt : Int32) (nsts : Nat → Int32), (x6.toInt - x7.toInt).toNat < n → be_ok nbase ncnt nsts → V = tw_PB_leaveOut_h78 fbase nbase fcnt fsts x6 n x7 place limit full b ncnt nsts → ∀ (H : Heap) (locs : List Loc), va_P D vwCl [(aT, .inr (10, [.ref aS, .ref aC, .ref aY, .ref aH, .ref aU, .ref aZ, .ref aX, .int onT])), (aY, .inr (3, [.ref aS, .ref aW, .ref aF, .ref aK, .ref aN])), (aW, .inr (1, [.ref aS, .int place, .int limit, .int (b2i full)])), (aS, .inr (0, [.ref aB])), (aB, .inl (cB, 202000, .inl (by_ b))), (aF, .inr (2, [.int fbase, .ref aFs, .int fcnt])), (aFs, .inl (cI, 201, .inl fsts)), (aN, .inr (2, [.int nbase, .ref aNs, .int ncnt])), (aNs, .inl (cI, 201, .inl nsts))] H → va_D A [(aT, .inr (10, [.ref aS, .ref aC, .ref aY, .ref aH, .ref aU, .ref aZ, .ref aX, .int onT])), (aY, .inr (3, [.ref aS, .ref aW, .ref aF, .ref aK, .ref aN])), (aW, .inr (1, [.ref aS, .int place, .int limit, .int (b2i full)])), (aS, .inr (0, [.ref aB])), (aB, .inl (cB, 202000, .inl (by_ b))), (aF, .inr (2, [.int fbase, .ref aFs, .int fcnt])), (aFs, .inl (cI, 201, .inl fsts)), (aN, .inr (2, [.int nbase, .ref aNs, .int ncnt])), (aNs, .inl (cI, 201, .inl nsts))] → va_S A s.heap H locs → ∀ ls : Array Slot, lv_has ls 8 [(0, .ref aT), (6, .int x6), (7, .int x7)] → W p l e ({ frames := 5, cells := 0, slots := 0, locals := 127 }) s m args below meth c H locs 0 0 (MQ below (va_Qi (fun (r : Int32) (u : Int32 × Int32 × Bool × (Nat → UInt8) × Int32 × (Nat → Int32)) => (r, u) = V ∧ be_ok nbase u.2.2.2.2.1 u.2.2.2.2.2) (mt_B D A (fun u => wd_PB_leaveOut aT aS aC aY aH aU aZ aX aW aF aK aN aB aFs aNs cB cI fbase nbase onT fcnt fsts u.1 u.2.1 u.2.2.1 u.2.2.2.1 u.2.2.2.2.1 u.2.2.2.2.2)) A) args s 0 0 A) (F0 m 78 ls []) := by
  obtain ⟨hx, hb, hml, hr, hown, hlocks, hT⟩ := id C0
  have hK := hk.1
  have hN := hk.2.1
  intro n
  induction n with
  | zero =>
    intro x7 place limit full b ncnt nsts hm
    exact absurd hm (Nat.not_lt_zero _)
  | succ n ih =>
    intro x7 place limit full b ncnt nsts hm hi hV H locs hP hD hS ls hl
    refine lv_iload hx hb d_PB_leaveOut_78 (lv_at hl 2 rfl) ?_
    refine lv_iload hx hb d_PB_leaveOut_80 (lv_at hl 1 rfl) ?_
    refine lv_icmp_ge (tgt := 105) hx hb d_PB_leaveOut_82 (by decide) (fun c_5 => ?_) (fun c_5 => ?_)
    · refine lv_iconst (v := 0) hx hb d_PB_leaveOut_105 (by decide) ?_
      exact W.iret (v := 0) hx hb hr (fun t ht hW => ⟨⟨0, (place, limit, full, b, ncnt, nsts), rfl, ⟨(by rw [hV, tw_PB_leaveOut_h78, if_pos c_5]; first | done | rfl), hi⟩, by rw [ht]; exact hP, hD⟩, hS.F ht⟩) hS.2.2 d_PB_leaveOut_106
    · refine lv_aload_n hx hb d_PB_leaveOut_85 rfl (lv_at hl 0 rfl) ?_
      refine va_get (D := D) (ci := 10) (v := .ref aY) (C := R_PB) (T := T_PB) (N := 8) hx hb hT u_PB hown hK hP 0 rfl rfl 2 (by decide) (hT _ k_318) (fun _ h9 => h9) rfl d_PB_leaveOut_86 ?_
      refine lv_iload hx hb d_PB_leaveOut_89 (lv_at hl 2 rfl) ?_
      refine mt_Vi (As := [.int x7]) (rest := []) (wr := [(aT, .inr (10, [.ref aS, .ref aC, .ref aY, .ref aH, .ref aU, .ref aZ, .ref aX, .int onT]))]) ⟨hx, hb, hml, hown, hT⟩ (c_BS_keep l D cB cI aY aS aW aF aK aN aB aFs aNs fbase nbase fcnt fsts _ place limit full b ncnt nsts x7 (le30 (hfr _).2) hi) (cwV 1 hT (gV_of k_928 k_699 k_700 k_4 kc_BS_keep) rfl rfl rfl hd_BS_keep ⟨Nat.le_of_ble_eq_true rfl, Nat.le_of_ble_eq_true rfl⟩) hk hP hD hS hA [1, 2, 3, 4, 5, 6, 7, 8] [0] rfl rfl rfl (by decide) (by decide) (by decide) (q0 := 0) rfl rfl rfl rfl hl.1 rfl (Nat.le_of_ble_eq_true rfl) d_PB_leaveOut_91 ⟨Nat.zero_le _, Nat.zero_le _⟩ (fun r_6 u_6 H locs hw_6 hP hD hS => ?_)
      obtain ⟨place_6, limit_6, full_6, b_6, ncnt_6, nsts_6⟩ := u_6
      obtain ⟨r_6, rfl, hw_6⟩ := hw_6
      obtain ⟨hw_6, hi_6⟩ := hw_6
      have hP : va_P D vwCl [(aT, .inr (10, [.ref aS, .ref aC, .ref aY, .ref aH, .ref aU, .ref aZ, .ref aX, .int onT])), (aY, .inr (3, [.ref aS, .ref aW, .ref aF, .ref aK, .ref aN])), (aW, .inr (1, [.ref aS, .int place_6, .int limit_6, .int (b2i full_6)])), (aS, .inr (0, [.ref aB])), (aB, .inl (cB, 202000, .inl (by_ b_6))), (aF, .inr (2, [.int fbase, .ref aFs, .int fcnt])), (aFs, .inl (cI, 201, .inl fsts)), (aN, .inr (2, [.int nbase, .ref aNs, .int ncnt_6])), (aNs, .inl (cI, 201, .inl nsts_6))] H := hP.sub [0, 1, 2, 3, 4, 5, 6, 7, 8] rfl
      have hD : va_D A [(aT, .inr (10, [.ref aS, .ref aC, .ref aY, .ref aH, .ref aU, .ref aZ, .ref aX, .int onT])), (aY, .inr (3, [.ref aS, .ref aW, .ref aF, .ref aK, .ref aN])), (aW, .inr (1, [.ref aS, .int place_6, .int limit_6, .int (b2i full_6)])), (aS, .inr (0, [.ref aB])), (aB, .inl (cB, 202000, .inl (by_ b_6))), (aF, .inr (2, [.int fbase, .ref aFs, .int fcnt])), (aFs, .inl (cI, 201, .inl fsts)), (aN, .inr (2, [.int nbase, .ref aNs, .int ncnt_6])), (aNs, .inl (cI, 201, .inl nsts_6))] := hD.sub [0, 1, 2, 3, 4, 5, 6, 7, 8] (by decide) rfl
      refine lv_if_ne (tgt := 99) hx hb d_PB_leaveOut_94 (by decide) (fun c_7 => ?_) (fun c_7 => ?_)
      · refine lv_iinc (v := x7 + 1) (lv' := [(7, .int (x7 + 1)), (0, .ref aT), (6, .int x6)]) hx hb d_PB_leaveOut_99 hl (k := 2) rfl rfl (by decide) rfl (fun ls hl => ?_)
        refine lv_goto (tgt := 78) hx hb d_PB_leaveOut_102 (by decide) ?_
        exact ih (x7 + 1) place_6 limit_6 full_6 b_6 ncnt_6 nsts_6 (lp_up hm c_5) (hi_6) (by rw [hV, tw_PB_leaveOut_h78, if_neg c_5, ← hw_6, tp7_mk, if_neg c_7]) _ _ hP hD hS ls (lv_sub hl [1, 2, 0] rfl)
      · refine lv_iconst (v := 5) hx hb d_PB_leaveOut_97 (by decide) ?_
        exact W.iret (v := 5) hx hb hr (fun t ht hW => ⟨⟨5, (place_6, limit_6, full_6, b_6, ncnt_6, nsts_6), rfl, ⟨(by rw [hV, tw_PB_leaveOut_h78, if_neg c_5, ← hw_6, tp7_mk, if_pos c_7]; first | done | rfl), hi_6⟩, by rw [ht]; exact hP, hD⟩, hS.F ht⟩) hS.2.2 d_PB_leaveOut_98
set_option maxHeartbeats 4000000 in
set_option maxRecDepth 100000 in
theorem c_PB_leaveOut (l : Launch) (D : va_G) (cB cI : ClassId) (aT aS aC aY aH aU aZ aX aW aF aK aN aB aFs aNs : Nat) (fbase : Int32) (nbase : Int32) (onT : Int32) (fcnt : Int32) (fsts : Nat → Int32) (sz : Nat) (place : Int32) (limit : Int32) (full : Bool) (b : Nat → UInt8) (ncnt : Int32) (nsts : Nat → Int32) (p0 : Int32) (p1 : Int32) (hfr : ∀ j : Int32, 0 ≤ (tw_BE_start fbase fcnt fsts j).toInt ∧ (tw_BE_start fbase fcnt fsts j).toInt ≤ 202000) (hi : be_ok nbase ncnt nsts) : Met l y_PB_leaveOut mw_PB_leaveOut { frames := 5, cells := 0, slots := 0, locals := 127 } (va_Pc [.ref aT, .int p0, .int p1] (mt_P D cB cI (wd_PB_leaveOut aT aS aC aY aH aU aZ aX aW aF aK aN aB aFs aNs cB cI fbase nbase onT fcnt fsts place limit full b ncnt nsts) sz)) (va_Qi (fun (r : Int32) (u : Int32 × Int32 × Bool × (Nat → UInt8) × Int32 × (Nat → Int32)) => (r, u) = tw_PB_leaveOut fbase nbase fcnt fsts place limit full b ncnt nsts p0 p1 ∧ be_ok nbase u.2.2.2.2.1 u.2.2.2.2.2) (mt_B D (va_A (wd_PB_leaveOut aT aS aC aY aH aU aZ aX aW aF aK aN aB aFs aNs cB cI fbase nbase onT fcnt fsts place limit full b ncnt nsts) sz) (fun u => wd_PB_leaveOut aT aS aC aY aH aU aZ aX aW aF aK aN aB aFs aNs cB cI fbase nbase onT fcnt fsts u.1 u.2.1 u.2.2.1 u.2.2.2.1 u.2.2.2.2.1 u.2.2.2.2.2)) (va_A (wd_PB_leaveOut aT aS aC aY aH aU aZ aX aW aF aK aN aB aFs aNs cB cI fbase nbase onT fcnt fsts place limit full b ncnt nsts) sz)) 0 0 (va_A (wd_PB_leaveOut aT aS aC aY aH aU aZ aX aW aF aK aN aB aFs aNs cB cI fbase nbase onT fcnt fsts place limit full b ncnt nsts) sz) := by
  refine Met.ofW (cc := b_PB_leaveOut) (maxL := 8) (ret := (some .int)) (by decide) rfl ?_
  intro p e s m args below meth c s₁ B0 hml hv
  obtain ⟨rfl, hsz, hP, hk, hD0⟩ := hv
  have hK := hk.1
  have hN := hk.2.1
  have hx := B0.exec
  have hb := B0.bytes
  have hr := B0.returns
  have hT : ∀ w ∈ lw_g, w.before _ s = true := fun w h => atoms_spec (ws := mw_PB_leaveOut) B0.pre w (List.mem_cons_of_mem _ h)
  have hown : s.vm.findClass R_PB = some m.cls := findClass_of_methodNamed B0.named
  have hlocks := B0.notSynchronized
  subst hsz
  have hD := hD0.self (sz := s.heap.size)
  generalize hAe : va_A [(aT, .inr (10, [.ref aS, .ref aC, .ref aY, .ref aH, .ref aU, .ref aZ, .ref aX, .int onT])), (aY, .inr (3, [.ref aS, .ref aW, .ref aF, .ref aK, .ref aN])), (aW, .inr (1, [.ref aS, .int place, .int limit, .int (b2i full)])), (aS, .inr (0, [.ref aB])), (aB, .inl (cB, 202000, .inl (by_ b))), (aF, .inr (2, [.int fbase, .ref aFs, .int fcnt])), (aFs, .inl (cI, 201, .inl fsts)), (aN, .inr (2, [.int nbase, .ref aNs, .int ncnt])), (aNs, .inl (cI, 201, .inl nsts))] s.heap.size = A at hD ⊢
  have hA : ∀ q : Nat, s.heap.size ≤ q → A q := fun q h => by rw [← hAe]; exact Or.inr h
  have hS : va_S A s.heap s.heap [] := va_S.rf
  have hl := lv_entry ([.ref aT, .int p0, .int p1]) (n := 8) (Nat.le_of_ble_eq_true rfl)
  rw [lg_entry_eq]
  generalize (lg_sl ([.ref aT, .int p0, .int p1]) ++ List.replicate (8 - (lg_sl ([.ref aT, .int p0, .int p1])).length) Slot.unset).toArray = ls at hl ⊢
  have hl : lv_has ls 8 [(0, .ref aT), (1, .int p0), (2, .int p1)] := hl
  have C0 : lc_C p s m meth c _ b_PB_leaveOut 8 (some .int) R_PB lw_g := ⟨hx, hb, hml, hr, hown, hlocks, hT⟩
  refine lv_iload_n hx hb d_PB_leaveOut_0 rfl (lv_at hl 1 rfl) ?_
  refine rd_S (val := tw_ST_classOf p0) (As := [.int p0]) (rest := []) ⟨hx, hb, hml, hown, hT⟩ (c_ST_classOf l D cB cI p0) (va_cwS 1 hT (gS_of k_923 k_780 k_2 kc_ST_classOf) rfl rfl rfl hd_ST_classOf ⟨Nat.le_of_ble_eq_true rfl, Nat.le_of_ble_eq_true rfl⟩) hk (va_P_nil) rfl hl.1 rfl (Nat.le_of_ble_eq_true rfl) d_PB_leaveOut_1 ⟨Nat.zero_le _, Nat.zero_le _⟩ ?_
  refine lv_iconst (v := 2) hx hb d_PB_leaveOut_4 (by decide) ?_
  refine lv_icmp_ne (tgt := 21) hx hb d_PB_leaveOut_5 (by decide) (fun c_1 => ?_) (fun c_1 => ?_)
  · refine lv_iconst (v := 2) hx hb d_PB_leaveOut_21 (by decide) ?_
    exact W.iret (v := 2) hx hb hr (fun t ht hW => ⟨⟨2, (place, limit, full, b, ncnt, nsts), rfl, ⟨(by rw [tw_PB_leaveOut, if_neg c_1]; first | done | rfl), hi⟩, by rw [ht]; exact hP, hD⟩, hS.F ht⟩) hS.2.2 d_PB_leaveOut_22
  · refine lv_aload_n hx hb d_PB_leaveOut_8 rfl (lv_at hl 0 rfl) ?_
    refine va_get (D := D) (ci := 10) (v := .ref aS) (C := R_PB) (T := T_PB) (N := 8) hx hb hT u_PB hown hK hP 0 rfl rfl 0 (by decide) (hT _ k_316) (fun _ h9 => h9) rfl d_PB_leaveOut_9 ?_
    refine lv_iload_n hx hb d_PB_leaveOut_12 rfl (lv_at hl 1 rfl) ?_
    refine rd_Vl (val := tw_ST_number b p0) (As := [.int p0]) (rest := []) ⟨hx, hb, hml, hown, hT⟩ (c_ST_number l D cB cI aS aB b p0) (cwV 1 hT (gV_of k_924 k_761 k_762 k_2 kc_ST_number) rfl rfl rfl hd_ST_number ⟨Nat.le_of_ble_eq_true rfl, Nat.le_of_ble_eq_true rfl⟩) hk (hP.sub (ws' := [(aS, .inr (0, [.ref aB])), (aB, .inl (cB, 202000, .inl (by_ b)))]) [3, 4] rfl) (q0 := 0) rfl rfl rfl rfl hl.1 rfl (Nat.le_of_ble_eq_true rfl) d_PB_leaveOut_13 ⟨Nat.zero_le _, Nat.zero_le _⟩ ?_
    refine lv_lconst (v := 0) hx hb d_PB_leaveOut_16 (by decide) ?_
    refine W.lcmp hx hb d_PB_leaveOut_17 ?_
    refine lv_if_ge (tgt := 23) hx hb d_PB_leaveOut_18 (by decide) (fun c_2 => ?_) (fun c_2 => ?_)
    · refine lv_aload_n hx hb d_PB_leaveOut_23 rfl (lv_at hl 0 rfl) ?_
      refine va_get (D := D) (ci := 10) (v := .ref aY) (C := R_PB) (T := T_PB) (N := 8) hx hb hT u_PB hown hK hP 0 rfl rfl 2 (by decide) (hT _ k_318) (fun _ h9 => h9) rfl d_PB_leaveOut_24 ?_
      refine va_getN (D := D) (ci := 3) (v := .ref aF) (C := R_BS) (T := T_BS) (N := 5) hx hb hT u_BS hown hK hP 1 rfl rfl 2 (by decide) (va_Nw.use rfl (hN ("PipelineBelt", 123, "PipelineBelt$Belts", "front", "LPipelineBelt$Belt;", "PipelineBelt") (by decide))) (fun _ h9 => h9) rfl d_PB_leaveOut_27 ?_
      refine va_getN (D := D) (ci := 2) (v := .int fcnt) (C := R_BE) (T := T_BE) (N := 3) hx hb hT u_BE hown hK hP 5 rfl rfl 2 (by decide) (va_Nw.use rfl (hN ("PipelineBelt", 85, "PipelineBelt$Belt", "count", "I", "PipelineBelt") (by decide))) (fun _ h9 => h9) rfl d_PB_leaveOut_30 ?_
      refine lv_istore_n (lv' := [(3, .int fcnt), (0, .ref aT), (1, .int p0), (2, .int p1)]) hx hb d_PB_leaveOut_33 rfl hl (by decide) rfl (fun ls hl => ?_)
      refine lv_aload_n hx hb d_PB_leaveOut_34 rfl (lv_at hl 1 rfl) ?_
      refine va_get (D := D) (ci := 10) (v := .ref aS) (C := R_PB) (T := T_PB) (N := 8) hx hb hT u_PB hown hK hP 0 rfl rfl 0 (by decide) (hT _ k_316) (fun _ h9 => h9) rfl d_PB_leaveOut_35 ?_
      refine lv_iload_n hx hb d_PB_leaveOut_38 rfl (lv_at hl 2 rfl) ?_
      refine rd_Vl (val := tw_ST_number b p0) (As := [.int p0]) (rest := []) ⟨hx, hb, hml, hown, hT⟩ (c_ST_number l D cB cI aS aB b p0) (cwV 1 hT (gV_of k_924 k_761 k_762 k_2 kc_ST_number) rfl rfl rfl hd_ST_number ⟨Nat.le_of_ble_eq_true rfl, Nat.le_of_ble_eq_true rfl⟩) hk (hP.sub (ws' := [(aS, .inr (0, [.ref aB])), (aB, .inl (cB, 202000, .inl (by_ b)))]) [3, 4] rfl) (q0 := 0) rfl rfl rfl rfl hl.1 rfl (Nat.le_of_ble_eq_true rfl) d_PB_leaveOut_39 ⟨Nat.zero_le _, Nat.zero_le _⟩ ?_
      refine lv_iload_n hx hb d_PB_leaveOut_42 rfl (lv_at hl 0 rfl) ?_
      refine lv_i2l (v := fcnt.toInt64) hx hb d_PB_leaveOut_43 rfl ?_
      refine va_mmin_long hx hb (hml.trans hl.1.symm) hown (hT _ k_925) (hT _ k_926) (hT _ k_13) (hT _ kc_JM_minl) (Nat.le_of_ble_eq_true rfl) (Nat.le_of_ble_eq_true rfl) (Nat.zero_le _) (Nat.zero_le _) d_PB_leaveOut_44 ?_
      refine lv_l2i (v := (if fcnt.toInt64 < (tw_ST_number b p0) then fcnt.toInt64 else (tw_ST_number b p0)).toInt32) hx hb d_PB_leaveOut_47 rfl ?_
      refine lv_istore (lv' := [(4, .int ((if fcnt.toInt64 < (tw_ST_number b p0) then fcnt.toInt64 else (tw_ST_number b p0)).toInt32)), (3, .int fcnt), (0, .ref aT), (1, .int p0), (2, .int p1)]) hx hb d_PB_leaveOut_48 hl (by decide) rfl (fun ls hl => ?_)
      refine lv_iload_n hx hb d_PB_leaveOut_50 rfl (lv_at hl 4 rfl) ?_
      refine lv_if_eq (tgt := 59) hx hb d_PB_leaveOut_51 (by decide) (fun c_3 => ?_) (fun c_3 => ?_)
      · refine lv_iconst (v := 0) hx hb d_PB_leaveOut_59 (by decide) ?_
        refine lv_istore (lv' := [(5, .int 0), (4, .int ((if fcnt.toInt64 < (tw_ST_number b p0) then fcnt.toInt64 else (tw_ST_number b p0)).toInt32)), (3, .int fcnt), (0, .ref aT), (1, .int p0), (2, .int p1)]) hx hb d_PB_leaveOut_60 hl (by decide) rfl (fun ls hl => ?_)
        refine lv_iload_n hx hb d_PB_leaveOut_62 rfl (lv_at hl 5 rfl) ?_
        refine lv_if_eq (tgt := 70) hx hb d_PB_leaveOut_63 (by decide) (fun c_4 => ?_) (fun c_4 => ?_)
        · refine lv_iload hx hb d_PB_leaveOut_70 (lv_at hl 1 rfl) ?_
          refine lv_istore (lv' := [(6, .int ((if fcnt.toInt64 < (tw_ST_number b p0) then fcnt.toInt64 else (tw_ST_number b p0)).toInt32)), (5, .int 0), (4, .int ((if fcnt.toInt64 < (tw_ST_number b p0) then fcnt.toInt64 else (tw_ST_number b p0)).toInt32)), (3, .int fcnt), (0, .ref aT), (1, .int p0), (2, .int p1)]) hx hb d_PB_leaveOut_72 hl (by decide) rfl (fun ls hl => ?_)
          refine lv_iload hx hb d_PB_leaveOut_74 (lv_at hl 1 rfl) ?_
          refine lv_istore (lv' := [(7, .int 0), (6, .int ((if fcnt.toInt64 < (tw_ST_number b p0) then fcnt.toInt64 else (tw_ST_number b p0)).toInt32)), (5, .int 0), (4, .int ((if fcnt.toInt64 < (tw_ST_number b p0) then fcnt.toInt64 else (tw_ST_number b p0)).toInt32)), (3, .int fcnt), (0, .ref aT), (1, .int p0), (2, .int p1)]) hx hb d_PB_leaveOut_76 hl (by decide) rfl (fun ls hl => ?_)
          exact l_PB_leaveOut_h78 C0 l D cB cI aT aS aC aY aH aU aZ aX aW aF aK aN aB aFs aNs fbase nbase onT fcnt fsts hk hA ((if fcnt.toInt64 < (tw_ST_number b p0) then fcnt.toInt64 else (tw_ST_number b p0)).toInt32) hfr (((((if fcnt.toInt64 < (tw_ST_number b p0) then fcnt.toInt64 else (tw_ST_number b p0)).toInt32).toInt - (0 : Int32).toInt).toNat) + 1) 0 place limit full b ncnt nsts (Nat.lt_succ_self _) (hi) (by rw [tw_PB_leaveOut, if_pos c_1, if_pos c_2, if_pos c_3, if_pos c_4]) _ _ hP hD hS ls (lv_sub hl [5, 1, 0] rfl)
        · refine lv_iload_n hx hb d_PB_leaveOut_66 rfl (lv_at hl 2 rfl) ?_
          refine lv_goto (tgt := 72) hx hb d_PB_leaveOut_67 (by decide) ?_
          refine lv_istore (lv' := [(6, .int fcnt), (5, .int 0), (4, .int ((if fcnt.toInt64 < (tw_ST_number b p0) then fcnt.toInt64 else (tw_ST_number b p0)).toInt32)), (3, .int fcnt), (0, .ref aT), (1, .int p0), (2, .int p1)]) hx hb d_PB_leaveOut_72 hl (by decide) rfl (fun ls hl => ?_)
          refine lv_iload hx hb d_PB_leaveOut_74 (lv_at hl 1 rfl) ?_
          refine lv_istore (lv' := [(7, .int 0), (6, .int fcnt), (5, .int 0), (4, .int ((if fcnt.toInt64 < (tw_ST_number b p0) then fcnt.toInt64 else (tw_ST_number b p0)).toInt32)), (3, .int fcnt), (0, .ref aT), (1, .int p0), (2, .int p1)]) hx hb d_PB_leaveOut_76 hl (by decide) rfl (fun ls hl => ?_)
          exact l_PB_leaveOut_h78 C0 l D cB cI aT aS aC aY aH aU aZ aX aW aF aK aN aB aFs aNs fbase nbase onT fcnt fsts hk hA fcnt hfr (((fcnt.toInt - (0 : Int32).toInt).toNat) + 1) 0 place limit full b ncnt nsts (Nat.lt_succ_self _) (hi) (by rw [tw_PB_leaveOut, if_pos c_1, if_pos c_2, if_pos c_3, if_neg c_4]) _ _ hP hD hS ls (lv_sub hl [5, 1, 0] rfl)
      · refine lv_iload hx hb d_PB_leaveOut_54 (lv_at hl 0 rfl) ?_
        refine lv_goto (tgt := 60) hx hb d_PB_leaveOut_56 (by decide) ?_
        refine lv_istore (lv' := [(5, .int ((if fcnt.toInt64 < (tw_ST_number b p0) then fcnt.toInt64 else (tw_ST_number b p0)).toInt32)), (4, .int ((if fcnt.toInt64 < (tw_ST_number b p0) then fcnt.toInt64 else (tw_ST_number b p0)).toInt32)), (3, .int fcnt), (0, .ref aT), (1, .int p0), (2, .int p1)]) hx hb d_PB_leaveOut_60 hl (by decide) rfl (fun ls hl => ?_)
        refine lv_iload_n hx hb d_PB_leaveOut_62 rfl (lv_at hl 5 rfl) ?_
        refine lv_if_eq (tgt := 70) hx hb d_PB_leaveOut_63 (by decide) (fun c_8 => ?_) (fun c_8 => ?_)
        · refine lv_iload hx hb d_PB_leaveOut_70 (lv_at hl 1 rfl) ?_
          refine lv_istore (lv' := [(6, .int ((if fcnt.toInt64 < (tw_ST_number b p0) then fcnt.toInt64 else (tw_ST_number b p0)).toInt32)), (5, .int ((if fcnt.toInt64 < (tw_ST_number b p0) then fcnt.toInt64 else (tw_ST_number b p0)).toInt32)), (4, .int ((if fcnt.toInt64 < (tw_ST_number b p0) then fcnt.toInt64 else (tw_ST_number b p0)).toInt32)), (3, .int fcnt), (0, .ref aT), (1, .int p0), (2, .int p1)]) hx hb d_PB_leaveOut_72 hl (by decide) rfl (fun ls hl => ?_)
          refine lv_iload hx hb d_PB_leaveOut_74 (lv_at hl 1 rfl) ?_
          refine lv_istore (lv' := [(7, .int ((if fcnt.toInt64 < (tw_ST_number b p0) then fcnt.toInt64 else (tw_ST_number b p0)).toInt32)), (6, .int ((if fcnt.toInt64 < (tw_ST_number b p0) then fcnt.toInt64 else (tw_ST_number b p0)).toInt32)), (5, .int ((if fcnt.toInt64 < (tw_ST_number b p0) then fcnt.toInt64 else (tw_ST_number b p0)).toInt32)), (4, .int ((if fcnt.toInt64 < (tw_ST_number b p0) then fcnt.toInt64 else (tw_ST_number b p0)).toInt32)), (3, .int fcnt), (0, .ref aT), (1, .int p0), (2, .int p1)]) hx hb d_PB_leaveOut_76 hl (by decide) rfl (fun ls hl => ?_)
          exact l_PB_leaveOut_h78 C0 l D cB cI aT aS aC aY aH aU aZ aX aW aF aK aN aB aFs aNs fbase nbase onT fcnt fsts hk hA ((if fcnt.toInt64 < (tw_ST_number b p0) then fcnt.toInt64 else (tw_ST_number b p0)).toInt32) hfr (((((if fcnt.toInt64 < (tw_ST_number b p0) then fcnt.toInt64 else (tw_ST_number b p0)).toInt32).toInt - ((if fcnt.toInt64 < (tw_ST_number b p0) then fcnt.toInt64 else (tw_ST_number b p0)).toInt32).toInt).toNat) + 1) ((if fcnt.toInt64 < (tw_ST_number b p0) then fcnt.toInt64 else (tw_ST_number b p0)).toInt32) place limit full b ncnt nsts (Nat.lt_succ_self _) (hi) (by rw [tw_PB_leaveOut, if_pos c_1, if_pos c_2, if_neg c_3, if_pos c_8]) _ _ hP hD hS ls (lv_sub hl [5, 1, 0] rfl)
        · refine lv_iload_n hx hb d_PB_leaveOut_66 rfl (lv_at hl 2 rfl) ?_
          refine lv_goto (tgt := 72) hx hb d_PB_leaveOut_67 (by decide) ?_
          refine lv_istore (lv' := [(6, .int fcnt), (5, .int ((if fcnt.toInt64 < (tw_ST_number b p0) then fcnt.toInt64 else (tw_ST_number b p0)).toInt32)), (4, .int ((if fcnt.toInt64 < (tw_ST_number b p0) then fcnt.toInt64 else (tw_ST_number b p0)).toInt32)), (3, .int fcnt), (0, .ref aT), (1, .int p0), (2, .int p1)]) hx hb d_PB_leaveOut_72 hl (by decide) rfl (fun ls hl => ?_)
          refine lv_iload hx hb d_PB_leaveOut_74 (lv_at hl 1 rfl) ?_
          refine lv_istore (lv' := [(7, .int ((if fcnt.toInt64 < (tw_ST_number b p0) then fcnt.toInt64 else (tw_ST_number b p0)).toInt32)), (6, .int fcnt), (5, .int ((if fcnt.toInt64 < (tw_ST_number b p0) then fcnt.toInt64 else (tw_ST_number b p0)).toInt32)), (4, .int ((if fcnt.toInt64 < (tw_ST_number b p0) then fcnt.toInt64 else (tw_ST_number b p0)).toInt32)), (3, .int fcnt), (0, .ref aT), (1, .int p0), (2, .int p1)]) hx hb d_PB_leaveOut_76 hl (by decide) rfl (fun ls hl => ?_)
          exact l_PB_leaveOut_h78 C0 l D cB cI aT aS aC aY aH aU aZ aX aW aF aK aN aB aFs aNs fbase nbase onT fcnt fsts hk hA fcnt hfr (((fcnt.toInt - ((if fcnt.toInt64 < (tw_ST_number b p0) then fcnt.toInt64 else (tw_ST_number b p0)).toInt32).toInt).toNat) + 1) ((if fcnt.toInt64 < (tw_ST_number b p0) then fcnt.toInt64 else (tw_ST_number b p0)).toInt32) place limit full b ncnt nsts (Nat.lt_succ_self _) (hi) (by rw [tw_PB_leaveOut, if_pos c_1, if_pos c_2, if_neg c_3, if_neg c_8]) _ _ hP hD hS ls (lv_sub hl [5, 1, 0] rfl)
    · refine lv_iconst (v := 2) hx hb d_PB_leaveOut_21 (by decide) ?_
      exact W.iret (v := 2) hx hb hr (fun t ht hW => ⟨⟨2, (place, limit, full, b, ncnt, nsts), rfl, ⟨(by rw [tw_PB_leaveOut, if_pos c_1, if_neg c_2]; first | done | rfl), hi⟩, by rw [ht]; exact hP, hD⟩, hS.F ht⟩) hS.2.2 d_PB_leaveOut_22
