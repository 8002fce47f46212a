/-! printed by wip/gen -/
theorem k_27 : (Jvm.Cond.methodLink "PipelineBelt" (3 : Nat) ({ cls := "java/lang/Object", name := "<init>", desc := "()V" } : Jvm.MethodName)) ∈ lw_g := lw_gm (List.mem_append_right _ (List.mem_of_getElem? (i := 27) (by decide +kernel))) rfl
theorem k_28 : (Jvm.Cond.instanceMethod ({ cls := "java/lang/Object", name := "<init>", desc := "()V" } : Jvm.MethodName)) ∈ lw_g := lw_gm (List.mem_append_right _ (List.mem_of_getElem? (i := 28) (by decide +kernel))) rfl
theorem k_30 : (Jvm.Cond.classLink "PipelineBelt" (9 : Nat) "PipelineBelt$Store") ∈ lw_g := lw_gm (List.mem_append_right _ (List.mem_of_getElem? (i := 30) (by decide +kernel))) rfl
theorem k_31 : (Jvm.Cond.instantiable "PipelineBelt$Store" (1 : Nat)) ∈ lw_g := lw_gm (List.mem_append_right _ (List.mem_of_getElem? (i := 31) (by decide +kernel))) rfl
theorem k_33 : (Jvm.Cond.instanceMethod ({ cls := "PipelineBelt$Store", name := "<init>", desc := "()V" } : Jvm.MethodName)) ∈ lw_g := lw_gm (List.mem_append_right _ (List.mem_of_getElem? (i := 33) (by decide +kernel))) rfl
theorem k_35 : (Jvm.Cond.methodLink "PipelineBelt$Store" (3 : Nat) ({ cls := "java/lang/Object", name := "<init>", desc := "()V" } : Jvm.MethodName)) ∈ lw_g := lw_gm (List.mem_append_right _ (List.mem_of_getElem? (i := 35) (by decide +kernel))) rfl
theorem k_36 : (Jvm.Cond.constant "PipelineBelt$Store" (9 : Nat) (202000 : Int32)) ∈ lw_g := lw_gm (List.mem_append_right _ (List.mem_of_getElem? (i := 36) (by decide +kernel))) rfl
theorem k_42 : (Jvm.Cond.arrayClass Jvm.ClassFile.FieldType.byte) ∈ lw_g := lw_gm (List.mem_append_right _ (List.mem_of_getElem? (i := 42) (by decide +kernel))) rfl
theorem k_43 : (Jvm.Cond.classLink "PipelineBelt" (16 : Nat) "PipelineBelt$Checker") ∈ lw_g := lw_gm (List.mem_append_right _ (List.mem_of_getElem? (i := 43) (by decide +kernel))) rfl
theorem k_44 : (Jvm.Cond.instantiable "PipelineBelt$Checker" (1 : Nat)) ∈ lw_g := lw_gm (List.mem_append_right _ (List.mem_of_getElem? (i := 44) (by decide +kernel))) rfl
theorem k_45 : (Jvm.Cond.methodLink "PipelineBelt" (18 : Nat) ({ cls := "PipelineBelt$Checker", name := "<init>", desc := "(LPipelineBelt$Store;)V" } : Jvm.MethodName)) ∈ lw_g := lw_gm (List.mem_append_right _ (List.mem_of_getElem? (i := 45) (by decide +kernel))) rfl
theorem k_46 : (Jvm.Cond.instanceMethod ({ cls := "PipelineBelt$Checker", name := "<init>", desc := "(LPipelineBelt$Store;)V" } : Jvm.MethodName)) ∈ lw_g := lw_gm (List.mem_append_right _ (List.mem_of_getElem? (i := 46) (by decide +kernel))) rfl
theorem k_48 : (Jvm.Cond.methodLink "PipelineBelt$Checker" (3 : Nat) ({ cls := "java/lang/Object", name := "<init>", desc := "()V" } : Jvm.MethodName)) ∈ lw_g := lw_gm (List.mem_append_right _ (List.mem_of_getElem? (i := 48) (by decide +kernel))) rfl
theorem k_53 : (Jvm.Cond.classLink "PipelineBelt" (25 : Nat) "PipelineBelt$Belts") ∈ lw_g := lw_gm (List.mem_append_right _ (List.mem_of_getElem? (i := 53) (by decide +kernel))) rfl
theorem k_54 : (Jvm.Cond.instantiable "PipelineBelt$Belts" (5 : Nat)) ∈ lw_g := lw_gm (List.mem_append_right _ (List.mem_of_getElem? (i := 54) (by decide +kernel))) rfl
theorem k_55 : (Jvm.Cond.methodLink "PipelineBelt" (27 : Nat) ({ cls := "PipelineBelt$Belts", name := "<init>", desc := "(LPipelineBelt$Store;)V" } : Jvm.MethodName)) ∈ lw_g := lw_gm (List.mem_append_right _ (List.mem_of_getElem? (i := 55) (by decide +kernel))) rfl
theorem k_56 : (Jvm.Cond.instanceMethod ({ cls := "PipelineBelt$Belts", name := "<init>", desc := "(LPipelineBelt$Store;)V" } : Jvm.MethodName)) ∈ lw_g := lw_gm (List.mem_append_right _ (List.mem_of_getElem? (i := 56) (by decide +kernel))) rfl
theorem k_58 : (Jvm.Cond.methodLink "PipelineBelt$Belts" (3 : Nat) ({ cls := "java/lang/Object", name := "<init>", desc := "()V" } : Jvm.MethodName)) ∈ lw_g := lw_gm (List.mem_append_right _ (List.mem_of_getElem? (i := 58) (by decide +kernel))) rfl
theorem k_59 : (Jvm.Cond.classLink "PipelineBelt$Belts" (15 : Nat) "PipelineBelt$Writer") ∈ lw_g := lw_gm (List.mem_append_right _ (List.mem_of_getElem? (i := 59) (by decide +kernel))) rfl
theorem k_60 : (Jvm.Cond.instantiable "PipelineBelt$Writer" (4 : Nat)) ∈ lw_g := lw_gm (List.mem_append_right _ (List.mem_of_getElem? (i := 60) (by decide +kernel))) rfl
theorem k_61 : (Jvm.Cond.methodLink "PipelineBelt$Belts" (17 : Nat) ({ cls := "PipelineBelt$Writer", name := "<init>", desc := "(LPipelineBelt$Store;)V" } : Jvm.MethodName)) ∈ lw_g := lw_gm (List.mem_append_right _ (List.mem_of_getElem? (i := 61) (by decide +kernel))) rfl
theorem k_62 : (Jvm.Cond.instanceMethod ({ cls := "PipelineBelt$Writer", name := "<init>", desc := "(LPipelineBelt$Store;)V" } : Jvm.MethodName)) ∈ lw_g := lw_gm (List.mem_append_right _ (List.mem_of_getElem? (i := 62) (by decide +kernel))) rfl
theorem k_64 : (Jvm.Cond.methodLink "PipelineBelt$Writer" (3 : Nat) ({ cls := "java/lang/Object", name := "<init>", desc := "()V" } : Jvm.MethodName)) ∈ lw_g := lw_gm (List.mem_append_right _ (List.mem_of_getElem? (i := 64) (by decide +kernel))) rfl
theorem k_83 : (Jvm.Cond.classLink "PipelineBelt$Belts" (24 : Nat) "PipelineBelt$Belt") ∈ lw_g := lw_gm (List.mem_append_right _ (List.mem_of_getElem? (i := 83) (by decide +kernel))) rfl
theorem k_84 : (Jvm.Cond.instantiable "PipelineBelt$Belt" (3 : Nat)) ∈ lw_g := lw_gm (List.mem_append_right _ (List.mem_of_getElem? (i := 84) (by decide +kernel))) rfl
theorem k_85 : (Jvm.Cond.methodLink "PipelineBelt$Belts" (26 : Nat) ({ cls := "PipelineBelt$Belt", name := "<init>", desc := "(I)V" } : Jvm.MethodName)) ∈ lw_g := lw_gm (List.mem_append_right _ (List.mem_of_getElem? (i := 85) (by decide +kernel))) rfl
theorem k_86 : (Jvm.Cond.instanceMethod ({ cls := "PipelineBelt$Belt", name := "<init>", desc := "(I)V" } : Jvm.MethodName)) ∈ lw_g := lw_gm (List.mem_append_right _ (List.mem_of_getElem? (i := 86) (by decide +kernel))) rfl
theorem k_88 : (Jvm.Cond.methodLink "PipelineBelt$Belt" (3 : Nat) ({ cls := "java/lang/Object", name := "<init>", desc := "()V" } : Jvm.MethodName)) ∈ lw_g := lw_gm (List.mem_append_right _ (List.mem_of_getElem? (i := 88) (by decide +kernel))) rfl
theorem k_107 : (Jvm.Cond.arrayClass Jvm.ClassFile.FieldType.int) ∈ lw_g := lw_gm (List.mem_append_right _ (List.mem_of_getElem? (i := 107) (by decide +kernel))) rfl
theorem k_108 : (Jvm.Cond.constant "PipelineBelt$Belts" (33 : Nat) (42000 : Int32)) ∈ lw_g := lw_gm (List.mem_append_right _ (List.mem_of_getElem? (i := 108) (by decide +kernel))) rfl
theorem k_109 : (Jvm.Cond.constant "PipelineBelt$Belts" (37 : Nat) (82000 : Int32)) ∈ lw_g := lw_gm (List.mem_append_right _ (List.mem_of_getElem? (i := 109) (by decide +kernel))) rfl
theorem k_132 : (Jvm.Cond.classLink "PipelineBelt" (32 : Nat) "PipelineBelt$Path") ∈ lw_g := lw_gm (List.mem_append_right _ (List.mem_of_getElem? (i := 132) (by decide +kernel))) rfl
theorem k_133 : (Jvm.Cond.instantiable "PipelineBelt$Path" (15 : Nat)) ∈ lw_g := lw_gm (List.mem_append_right _ (List.mem_of_getElem? (i := 133) (by decide +kernel))) rfl
theorem k_134 : (Jvm.Cond.methodLink "PipelineBelt" (34 : Nat) ({ cls := "PipelineBelt$Path", name := "<init>", desc := "(LPipelineBelt$Store;)V" } : Jvm.MethodName)) ∈ lw_g := lw_gm (List.mem_append_right _ (List.mem_of_getElem? (i := 134) (by decide +kernel))) rfl
theorem k_135 : (Jvm.Cond.instanceMethod ({ cls := "PipelineBelt$Path", name := "<init>", desc := "(LPipelineBelt$Store;)V" } : Jvm.MethodName)) ∈ lw_g := lw_gm (List.mem_append_right _ (List.mem_of_getElem? (i := 135) (by decide +kernel))) rfl
theorem k_137 : (Jvm.Cond.methodLink "PipelineBelt$Path" (3 : Nat) ({ cls := "java/lang/Object", name := "<init>", desc := "()V" } : Jvm.MethodName)) ∈ lw_g := lw_gm (List.mem_append_right _ (List.mem_of_getElem? (i := 137) (by decide +kernel))) rfl
theorem k_138 : (Jvm.Cond.classLink "PipelineBelt$Path" (34 : Nat) "PipelineBelt$Writer") ∈ lw_g := lw_gm (List.mem_append_right _ (List.mem_of_getElem? (i := 138) (by decide +kernel))) rfl
theorem k_139 : (Jvm.Cond.methodLink "PipelineBelt$Path" (36 : Nat) ({ cls := "PipelineBelt$Writer", name := "<init>", desc := "(LPipelineBelt$Store;)V" } : Jvm.MethodName)) ∈ lw_g := lw_gm (List.mem_append_right _ (List.mem_of_getElem? (i := 139) (by decide +kernel))) rfl
theorem k_190 : (Jvm.Cond.classLink "PipelineBelt" (35 : Nat) "PipelineBelt$Shaper") ∈ lw_g := lw_gm (List.mem_append_right _ (List.mem_of_getElem? (i := 190) (by decide +kernel))) rfl
theorem k_191 : (Jvm.Cond.instantiable "PipelineBelt$Shaper" (3 : Nat)) ∈ lw_g := lw_gm (List.mem_append_right _ (List.mem_of_getElem? (i := 191) (by decide +kernel))) rfl
theorem k_192 : (Jvm.Cond.methodLink "PipelineBelt" (37 : Nat) ({ cls := "PipelineBelt$Shaper", name := "<init>", desc := "(LPipelineBelt$Store;LPipelineBelt$Belts;LPipelineBelt$Path;)V" } : Jvm.MethodName)) ∈ lw_g := lw_gm (List.mem_append_right _ (List.mem_of_getElem? (i := 192) (by decide +kernel))) rfl
theorem k_193 : (Jvm.Cond.instanceMethod ({ cls := "PipelineBelt$Shaper", name := "<init>", desc := "(LPipelineBelt$Store;LPipelineBelt$Belts;LPipelineBelt$Path;)V" } : Jvm.MethodName)) ∈ lw_g := lw_gm (List.mem_append_right _ (List.mem_of_getElem? (i := 193) (by decide +kernel))) rfl
theorem k_195 : (Jvm.Cond.methodLink "PipelineBelt$Shaper" (3 : Nat) ({ cls := "java/lang/Object", name := "<init>", desc := "()V" } : Jvm.MethodName)) ∈ lw_g := lw_gm (List.mem_append_right _ (List.mem_of_getElem? (i := 195) (by decide +kernel))) rfl
theorem k_206 : (Jvm.Cond.classLink "PipelineBelt" (44 : Nat) "PipelineBelt$Grouper") ∈ lw_g := lw_gm (List.mem_append_right _ (List.mem_of_getElem? (i := 206) (by decide +kernel))) rfl
theorem k_207 : (Jvm.Cond.instantiable "PipelineBelt$Grouper" (12 : Nat)) ∈ lw_g := lw_gm (List.mem_append_right _ (List.mem_of_getElem? (i := 207) (by decide +kernel))) rfl
theorem k_208 : (Jvm.Cond.methodLink "PipelineBelt" (46 : Nat) ({ cls := "PipelineBelt$Grouper", name := "<init>", desc := "(LPipelineBelt$Store;LPipelineBelt$Belts;LPipelineBelt$Path;)V" } : Jvm.MethodName)) ∈ lw_g := lw_gm (List.mem_append_right _ (List.mem_of_getElem? (i := 208) (by decide +kernel))) rfl
theorem k_209 : (Jvm.Cond.instanceMethod ({ cls := "PipelineBelt$Grouper", name := "<init>", desc := "(LPipelineBelt$Store;LPipelineBelt$Belts;LPipelineBelt$Path;)V" } : Jvm.MethodName)) ∈ lw_g := lw_gm (List.mem_append_right _ (List.mem_of_getElem? (i := 209) (by decide +kernel))) rfl
theorem k_211 : (Jvm.Cond.methodLink "PipelineBelt$Grouper" (3 : Nat) ({ cls := "java/lang/Object", name := "<init>", desc := "()V" } : Jvm.MethodName)) ∈ lw_g := lw_gm (List.mem_append_right _ (List.mem_of_getElem? (i := 211) (by decide +kernel))) rfl
theorem k_249 : (Jvm.Cond.classLink "PipelineBelt" (51 : Nat) "PipelineBelt$Sorter") ∈ lw_g := lw_gm (List.mem_append_right _ (List.mem_of_getElem? (i := 249) (by decide +kernel))) rfl
theorem k_250 : (Jvm.Cond.instantiable "PipelineBelt$Sorter" (7 : Nat)) ∈ lw_g := lw_gm (List.mem_append_right _ (List.mem_of_getElem? (i := 250) (by decide +kernel))) rfl
theorem k_251 : (Jvm.Cond.methodLink "PipelineBelt" (53 : Nat) ({ cls := "PipelineBelt$Sorter", name := "<init>", desc := "(LPipelineBelt$Store;LPipelineBelt$Belts;LPipelineBelt$Path;)V" } : Jvm.MethodName)) ∈ lw_g := lw_gm (List.mem_append_right _ (List.mem_of_getElem? (i := 251) (by decide +kernel))) rfl
theorem k_252 : (Jvm.Cond.instanceMethod ({ cls := "PipelineBelt$Sorter", name := "<init>", desc := "(LPipelineBelt$Store;LPipelineBelt$Belts;LPipelineBelt$Path;)V" } : Jvm.MethodName)) ∈ lw_g := lw_gm (List.mem_append_right _ (List.mem_of_getElem? (i := 252) (by decide +kernel))) rfl
theorem k_254 : (Jvm.Cond.methodLink "PipelineBelt$Sorter" (3 : Nat) ({ cls := "java/lang/Object", name := "<init>", desc := "()V" } : Jvm.MethodName)) ∈ lw_g := lw_gm (List.mem_append_right _ (List.mem_of_getElem? (i := 254) (by decide +kernel))) rfl
theorem k_255 : (Jvm.Cond.classLink "PipelineBelt$Sorter" (9 : Nat) "[[I") ∈ lw_g := lw_gm (List.mem_append_right _ (List.mem_of_getElem? (i := 255) (by decide +kernel))) rfl
theorem k_279 : (Jvm.Cond.classLink "PipelineBelt" (58 : Nat) "PipelineBelt$Finder") ∈ lw_g := lw_gm (List.mem_append_right _ (List.mem_of_getElem? (i := 279) (by decide +kernel))) rfl
theorem k_280 : (Jvm.Cond.instantiable "PipelineBelt$Finder" (10 : Nat)) ∈ lw_g := lw_gm (List.mem_append_right _ (List.mem_of_getElem? (i := 280) (by decide +kernel))) rfl
theorem k_281 : (Jvm.Cond.methodLink "PipelineBelt" (60 : Nat) ({ cls := "PipelineBelt$Finder", name := "<init>", desc := "(LPipelineBelt$Store;LPipelineBelt$Belts;LPipelineBelt$Path;)V" } : Jvm.MethodName)) ∈ lw_g := lw_gm (List.mem_append_right _ (List.mem_of_getElem? (i := 281) (by decide +kernel))) rfl
theorem k_282 : (Jvm.Cond.instanceMethod ({ cls := "PipelineBelt$Finder", name := "<init>", desc := "(LPipelineBelt$Store;LPipelineBelt$Belts;LPipelineBelt$Path;)V" } : Jvm.MethodName)) ∈ lw_g := lw_gm (List.mem_append_right _ (List.mem_of_getElem? (i := 282) (by decide +kernel))) rfl
theorem k_284 : (Jvm.Cond.methodLink "PipelineBelt$Finder" (3 : Nat) ({ cls := "java/lang/Object", name := "<init>", desc := "()V" } : Jvm.MethodName)) ∈ lw_g := lw_gm (List.mem_append_right _ (List.mem_of_getElem? (i := 284) (by decide +kernel))) rfl
abbrev b_ST_init : ByteArray := prog_10_method_1_code
def y_ST_init : MethodName := ⟨R_ST, "<init>", "()V"⟩
theorem kc_ST_init : Cond.code y_ST_init b_ST_init 1 none ∈ lw_g := lw_gm (List.mem_append_right _ (List.mem_of_getElem? (i := 34) (by decide +kernel))) rfl
abbrev mw_ST_init : List Cond := Cond.code y_ST_init b_ST_init 1 none :: lw_g
theorem hd_ST_init : y_ST_init.cls = R_ST ∧ y_ST_init.cls ≠ "java/lang/invoke/MethodHandle" ∧ y_ST_init.cls ≠ "java/lang/invoke/VarHandle" ∧ (parseMethodDescriptor y_ST_init.desc).map (fun d => d.parameters.length) = some 0 := by decide +kernel
theorem d_ST_init_0 : decode b_ST_init 0 = .ok (.aload_n 0, 1) := by decide +kernel
theorem d_ST_init_1 : decode b_ST_init 1 = .ok (.invokespecial 3, 3) := by decide +kernel
theorem d_ST_init_4 : decode b_ST_init 4 = .ok (.aload_n 0, 1) := by decide +kernel
theorem d_ST_init_5 : decode b_ST_init 5 = .ok (.ldc 9, 2) := by decide +kernel
theorem d_ST_init_7 : decode b_ST_init 7 = .ok (.newarray .byte, 2) := by decide +kernel
theorem d_ST_init_9 : decode b_ST_init 9 = .ok (.putfield 10, 3) := by decide +kernel
theorem d_ST_init_12 : decode b_ST_init 12 = .ok (.return_, 1) := by decide +kernel
abbrev b_WR_init : ByteArray := prog_11_method_1_code
def y_WR_init : MethodName := ⟨R_WR, "<init>", "(LPipelineBelt$Store;)V"⟩
theorem kc_WR_init : Cond.code y_WR_init b_WR_init 2 none ∈ lw_g := lw_gm (List.mem_append_right _ (List.mem_of_getElem? (i := 63) (by decide +kernel))) rfl
abbrev mw_WR_init : List Cond := Cond.code y_WR_init b_WR_init 2 none :: lw_g
theorem hd_WR_init : y_WR_init.cls = R_WR ∧ y_WR_init.cls ≠ "java/lang/invoke/MethodHandle" ∧ y_WR_init.cls ≠ "java/lang/invoke/VarHandle" ∧ (parseMethodDescriptor y_WR_init.desc).map (fun d => d.parameters.length) = some 1 := by decide +kernel
theorem d_WR_init_0 : decode b_WR_init 0 = .ok (.aload_n 0, 1) := by decide +kernel
theorem d_WR_init_1 : decode b_WR_init 1 = .ok (.invokespecial 3, 3) := by decide +kernel
theorem d_WR_init_4 : decode b_WR_init 4 = .ok (.aload_n 0, 1) := by decide +kernel
theorem d_WR_init_5 : decode b_WR_init 5 = .ok (.aload_n 1, 1) := by decide +kernel
theorem d_WR_init_6 : decode b_WR_init 6 = .ok (.putfield 9, 3) := by decide +kernel
theorem d_WR_init_9 : decode b_WR_init 9 = .ok (.return_, 1) := by decide +kernel
abbrev b_BE_init : ByteArray := prog_2_method_1_code
def y_BE_init : MethodName := ⟨R_BE, "<init>", "(I)V"⟩
theorem kc_BE_init : Cond.code y_BE_init b_BE_init 2 none ∈ lw_g := lw_gm (List.mem_append_right _ (List.mem_of_getElem? (i := 87) (by decide +kernel))) rfl
abbrev mw_BE_init : List Cond := Cond.code y_BE_init b_BE_init 2 none :: lw_g
theorem hd_BE_init : y_BE_init.cls = R_BE ∧ y_BE_init.cls ≠ "java/lang/invoke/MethodHandle" ∧ y_BE_init.cls ≠ "java/lang/invoke/VarHandle" ∧ (parseMethodDescriptor y_BE_init.desc).map (fun d => d.parameters.length) = some 1 := by decide +kernel
theorem d_BE_init_0 : decode b_BE_init 0 = .ok (.aload_n 0, 1) := by decide +kernel
theorem d_BE_init_1 : decode b_BE_init 1 = .ok (.invokespecial 3, 3) := by decide +kernel
theorem d_BE_init_4 : decode b_BE_init 4 = .ok (.aload_n 0, 1) := by decide +kernel
theorem d_BE_init_5 : decode b_BE_init 5 = .ok (.sipush 201, 3) := by decide +kernel
theorem d_BE_init_8 : decode b_BE_init 8 = .ok (.newarray .int, 2) := by decide +kernel
theorem d_BE_init_10 : decode b_BE_init 10 = .ok (.putfield 9, 3) := by decide +kernel
theorem d_BE_init_13 : decode b_BE_init 13 = .ok (.aload_n 0, 1) := by decide +kernel
theorem d_BE_init_14 : decode b_BE_init 14 = .ok (.iload_n 1, 1) := by decide +kernel
theorem d_BE_init_15 : decode b_BE_init 15 = .ok (.putfield 15, 3) := by decide +kernel
theorem d_BE_init_18 : decode b_BE_init 18 = .ok (.aload_n 0, 1) := by decide +kernel
theorem d_BE_init_19 : decode b_BE_init 19 = .ok (.getfield 9, 3) := by decide +kernel
theorem d_BE_init_22 : decode b_BE_init 22 = .ok (.iconst 0, 1) := by decide +kernel
theorem d_BE_init_23 : decode b_BE_init 23 = .ok (.iload_n 1, 1) := by decide +kernel
theorem d_BE_init_24 : decode b_BE_init 24 = .ok (.iastore, 1) := by decide +kernel
theorem d_BE_init_25 : decode b_BE_init 25 = .ok (.return_, 1) := by decide +kernel
abbrev b_CH_init : ByteArray := prog_4_method_1_code
def y_CH_init : MethodName := ⟨R_CH, "<init>", "(LPipelineBelt$Store;)V"⟩
theorem kc_CH_init : Cond.code y_CH_init b_CH_init 2 none ∈ lw_g := lw_gm (List.mem_append_right _ (List.mem_of_getElem? (i := 47) (by decide +kernel))) rfl
abbrev mw_CH_init : List Cond := Cond.code y_CH_init b_CH_init 2 none :: lw_g
theorem hd_CH_init : y_CH_init.cls = R_CH ∧ y_CH_init.cls ≠ "java/lang/invoke/MethodHandle" ∧ y_CH_init.cls ≠ "java/lang/invoke/VarHandle" ∧ (parseMethodDescriptor y_CH_init.desc).map (fun d => d.parameters.length) = some 1 := by decide +kernel
theorem d_CH_init_0 : decode b_CH_init 0 = .ok (.aload_n 0, 1) := by decide +kernel
theorem d_CH_init_1 : decode b_CH_init 1 = .ok (.invokespecial 3, 3) := by decide +kernel
theorem d_CH_init_4 : decode b_CH_init 4 = .ok (.aload_n 0, 1) := by decide +kernel
theorem d_CH_init_5 : decode b_CH_init 5 = .ok (.aload_n 1, 1) := by decide +kernel
theorem d_CH_init_6 : decode b_CH_init 6 = .ok (.putfield 9, 3) := by decide +kernel
theorem d_CH_init_9 : decode b_CH_init 9 = .ok (.return_, 1) := by decide +kernel
abbrev b_BS_init : ByteArray := prog_3_method_1_code
def y_BS_init : MethodName := ⟨R_BS, "<init>", "(LPipelineBelt$Store;)V"⟩
theorem kc_BS_init : Cond.code y_BS_init b_BS_init 2 none ∈ lw_g := lw_gm (List.mem_append_right _ (List.mem_of_getElem? (i := 57) (by decide +kernel))) rfl
abbrev mw_BS_init : List Cond := Cond.code y_BS_init b_BS_init 2 none :: lw_g
theorem hd_BS_init : y_BS_init.cls = R_BS ∧ y_BS_init.cls ≠ "java/lang/invoke/MethodHandle" ∧ y_BS_init.cls ≠ "java/lang/invoke/VarHandle" ∧ (parseMethodDescriptor y_BS_init.desc).map (fun d => d.parameters.length) = some 1 := by decide +kernel
theorem d_BS_init_0 : decode b_BS_init 0 = .ok (.aload_n 0, 1) := by decide +kernel
theorem d_BS_init_1 : decode b_BS_init 1 = .ok (.invokespecial 3, 3) := by decide +kernel
theorem d_BS_init_4 : decode b_BS_init 4 = .ok (.aload_n 0, 1) := by decide +kernel
theorem d_BS_init_5 : decode b_BS_init 5 = .ok (.aload_n 1, 1) := by decide +kernel
theorem d_BS_init_6 : decode b_BS_init 6 = .ok (.putfield 9, 3) := by decide +kernel
theorem d_BS_init_9 : decode b_BS_init 9 = .ok (.aload_n 0, 1) := by decide +kernel
theorem d_BS_init_10 : decode b_BS_init 10 = .ok (.new 15, 3) := by decide +kernel
theorem d_BS_init_13 : decode b_BS_init 13 = .ok (.dup, 1) := by decide +kernel
theorem d_BS_init_14 : decode b_BS_init 14 = .ok (.aload_n 1, 1) := by decide +kernel
theorem d_BS_init_15 : decode b_BS_init 15 = .ok (.invokespecial 17, 3) := by decide +kernel
theorem d_BS_init_18 : decode b_BS_init 18 = .ok (.putfield 20, 3) := by decide +kernel
theorem d_BS_init_21 : decode b_BS_init 21 = .ok (.aload_n 0, 1) := by decide +kernel
theorem d_BS_init_22 : decode b_BS_init 22 = .ok (.new 24, 3) := by decide +kernel
theorem d_BS_init_25 : decode b_BS_init 25 = .ok (.dup, 1) := by decide +kernel
theorem d_BS_init_26 : decode b_BS_init 26 = .ok (.sipush 2000, 3) := by decide +kernel
theorem d_BS_init_29 : decode b_BS_init 29 = .ok (.invokespecial 26, 3) := by decide +kernel
theorem d_BS_init_32 : decode b_BS_init 32 = .ok (.putfield 29, 3) := by decide +kernel
theorem d_BS_init_35 : decode b_BS_init 35 = .ok (.aload_n 0, 1) := by decide +kernel
theorem d_BS_init_36 : decode b_BS_init 36 = .ok (.new 24, 3) := by decide +kernel
theorem d_BS_init_39 : decode b_BS_init 39 = .ok (.dup, 1) := by decide +kernel
theorem d_BS_init_40 : decode b_BS_init 40 = .ok (.ldc 33, 2) := by decide +kernel
theorem d_BS_init_42 : decode b_BS_init 42 = .ok (.invokespecial 26, 3) := by decide +kernel
theorem d_BS_init_45 : decode b_BS_init 45 = .ok (.putfield 34, 3) := by decide +kernel
theorem d_BS_init_48 : decode b_BS_init 48 = .ok (.aload_n 0, 1) := by decide +kernel
theorem d_BS_init_49 : decode b_BS_init 49 = .ok (.new 24, 3) := by decide +kernel
theorem d_BS_init_52 : decode b_BS_init 52 = .ok (.dup, 1) := by decide +kernel
theorem d_BS_init_53 : decode b_BS_init 53 = .ok (.ldc 37, 2) := by decide +kernel
theorem d_BS_init_55 : decode b_BS_init 55 = .ok (.invokespecial 26, 3) := by decide +kernel
theorem d_BS_init_58 : decode b_BS_init 58 = .ok (.putfield 38, 3) := by decide +kernel
theorem d_BS_init_61 : decode b_BS_init 61 = .ok (.return_, 1) := by decide +kernel
abbrev b_PA_init : ByteArray := prog_7_method_1_code
def y_PA_init : MethodName := ⟨R_PA, "<init>", "(LPipelineBelt$Store;)V"⟩
theorem kc_PA_init : Cond.code y_PA_init b_PA_init 2 none ∈ lw_g := lw_gm (List.mem_append_right _ (List.mem_of_getElem? (i := 136) (by decide +kernel))) rfl
abbrev mw_PA_init : List Cond := Cond.code y_PA_init b_PA_init 2 none :: lw_g
theorem hd_PA_init : y_PA_init.cls = R_PA ∧ y_PA_init.cls ≠ "java/lang/invoke/MethodHandle" ∧ y_PA_init.cls ≠ "java/lang/invoke/VarHandle" ∧ (parseMethodDescriptor y_PA_init.desc).map (fun d => d.parameters.length) = some 1 := by decide +kernel
theorem d_PA_init_0 : decode b_PA_init 0 = .ok (.aload_n 0, 1) := by decide +kernel
theorem d_PA_init_1 : decode b_PA_init 1 = .ok (.invokespecial 3, 3) := by decide +kernel
theorem d_PA_init_4 : decode b_PA_init 4 = .ok (.aload_n 0, 1) := by decide +kernel
theorem d_PA_init_5 : decode b_PA_init 5 = .ok (.bipush 8, 2) := by decide +kernel
theorem d_PA_init_7 : decode b_PA_init 7 = .ok (.newarray .int, 2) := by decide +kernel
theorem d_PA_init_9 : decode b_PA_init 9 = .ok (.putfield 9, 3) := by decide +kernel
theorem d_PA_init_12 : decode b_PA_init 12 = .ok (.aload_n 0, 1) := by decide +kernel
theorem d_PA_init_13 : decode b_PA_init 13 = .ok (.bipush 8, 2) := by decide +kernel
theorem d_PA_init_15 : decode b_PA_init 15 = .ok (.newarray .int, 2) := by decide +kernel
theorem d_PA_init_17 : decode b_PA_init 17 = .ok (.putfield 15, 3) := by decide +kernel
theorem d_PA_init_20 : decode b_PA_init 20 = .ok (.aload_n 0, 1) := by decide +kernel
theorem d_PA_init_21 : decode b_PA_init 21 = .ok (.bipush 8, 2) := by decide +kernel
theorem d_PA_init_23 : decode b_PA_init 23 = .ok (.newarray .int, 2) := by decide +kernel
theorem d_PA_init_25 : decode b_PA_init 25 = .ok (.putfield 18, 3) := by decide +kernel
theorem d_PA_init_28 : decode b_PA_init 28 = .ok (.aload_n 0, 1) := by decide +kernel
theorem d_PA_init_29 : decode b_PA_init 29 = .ok (.bipush 8, 2) := by decide +kernel
theorem d_PA_init_31 : decode b_PA_init 31 = .ok (.newarray .int, 2) := by decide +kernel
theorem d_PA_init_33 : decode b_PA_init 33 = .ok (.putfield 21, 3) := by decide +kernel
theorem d_PA_init_36 : decode b_PA_init 36 = .ok (.aload_n 0, 1) := by decide +kernel
theorem d_PA_init_37 : decode b_PA_init 37 = .ok (.sipush 1001, 3) := by decide +kernel
theorem d_PA_init_40 : decode b_PA_init 40 = .ok (.newarray .int, 2) := by decide +kernel
theorem d_PA_init_42 : decode b_PA_init 42 = .ok (.putfield 24, 3) := by decide +kernel
theorem d_PA_init_45 : decode b_PA_init 45 = .ok (.aload_n 0, 1) := by decide +kernel
theorem d_PA_init_46 : decode b_PA_init 46 = .ok (.sipush 2000, 3) := by decide +kernel
theorem d_PA_init_49 : decode b_PA_init 49 = .ok (.newarray .int, 2) := by decide +kernel
theorem d_PA_init_51 : decode b_PA_init 51 = .ok (.putfield 27, 3) := by decide +kernel
theorem d_PA_init_54 : decode b_PA_init 54 = .ok (.aload_n 0, 1) := by decide +kernel
theorem d_PA_init_55 : decode b_PA_init 55 = .ok (.aload_n 1, 1) := by decide +kernel
theorem d_PA_init_56 : decode b_PA_init 56 = .ok (.putfield 30, 3) := by decide +kernel
theorem d_PA_init_59 : decode b_PA_init 59 = .ok (.aload_n 0, 1) := by decide +kernel
theorem d_PA_init_60 : decode b_PA_init 60 = .ok (.new 34, 3) := by decide +kernel
theorem d_PA_init_63 : decode b_PA_init 63 = .ok (.dup, 1) := by decide +kernel
theorem d_PA_init_64 : decode b_PA_init 64 = .ok (.aload_n 1, 1) := by decide +kernel
theorem d_PA_init_65 : decode b_PA_init 65 = .ok (.invokespecial 36, 3) := by decide +kernel
theorem d_PA_init_68 : decode b_PA_init 68 = .ok (.putfield 39, 3) := by decide +kernel
theorem d_PA_init_71 : decode b_PA_init 71 = .ok (.return_, 1) := by decide +kernel
abbrev b_SH_init : ByteArray := prog_8_method_1_code
def y_SH_init : MethodName := ⟨R_SH, "<init>", "(LPipelineBelt$Store;LPipelineBelt$Belts;LPipelineBelt$Path;)V"⟩
theorem kc_SH_init : Cond.code y_SH_init b_SH_init 4 none ∈ lw_g := lw_gm (List.mem_append_right _ (List.mem_of_getElem? (i := 194) (by decide +kernel))) rfl
abbrev mw_SH_init : List Cond := Cond.code y_SH_init b_SH_init 4 none :: lw_g
theorem hd_SH_init : y_SH_init.cls = R_SH ∧ y_SH_init.cls ≠ "java/lang/invoke/MethodHandle" ∧ y_SH_init.cls ≠ "java/lang/invoke/VarHandle" ∧ (parseMethodDescriptor y_SH_init.desc).map (fun d => d.parameters.length) = some 3 := by decide +kernel
theorem d_SH_init_0 : decode b_SH_init 0 = .ok (.aload_n 0, 1) := by decide +kernel
theorem d_SH_init_1 : decode b_SH_init 1 = .ok (.invokespecial 3, 3) := by decide +kernel
theorem d_SH_init_4 : decode b_SH_init 4 = .ok (.aload_n 0, 1) := by decide +kernel
theorem d_SH_init_5 : decode b_SH_init 5 = .ok (.aload_n 1, 1) := by decide +kernel
theorem d_SH_init_6 : decode b_SH_init 6 = .ok (.putfield 9, 3) := by decide +kernel
theorem d_SH_init_9 : decode b_SH_init 9 = .ok (.aload_n 0, 1) := by decide +kernel
theorem d_SH_init_10 : decode b_SH_init 10 = .ok (.aload_n 2, 1) := by decide +kernel
theorem d_SH_init_11 : decode b_SH_init 11 = .ok (.putfield 15, 3) := by decide +kernel
theorem d_SH_init_14 : decode b_SH_init 14 = .ok (.aload_n 0, 1) := by decide +kernel
theorem d_SH_init_15 : decode b_SH_init 15 = .ok (.aload_n 3, 1) := by decide +kernel
theorem d_SH_init_16 : decode b_SH_init 16 = .ok (.putfield 19, 3) := by decide +kernel
theorem d_SH_init_19 : decode b_SH_init 19 = .ok (.return_, 1) := by decide +kernel
abbrev b_GR_init : ByteArray := prog_6_method_1_code
def y_GR_init : MethodName := ⟨R_GR, "<init>", "(LPipelineBelt$Store;LPipelineBelt$Belts;LPipelineBelt$Path;)V"⟩
theorem kc_GR_init : Cond.code y_GR_init b_GR_init 4 none ∈ lw_g := lw_gm (List.mem_append_right _ (List.mem_of_getElem? (i := 210) (by decide +kernel))) rfl
abbrev mw_GR_init : List Cond := Cond.code y_GR_init b_GR_init 4 none :: lw_g
theorem hd_GR_init : y_GR_init.cls = R_GR ∧ y_GR_init.cls ≠ "java/lang/invoke/MethodHandle" ∧ y_GR_init.cls ≠ "java/lang/invoke/VarHandle" ∧ (parseMethodDescriptor y_GR_init.desc).map (fun d => d.parameters.length) = some 3 := by decide +kernel
theorem d_GR_init_0 : decode b_GR_init 0 = .ok (.aload_n 0, 1) := by decide +kernel
theorem d_GR_init_1 : decode b_GR_init 1 = .ok (.invokespecial 3, 3) := by decide +kernel
theorem d_GR_init_4 : decode b_GR_init 4 = .ok (.aload_n 0, 1) := by decide +kernel
theorem d_GR_init_5 : decode b_GR_init 5 = .ok (.sipush 200, 3) := by decide +kernel
theorem d_GR_init_8 : decode b_GR_init 8 = .ok (.newarray .int, 2) := by decide +kernel
theorem d_GR_init_10 : decode b_GR_init 10 = .ok (.putfield 9, 3) := by decide +kernel
theorem d_GR_init_13 : decode b_GR_init 13 = .ok (.aload_n 0, 1) := by decide +kernel
theorem d_GR_init_14 : decode b_GR_init 14 = .ok (.sipush 200, 3) := by decide +kernel
theorem d_GR_init_17 : decode b_GR_init 17 = .ok (.newarray .int, 2) := by decide +kernel
theorem d_GR_init_19 : decode b_GR_init 19 = .ok (.putfield 15, 3) := by decide +kernel
theorem d_GR_init_22 : decode b_GR_init 22 = .ok (.aload_n 0, 1) := by decide +kernel
theorem d_GR_init_23 : decode b_GR_init 23 = .ok (.sipush 200, 3) := by decide +kernel
theorem d_GR_init_26 : decode b_GR_init 26 = .ok (.newarray .int, 2) := by decide +kernel
theorem d_GR_init_28 : decode b_GR_init 28 = .ok (.putfield 18, 3) := by decide +kernel
theorem d_GR_init_31 : decode b_GR_init 31 = .ok (.aload_n 0, 1) := by decide +kernel
theorem d_GR_init_32 : decode b_GR_init 32 = .ok (.sipush 200, 3) := by decide +kernel
theorem d_GR_init_35 : decode b_GR_init 35 = .ok (.newarray .int, 2) := by decide +kernel
theorem d_GR_init_37 : decode b_GR_init 37 = .ok (.putfield 21, 3) := by decide +kernel
theorem d_GR_init_40 : decode b_GR_init 40 = .ok (.aload_n 0, 1) := by decide +kernel
theorem d_GR_init_41 : decode b_GR_init 41 = .ok (.sipush 200, 3) := by decide +kernel
theorem d_GR_init_44 : decode b_GR_init 44 = .ok (.newarray .int, 2) := by decide +kernel
theorem d_GR_init_46 : decode b_GR_init 46 = .ok (.putfield 24, 3) := by decide +kernel
theorem d_GR_init_49 : decode b_GR_init 49 = .ok (.aload_n 0, 1) := by decide +kernel
theorem d_GR_init_50 : decode b_GR_init 50 = .ok (.sipush 200, 3) := by decide +kernel
theorem d_GR_init_53 : decode b_GR_init 53 = .ok (.newarray .int, 2) := by decide +kernel
theorem d_GR_init_55 : decode b_GR_init 55 = .ok (.putfield 27, 3) := by decide +kernel
theorem d_GR_init_58 : decode b_GR_init 58 = .ok (.aload_n 0, 1) := by decide +kernel
theorem d_GR_init_59 : decode b_GR_init 59 = .ok (.aload_n 1, 1) := by decide +kernel
theorem d_GR_init_60 : decode b_GR_init 60 = .ok (.putfield 30, 3) := by decide +kernel
theorem d_GR_init_63 : decode b_GR_init 63 = .ok (.aload_n 0, 1) := by decide +kernel
theorem d_GR_init_64 : decode b_GR_init 64 = .ok (.aload_n 2, 1) := by decide +kernel
theorem d_GR_init_65 : decode b_GR_init 65 = .ok (.putfield 34, 3) := by decide +kernel
theorem d_GR_init_68 : decode b_GR_init 68 = .ok (.aload_n 0, 1) := by decide +kernel
theorem d_GR_init_69 : decode b_GR_init 69 = .ok (.aload_n 3, 1) := by decide +kernel
theorem d_GR_init_70 : decode b_GR_init 70 = .ok (.putfield 38, 3) := by decide +kernel
theorem d_GR_init_73 : decode b_GR_init 73 = .ok (.return_, 1) := by decide +kernel
abbrev b_SO_init : ByteArray := prog_9_method_1_code
def y_SO_init : MethodName := ⟨R_SO, "<init>", "(LPipelineBelt$Store;LPipelineBelt$Belts;LPipelineBelt$Path;)V"⟩
theorem kc_SO_init : Cond.code y_SO_init b_SO_init 4 none ∈ lw_g := lw_gm (List.mem_append_right _ (List.mem_of_getElem? (i := 253) (by decide +kernel))) rfl
abbrev mw_SO_init : List Cond := Cond.code y_SO_init b_SO_init 4 none :: lw_g
theorem hd_SO_init : y_SO_init.cls = R_SO ∧ y_SO_init.cls ≠ "java/lang/invoke/MethodHandle" ∧ y_SO_init.cls ≠ "java/lang/invoke/VarHandle" ∧ (parseMethodDescriptor y_SO_init.desc).map (fun d => d.parameters.length) = some 3 := by decide +kernel
theorem d_SO_init_0 : decode b_SO_init 0 = .ok (.aload_n 0, 1) := by decide +kernel
theorem d_SO_init_1 : decode b_SO_init 1 = .ok (.invokespecial 3, 3) := by decide +kernel
theorem d_SO_init_4 : decode b_SO_init 4 = .ok (.aload_n 0, 1) := by decide +kernel
theorem d_SO_init_5 : decode b_SO_init 5 = .ok (.iconst 4, 1) := by decide +kernel
theorem d_SO_init_6 : decode b_SO_init 6 = .ok (.sipush 200, 3) := by decide +kernel
theorem d_SO_init_9 : decode b_SO_init 9 = .ok (.multianewarray 9 2, 4) := by decide +kernel
theorem d_SO_init_13 : decode b_SO_init 13 = .ok (.putfield 11, 3) := by decide +kernel
theorem d_SO_init_16 : decode b_SO_init 16 = .ok (.aload_n 0, 1) := by decide +kernel
theorem d_SO_init_17 : decode b_SO_init 17 = .ok (.iconst 4, 1) := by decide +kernel
theorem d_SO_init_18 : decode b_SO_init 18 = .ok (.newarray .int, 2) := by decide +kernel
theorem d_SO_init_20 : decode b_SO_init 20 = .ok (.putfield 16, 3) := by decide +kernel
theorem d_SO_init_23 : decode b_SO_init 23 = .ok (.aload_n 0, 1) := by decide +kernel
theorem d_SO_init_24 : decode b_SO_init 24 = .ok (.sipush 200, 3) := by decide +kernel
theorem d_SO_init_27 : decode b_SO_init 27 = .ok (.newarray .int, 2) := by decide +kernel
theorem d_SO_init_29 : decode b_SO_init 29 = .ok (.putfield 20, 3) := by decide +kernel
theorem d_SO_init_32 : decode b_SO_init 32 = .ok (.aload_n 0, 1) := by decide +kernel
theorem d_SO_init_33 : decode b_SO_init 33 = .ok (.aload_n 1, 1) := by decide +kernel
theorem d_SO_init_34 : decode b_SO_init 34 = .ok (.putfield 23, 3) := by decide +kernel
theorem d_SO_init_37 : decode b_SO_init 37 = .ok (.aload_n 0, 1) := by decide +kernel
theorem d_SO_init_38 : decode b_SO_init 38 = .ok (.aload_n 2, 1) := by decide +kernel
theorem d_SO_init_39 : decode b_SO_init 39 = .ok (.putfield 27, 3) := by decide +kernel
theorem d_SO_init_42 : decode b_SO_init 42 = .ok (.aload_n 0, 1) := by decide +kernel
theorem d_SO_init_43 : decode b_SO_init 43 = .ok (.aload_n 3, 1) := by decide +kernel
theorem d_SO_init_44 : decode b_SO_init 44 = .ok (.putfield 31, 3) := by decide +kernel
theorem d_SO_init_47 : decode b_SO_init 47 = .ok (.return_, 1) := by decide +kernel
abbrev b_FI_init : ByteArray := prog_5_method_1_code
def y_FI_init : MethodName := ⟨R_FI, "<init>", "(LPipelineBelt$Store;LPipelineBelt$Belts;LPipelineBelt$Path;)V"⟩
theorem kc_FI_init : Cond.code y_FI_init b_FI_init 4 none ∈ lw_g := lw_gm (List.mem_append_right _ (List.mem_of_getElem? (i := 283) (by decide +kernel))) rfl
abbrev mw_FI_init : List Cond := Cond.code y_FI_init b_FI_init 4 none :: lw_g
theorem hd_FI_init : y_FI_init.cls = R_FI ∧ y_FI_init.cls ≠ "java/lang/invoke/MethodHandle" ∧ y_FI_init.cls ≠ "java/lang/invoke/VarHandle" ∧ (parseMethodDescriptor y_FI_init.desc).map (fun d => d.parameters.length) = some 3 := by decide +kernel
theorem d_FI_init_0 : decode b_FI_init 0 = .ok (.aload_n 0, 1) := by decide +kernel
theorem d_FI_init_1 : decode b_FI_init 1 = .ok (.invokespecial 3, 3) := by decide +kernel
theorem d_FI_init_4 : decode b_FI_init 4 = .ok (.aload_n 0, 1) := by decide +kernel
theorem d_FI_init_5 : decode b_FI_init 5 = .ok (.sipush 1024, 3) := by decide +kernel
theorem d_FI_init_8 : decode b_FI_init 8 = .ok (.newarray .int, 2) := by decide +kernel
theorem d_FI_init_10 : decode b_FI_init 10 = .ok (.putfield 11, 3) := by decide +kernel
theorem d_FI_init_13 : decode b_FI_init 13 = .ok (.aload_n 0, 1) := by decide +kernel
theorem d_FI_init_14 : decode b_FI_init 14 = .ok (.sipush 13533, 3) := by decide +kernel
theorem d_FI_init_17 : decode b_FI_init 17 = .ok (.newarray .int, 2) := by decide +kernel
theorem d_FI_init_19 : decode b_FI_init 19 = .ok (.putfield 15, 3) := by decide +kernel
theorem d_FI_init_22 : decode b_FI_init 22 = .ok (.aload_n 0, 1) := by decide +kernel
theorem d_FI_init_23 : decode b_FI_init 23 = .ok (.sipush 13533, 3) := by decide +kernel
theorem d_FI_init_26 : decode b_FI_init 26 = .ok (.newarray .int, 2) := by decide +kernel
theorem d_FI_init_28 : decode b_FI_init 28 = .ok (.putfield 18, 3) := by decide +kernel
theorem d_FI_init_31 : decode b_FI_init 31 = .ok (.aload_n 0, 1) := by decide +kernel
theorem d_FI_init_32 : decode b_FI_init 32 = .ok (.sipush 13533, 3) := by decide +kernel
theorem d_FI_init_35 : decode b_FI_init 35 = .ok (.newarray .int, 2) := by decide +kernel
theorem d_FI_init_37 : decode b_FI_init 37 = .ok (.putfield 21, 3) := by decide +kernel
theorem d_FI_init_40 : decode b_FI_init 40 = .ok (.aload_n 0, 1) := by decide +kernel
theorem d_FI_init_41 : decode b_FI_init 41 = .ok (.sipush 13533, 3) := by decide +kernel
theorem d_FI_init_44 : decode b_FI_init 44 = .ok (.newarray .int, 2) := by decide +kernel
theorem d_FI_init_46 : decode b_FI_init 46 = .ok (.putfield 24, 3) := by decide +kernel
theorem d_FI_init_49 : decode b_FI_init 49 = .ok (.aload_n 0, 1) := by decide +kernel
theorem d_FI_init_50 : decode b_FI_init 50 = .ok (.sipush 200, 3) := by decide +kernel
theorem d_FI_init_53 : decode b_FI_init 53 = .ok (.newarray .int, 2) := by decide +kernel
theorem d_FI_init_55 : decode b_FI_init 55 = .ok (.putfield 27, 3) := by decide +kernel
theorem d_FI_init_58 : decode b_FI_init 58 = .ok (.aload_n 0, 1) := by decide +kernel
theorem d_FI_init_59 : decode b_FI_init 59 = .ok (.aload_n 1, 1) := by decide +kernel
theorem d_FI_init_60 : decode b_FI_init 60 = .ok (.putfield 30, 3) := by decide +kernel
theorem d_FI_init_63 : decode b_FI_init 63 = .ok (.aload_n 0, 1) := by decide +kernel
theorem d_FI_init_64 : decode b_FI_init 64 = .ok (.aload_n 2, 1) := by decide +kernel
theorem d_FI_init_65 : decode b_FI_init 65 = .ok (.putfield 34, 3) := by decide +kernel
theorem d_FI_init_68 : decode b_FI_init 68 = .ok (.aload_n 0, 1) := by decide +kernel
theorem d_FI_init_69 : decode b_FI_init 69 = .ok (.aload_n 3, 1) := by decide +kernel
theorem d_FI_init_70 : decode b_FI_init 70 = .ok (.putfield 38, 3) := by decide +kernel
theorem d_FI_init_73 : decode b_FI_init 73 = .ok (.return_, 1) := by decide +kernel
abbrev b_PB_init : ByteArray := prog_1_method_1_code
def y_PB_init : MethodName := ⟨R_PB, "<init>", "()V"⟩
theorem kc_PB_init : Cond.code y_PB_init b_PB_init 2 none ∈ lw_g := lw_gm (List.mem_append_right _ (List.mem_of_getElem? (i := 26) (by decide +kernel))) rfl
abbrev mw_PB_init : List Cond := Cond.code y_PB_init b_PB_init 2 none :: lw_g
theorem hd_PB_init : y_PB_init.cls = R_PB ∧ y_PB_init.cls ≠ "java/lang/invoke/MethodHandle" ∧ y_PB_init.cls ≠ "java/lang/invoke/VarHandle" ∧ (parseMethodDescriptor y_PB_init.desc).map (fun d => d.parameters.length) = some 0 := by decide +kernel
theorem d_PB_init_0 : decode b_PB_init 0 = .ok (.aload_n 0, 1) := by decide +kernel
theorem d_PB_init_1 : decode b_PB_init 1 = .ok (.invokespecial 3, 3) := by decide +kernel
theorem d_PB_init_4 : decode b_PB_init 4 = .ok (.aload_n 0, 1) := by decide +kernel
theorem d_PB_init_5 : decode b_PB_init 5 = .ok (.new 9, 3) := by decide +kernel
theorem d_PB_init_8 : decode b_PB_init 8 = .ok (.dup, 1) := by decide +kernel
theorem d_PB_init_9 : decode b_PB_init 9 = .ok (.invokespecial 11, 3) := by decide +kernel
theorem d_PB_init_12 : decode b_PB_init 12 = .ok (.putfield 12, 3) := by decide +kernel
theorem d_PB_init_15 : decode b_PB_init 15 = .ok (.aload_n 0, 1) := by decide +kernel
theorem d_PB_init_16 : decode b_PB_init 16 = .ok (.new 16, 3) := by decide +kernel
theorem d_PB_init_19 : decode b_PB_init 19 = .ok (.dup, 1) := by decide +kernel
theorem d_PB_init_20 : decode b_PB_init 20 = .ok (.aload_n 0, 1) := by decide +kernel
theorem d_PB_init_21 : decode b_PB_init 21 = .ok (.getfield 12, 3) := by decide +kernel
theorem d_PB_init_24 : decode b_PB_init 24 = .ok (.invokespecial 18, 3) := by decide +kernel
theorem d_PB_init_27 : decode b_PB_init 27 = .ok (.putfield 21, 3) := by decide +kernel
theorem d_PB_init_30 : decode b_PB_init 30 = .ok (.aload_n 0, 1) := by decide +kernel
theorem d_PB_init_31 : decode b_PB_init 31 = .ok (.new 25, 3) := by decide +kernel
theorem d_PB_init_34 : decode b_PB_init 34 = .ok (.dup, 1) := by decide +kernel
theorem d_PB_init_35 : decode b_PB_init 35 = .ok (.aload_n 0, 1) := by decide +kernel
theorem d_PB_init_36 : decode b_PB_init 36 = .ok (.getfield 12, 3) := by decide +kernel
theorem d_PB_init_39 : decode b_PB_init 39 = .ok (.invokespecial 27, 3) := by decide +kernel
theorem d_PB_init_42 : decode b_PB_init 42 = .ok (.putfield 28, 3) := by decide +kernel
theorem d_PB_init_45 : decode b_PB_init 45 = .ok (.new 32, 3) := by decide +kernel
theorem d_PB_init_48 : decode b_PB_init 48 = .ok (.dup, 1) := by decide +kernel
theorem d_PB_init_49 : decode b_PB_init 49 = .ok (.aload_n 0, 1) := by decide +kernel
theorem d_PB_init_50 : decode b_PB_init 50 = .ok (.getfield 12, 3) := by decide +kernel
theorem d_PB_init_53 : decode b_PB_init 53 = .ok (.invokespecial 34, 3) := by decide +kernel
theorem d_PB_init_56 : decode b_PB_init 56 = .ok (.astore_n 1, 1) := by decide +kernel
theorem d_PB_init_57 : decode b_PB_init 57 = .ok (.aload_n 0, 1) := by decide +kernel
theorem d_PB_init_58 : decode b_PB_init 58 = .ok (.new 35, 3) := by decide +kernel
theorem d_PB_init_61 : decode b_PB_init 61 = .ok (.dup, 1) := by decide +kernel
theorem d_PB_init_62 : decode b_PB_init 62 = .ok (.aload_n 0, 1) := by decide +kernel
theorem d_PB_init_63 : decode b_PB_init 63 = .ok (.getfield 12, 3) := by decide +kernel
theorem d_PB_init_66 : decode b_PB_init 66 = .ok (.aload_n 0, 1) := by decide +kernel
theorem d_PB_init_67 : decode b_PB_init 67 = .ok (.getfield 28, 3) := by decide +kernel
theorem d_PB_init_70 : decode b_PB_init 70 = .ok (.aload_n 1, 1) := by decide +kernel
theorem d_PB_init_71 : decode b_PB_init 71 = .ok (.invokespecial 37, 3) := by decide +kernel
theorem d_PB_init_74 : decode b_PB_init 74 = .ok (.putfield 40, 3) := by decide +kernel
theorem d_PB_init_77 : decode b_PB_init 77 = .ok (.aload_n 0, 1) := by decide +kernel
theorem d_PB_init_78 : decode b_PB_init 78 = .ok (.new 44, 3) := by decide +kernel
theorem d_PB_init_81 : decode b_PB_init 81 = .ok (.dup, 1) := by decide +kernel
theorem d_PB_init_82 : decode b_PB_init 82 = .ok (.aload_n 0, 1) := by decide +kernel
theorem d_PB_init_83 : decode b_PB_init 83 = .ok (.getfield 12, 3) := by decide +kernel
theorem d_PB_init_86 : decode b_PB_init 86 = .ok (.aload_n 0, 1) := by decide +kernel
theorem d_PB_init_87 : decode b_PB_init 87 = .ok (.getfield 28, 3) := by decide +kernel
theorem d_PB_init_90 : decode b_PB_init 90 = .ok (.aload_n 1, 1) := by decide +kernel
theorem d_PB_init_91 : decode b_PB_init 91 = .ok (.invokespecial 46, 3) := by decide +kernel
theorem d_PB_init_94 : decode b_PB_init 94 = .ok (.putfield 47, 3) := by decide +kernel
theorem d_PB_init_97 : decode b_PB_init 97 = .ok (.aload_n 0, 1) := by decide +kernel
theorem d_PB_init_98 : decode b_PB_init 98 = .ok (.new 51, 3) := by decide +kernel
theorem d_PB_init_101 : decode b_PB_init 101 = .ok (.dup, 1) := by decide +kernel
theorem d_PB_init_102 : decode b_PB_init 102 = .ok (.aload_n 0, 1) := by decide +kernel
theorem d_PB_init_103 : decode b_PB_init 103 = .ok (.getfield 12, 3) := by decide +kernel
theorem d_PB_init_106 : decode b_PB_init 106 = .ok (.aload_n 0, 1) := by decide +kernel
theorem d_PB_init_107 : decode b_PB_init 107 = .ok (.getfield 28, 3) := by decide +kernel
theorem d_PB_init_110 : decode b_PB_init 110 = .ok (.aload_n 1, 1) := by decide +kernel
theorem d_PB_init_111 : decode b_PB_init 111 = .ok (.invokespecial 53, 3) := by decide +kernel
theorem d_PB_init_114 : decode b_PB_init 114 = .ok (.putfield 54, 3) := by decide +kernel
theorem d_PB_init_117 : decode b_PB_init 117 = .ok (.aload_n 0, 1) := by decide +kernel
theorem d_PB_init_118 : decode b_PB_init 118 = .ok (.new 58, 3) := by decide +kernel
theorem d_PB_init_121 : decode b_PB_init 121 = .ok (.dup, 1) := by decide +kernel
theorem d_PB_init_122 : decode b_PB_init 122 = .ok (.aload_n 0, 1) := by decide +kernel
theorem d_PB_init_123 : decode b_PB_init 123 = .ok (.getfield 12, 3) := by decide +kernel
theorem d_PB_init_126 : decode b_PB_init 126 = .ok (.aload_n 0, 1) := by decide +kernel
theorem d_PB_init_127 : decode b_PB_init 127 = .ok (.getfield 28, 3) := by decide +kernel
theorem d_PB_init_130 : decode b_PB_init 130 = .ok (.aload_n 1, 1) := by decide +kernel
theorem d_PB_init_131 : decode b_PB_init 131 = .ok (.invokespecial 60, 3) := by decide +kernel
theorem d_PB_init_134 : decode b_PB_init 134 = .ok (.putfield 61, 3) := by decide +kernel
theorem d_PB_init_137 : decode b_PB_init 137 = .ok (.return_, 1) := by decide +kernel
theorem kc_JO_init : Cond.code objectInit ⟨#[0xb1]⟩ 1 none ∈ lw_g := lw_gm (by decide +kernel) rfl
/-- what constructors need beside: the nest's link, the class of tables -/
def xk_ (D : va_G) (cI : ClassId) (U : State) : Prop := va_Nw (.methodLinkNest "PipelineBelt" 11 ⟨"PipelineBelt$Store", "<init>", "()V"⟩ "PipelineBelt") U ∧ U.vm.findClass "[[I" = some (D.1 100) ∧ ∃ k : Class, U.vm.classes[D.1 100]? = some k ∧ k.kind = .array cI (.array .int)
theorem xk_.warm {D : va_G} {cI : ClassId} {s U : State} (hW : s.WarmedH U.vm) (h : xk_ D cI s) : xk_ D cI U := by
  obtain ⟨h1, h2, k, h3, h4⟩ := h
  obtain ⟨k1, h5, h6⟩ := hW.alike.2.2 _ _ h3
  exact ⟨va_Nw.warmM hW h1, by rw [hW.alike.findClass]; exact h2, k1, h5, by rw [h6]; exact h4⟩
theorem xk_.calling {D : va_G} {cI : ClassId} {U : State} {g : JFrame} {mk : MethodId} {a : Array Value} (h : xk_ D cI U) : xk_ D cI (U.calling g mk a) := ⟨va_Nw.same rfl rfl h.1, h.2⟩
abbrev mt_I (D : va_G) (cB cI : ClassId) (wc : va_W) (sz : Nat) (U : State) : Prop := mt_P D cB cI wc sz U ∧ xk_ D cI U
theorem mi_blind {D : va_G} {cB cI : ClassId} {wc : va_W} {av : List Value} {sz : Nat} : FrameBlind (va_Pc av (mt_I D cB cI wc sz)) := fun a U g mk q => ⟨q.1, ⟨q.2.1.1, q.2.1.2.1, q.2.1.2.2.1.calling, q.2.1.2.2.2⟩, q.2.2.calling⟩
theorem mi_pre {D : va_G} {cB cI : ClassId} {wc : va_W} {s : State} {H : Heap} {A : Nat → Prop} {av : List Value} (hk : hk_ D cB cI s) (hxk : xk_ D cI s) (hPc : va_P D vwCl wc H) (hDc : va_D A wc) : ∀ U : State, U.heap = H → s.WarmedH U.vm → va_Pc av (mt_I D cB cI wc H.size) av.toArray U :=
  fun U hU hW => ⟨rfl, ⟨by rw [hU], by rw [hU]; exact hPc, hk.warm hW, hDc.weaken (fun _ _ _ _ => trivial)⟩, hxk.warm hW⟩
theorem nz_b (N : Nat) : ∀ cA : ClassId, vp_cell cA (N, .inl (by_ (fun _ => 0))) = arrV cA N (fun _ => defaultValue .byte) := fun cA => rfl
theorem nz_i (N : Nat) : ∀ cA : ClassId, vp_cell cA (N, .inl (fun _ => 0)) = arrV cA N (fun _ => defaultValue .int) := fun cA => rfl

set_option maxHeartbeats 4000000 in
set_option maxRecDepth 100000 in
theorem c_ST_init (l : Launch) (D : va_G) (cB cI : ClassId) (a0 : Nat) (sz : Nat) : Met l y_ST_init mw_ST_init { frames := 1, cells := 1, slots := 202000, locals := 12 } (va_Pc [.ref a0] (mt_I D cB cI [(a0, .inr (0, [.null]))] sz)) (va_Qv (fun (_ : Unit) => True) (fun _ t => ∃ (q7 : Nat), va_P D vwCl [(a0, .inr (0, [.ref q7])), (q7, .inl (cB, 202000, .inl (by_ (fun _ => 0))))] t.heap ∧ va_D (va_A [(a0, .inr (0, [.null]))] sz) [(a0, .inr (0, [.ref q7])), (q7, .inl (cB, 202000, .inl (by_ (fun _ => 0))))]) (va_A [(a0, .inr (0, [.null]))] sz)) 1 202000 (va_A [(a0, .inr (0, [.null]))] sz) := by
  refine Met.ofW (cc := b_ST_init) (maxL := 1) (ret := none) (by decide) rfl ?_
  intro p e s m args below meth c s₁ B0 hml hv
  obtain ⟨rfl, ⟨hsz, hP, hk, hD0⟩, hxk⟩ := hv
  have hK := hk.1
  have hx := B0.exec
  have hb := B0.bytes
  have hr := B0.returns
  have hT : ∀ w ∈ lw_g, w.before _ s = true := fun w h => atoms_spec (ws := mw_ST_init) B0.pre w (List.mem_cons_of_mem _ h)
  have hown : s.vm.findClass R_ST = some m.cls := findClass_of_methodNamed B0.named
  have hlocks := B0.notSynchronized
  have hin : meth.name = "<init>" := (name_of_methodNamed B0.named B0.method).1
  subst hsz
  have hD := hD0.self (sz := s.heap.size)
  generalize hAe : va_A [(a0, .inr (0, [.null]))] s.heap.size = A at hD ⊢
  have hA : ∀ q : Nat, s.heap.size ≤ q → A q := fun q h => by rw [← hAe]; exact Or.inr h
  have hS : va_S A s.heap s.heap [] := va_S.rf
  have hl := lv_entry ([.ref a0]) (n := 1) (Nat.le_of_ble_eq_true rfl)
  rw [lg_entry_eq]
  generalize (lg_sl ([.ref a0]) ++ List.replicate (1 - (lg_sl ([.ref a0])).length) Slot.unset).toArray = ls at hl ⊢
  have hl : lv_has ls 1 [(0, .ref a0)] := hl
  refine lv_aload_n hx hb d_ST_init_0 rfl (lv_at hl 0 rfl) ?_
  refine W.objInit hx hb hown (hT _ k_35) (hT _ k_28) (hT _ kc_JO_init) rfl (by rw [hml]; exact hl.1) rfl d_ST_init_1 (Nat.le_of_ble_eq_true rfl) (Nat.le_of_ble_eq_true rfl) ?_
  refine W.eq (g2 := F0 m 4 ls []) rfl ?_
  refine lv_aload_n hx hb d_ST_init_4 rfl (lv_at hl 0 rfl) ?_
  refine lv_ldc (v := 202000) hx hb hown (hT _ k_36) d_ST_init_5 ?_
  refine va_newa (atype := .byte) (a0 := (202000, .inl (by_ (fun _ => 0)))) hx hb (hT _ k_42) rfl hK hP hD hS hA (nz_b 202000) (by decide) (by decide) (Nat.le_of_ble_eq_true rfl) (Nat.le_of_ble_eq_true rfl) (Nat.le_of_ble_eq_true rfl) d_ST_init_7 (fun q7 cA H hK9 hP hD hS => ?_)
  obtain rfl : cB = cA := Option.some.inj (((hK.2 0 _ rfl).2).symm.trans ((hK9.2 2 _ rfl).2))
  refine W.widen (k := 1) (n := 202000) (Nat.le_refl _) (Nat.le_refl _) ?_
  have hP : va_P D vwCl [(a0, .inr (0, [.null])), (q7, .inl (cB, 202000, .inl (by_ (fun _ => 0))))] H := hP
  have hD : va_D A [(a0, .inr (0, [.null])), (q7, .inl (cB, 202000, .inl (by_ (fun _ => 0))))] := hD
  refine va_putF (D := D) (ci := 0) (v := .ref q7) (ty := .array .byte) (C := R_ST) (T := T_ST) (N := 1) hx hb hT u_ST ty_ST tyok_ST nm_ST hown hK hP hD hS 0 rfl rfl 0 (by decide) (hT _ k_37) (fun _ h9 => h9) rfl hin rfl (by decide +kernel) rfl rfl (Nat.le_of_ble_eq_true rfl) d_ST_init_9 (fun H locs hP hD hS => ?_)
  have hP : va_P D vwCl [(a0, .inr (0, [.ref q7])), (q7, .inl (cB, 202000, .inl (by_ (fun _ => 0))))] H := hP
  have hD : va_D A [(a0, .inr (0, [.ref q7])), (q7, .inl (cB, 202000, .inl (by_ (fun _ => 0))))] := hD
  exact W.vret hx hb hr (fun t ht hW => ⟨⟨(), rfl, trivial, q7, by rw [ht]; exact hP, hD⟩, hS.F ht⟩) hS.2.2 d_ST_init_12
set_option maxHeartbeats 4000000 in
set_option maxRecDepth 100000 in
theorem c_WR_init (l : Launch) (D : va_G) (cB cI : ClassId) (a0 : Nat) (aS : Nat) (sz : Nat) : Met l y_WR_init mw_WR_init { frames := 1, cells := 0, slots := 0, locals := 12 } (va_Pc [.ref a0, .ref aS] (mt_I D cB cI [(a0, .inr (1, [.null, .int 0, .int 0, .int 0]))] sz)) (va_Qv (fun (_ : Unit) => True) (fun _ t => va_P D vwCl [(a0, .inr (1, [.ref aS, .int 0, .int 0, .int 0]))] t.heap ∧ va_D (va_A [(a0, .inr (1, [.null, .int 0, .int 0, .int 0]))] sz) [(a0, .inr (1, [.ref aS, .int 0, .int 0, .int 0]))]) (va_A [(a0, .inr (1, [.null, .int 0, .int 0, .int 0]))] sz)) 0 0 (va_A [(a0, .inr (1, [.null, .int 0, .int 0, .int 0]))] sz) := by
  refine Met.ofW (cc := b_WR_init) (maxL := 2) (ret := none) (by decide) rfl ?_
  intro p e s m args below meth c s₁ B0 hml hv
  obtain ⟨rfl, ⟨hsz, hP, hk, hD0⟩, hxk⟩ := hv
  have hK := hk.1
  have hx := B0.exec
  have hb := B0.bytes
  have hr := B0.returns
  have hT : ∀ w ∈ lw_g, w.before _ s = true := fun w h => atoms_spec (ws := mw_WR_init) B0.pre w (List.mem_cons_of_mem _ h)
  have hown : s.vm.findClass R_WR = some m.cls := findClass_of_methodNamed B0.named
  have hlocks := B0.notSynchronized
  have hin : meth.name = "<init>" := (name_of_methodNamed B0.named B0.method).1
  subst hsz
  have hD := hD0.self (sz := s.heap.size)
  generalize hAe : va_A [(a0, .inr (1, [.null, .int 0, .int 0, .int 0]))] s.heap.size = A at hD ⊢
  have hA : ∀ q : Nat, s.heap.size ≤ q → A q := fun q h => by rw [← hAe]; exact Or.inr h
  have hS : va_S A s.heap s.heap [] := va_S.rf
  have hl := lv_entry ([.ref a0, .ref aS]) (n := 2) (Nat.le_of_ble_eq_true rfl)
  rw [lg_entry_eq]
  generalize (lg_sl ([.ref a0, .ref aS]) ++ List.replicate (2 - (lg_sl ([.ref a0, .ref aS])).length) Slot.unset).toArray = ls at hl ⊢
  have hl : lv_has ls 2 [(0, .ref a0), (1, .ref aS)] := hl
  refine lv_aload_n hx hb d_WR_init_0 rfl (lv_at hl 0 rfl) ?_
  refine W.objInit hx hb hown (hT _ k_64) (hT _ k_28) (hT _ kc_JO_init) rfl (by rw [hml]; exact hl.1) rfl d_WR_init_1 (Nat.le_of_ble_eq_true rfl) (Nat.le_of_ble_eq_true rfl) ?_
  refine W.eq (g2 := F0 m 4 ls []) rfl ?_
  refine lv_aload_n hx hb d_WR_init_4 rfl (lv_at hl 0 rfl) ?_
  refine lv_aload_n hx hb d_WR_init_5 rfl (lv_at hl 1 rfl) ?_
  refine va_putF (D := D) (ci := 1) (v := .ref aS) (ty := .object "PipelineBelt$Store") (C := R_WR) (T := T_WR) (N := 4) hx hb hT u_WR ty_WR tyok_WR nm_WR hown hK hP hD hS 0 rfl rfl 0 (by decide) (hT _ k_65) (fun _ h9 => h9) rfl hin rfl (by decide +kernel) rfl rfl (Nat.le_of_ble_eq_true rfl) d_WR_init_6 (fun H locs hP hD hS => ?_)
  have hP : va_P D vwCl [(a0, .inr (1, [.ref aS, .int 0, .int 0, .int 0]))] H := hP
  have hD : va_D A [(a0, .inr (1, [.ref aS, .int 0, .int 0, .int 0]))] := hD
  exact W.vret hx hb hr (fun t ht hW => ⟨⟨(), rfl, trivial, by rw [ht]; exact hP, hD⟩, hS.F ht⟩) hS.2.2 d_WR_init_9
set_option maxHeartbeats 4000000 in
set_option maxRecDepth 100000 in
theorem c_BE_init (l : Launch) (D : va_G) (cB cI : ClassId) (a0 : Nat) (base : Int32) (sz : Nat) : Met l y_BE_init mw_BE_init { frames := 1, cells := 1, slots := 201, locals := 12 } (va_Pc [.ref a0, .int base] (mt_I D cB cI [(a0, .inr (2, [.int 0, .null, .int 0]))] sz)) (va_Qv (fun (_ : Unit) => True) (fun _ t => ∃ (q8 : Nat), va_P D vwCl [(a0, .inr (2, [.int base, .ref q8, .int 0])), (q8, .inl (cI, 201, .inl (upd (fun _ => 0) (0 : Int32).toNatClampNeg base)))] t.heap ∧ va_D (va_A [(a0, .inr (2, [.int 0, .null, .int 0]))] sz) [(a0, .inr (2, [.int base, .ref q8, .int 0])), (q8, .inl (cI, 201, .inl (upd (fun _ => 0) (0 : Int32).toNatClampNeg base)))]) (va_A [(a0, .inr (2, [.int 0, .null, .int 0]))] sz)) 1 201 (va_A [(a0, .inr (2, [.int 0, .null, .int 0]))] sz) := by
  refine Met.ofW (cc := b_BE_init) (maxL := 2) (ret := none) (by decide) rfl ?_
  intro p e s m args below meth c s₁ B0 hml hv
  obtain ⟨rfl, ⟨hsz, hP, hk, hD0⟩, hxk⟩ := hv
  have hK := hk.1
  have hx := B0.exec
  have hb := B0.bytes
  have hr := B0.returns
  have hT : ∀ w ∈ lw_g, w.before _ s = true := fun w h => atoms_spec (ws := mw_BE_init) B0.pre w (List.mem_cons_of_mem _ h)
  have hown : s.vm.findClass R_BE = some m.cls := findClass_of_methodNamed B0.named
  have hlocks := B0.notSynchronized
  have hin : meth.name = "<init>" := (name_of_methodNamed B0.named B0.method).1
  subst hsz
  have hD := hD0.self (sz := s.heap.size)
  generalize hAe : va_A [(a0, .inr (2, [.int 0, .null, .int 0]))] s.heap.size = A at hD ⊢
  have hA : ∀ q : Nat, s.heap.size ≤ q → A q := fun q h => by rw [← hAe]; exact Or.inr h
  have hS : va_S A s.heap s.heap [] := va_S.rf
  have hl := lv_entry ([.ref a0, .int base]) (n := 2) (Nat.le_of_ble_eq_true rfl)
  rw [lg_entry_eq]
  generalize (lg_sl ([.ref a0, .int base]) ++ List.replicate (2 - (lg_sl ([.ref a0, .int base])).length) Slot.unset).toArray = ls at hl ⊢
  have hl : lv_has ls 2 [(0, .ref a0), (1, .int base)] := hl
  refine lv_aload_n hx hb d_BE_init_0 rfl (lv_at hl 0 rfl) ?_
  refine W.objInit hx hb hown (hT _ k_88) (hT _ k_28) (hT _ kc_JO_init) rfl (by rw [hml]; exact hl.1) rfl d_BE_init_1 (Nat.le_of_ble_eq_true rfl) (Nat.le_of_ble_eq_true rfl) ?_
  refine W.eq (g2 := F0 m 4 ls []) rfl ?_
  refine lv_aload_n hx hb d_BE_init_4 rfl (lv_at hl 0 rfl) ?_
  refine lv_sipush (v := 201) hx hb d_BE_init_5 (by decide) ?_
  refine va_newa (atype := .int) (a0 := (201, .inl (fun _ => 0))) hx hb (hT _ k_107) rfl hK hP hD hS hA (nz_i 201) (by decide) (by decide) (Nat.le_of_ble_eq_true rfl) (Nat.le_of_ble_eq_true rfl) (Nat.le_of_ble_eq_true rfl) d_BE_init_8 (fun q8 cA H hK9 hP hD hS => ?_)
  obtain rfl : cI = cA := Option.some.inj (((hK.2 1 _ rfl).2).symm.trans ((hK9.2 2 _ rfl).2))
  refine W.widen (k := 1) (n := 201) (Nat.le_refl _) (Nat.le_refl _) ?_
  have hP : va_P D vwCl [(a0, .inr (2, [.int 0, .null, .int 0])), (q8, .inl (cI, 201, .inl (fun _ => 0)))] H := hP
  have hD : va_D A [(a0, .inr (2, [.int 0, .null, .int 0])), (q8, .inl (cI, 201, .inl (fun _ => 0)))] := hD
  refine va_putF (D := D) (ci := 2) (v := .ref q8) (ty := .array .int) (C := R_BE) (T := T_BE) (N := 3) hx hb hT u_BE ty_BE tyok_BE nm_BE hown hK hP hD hS 0 rfl rfl 1 (by decide) (hT _ k_92) (fun _ h9 => h9) rfl hin rfl (by decide +kernel) rfl rfl (Nat.le_of_ble_eq_true rfl) d_BE_init_10 (fun H locs hP hD hS => ?_)
  have hP : va_P D vwCl [(a0, .inr (2, [.int 0, .ref q8, .int 0])), (q8, .inl (cI, 201, .inl (fun _ => 0)))] H := hP
  have hD : va_D A [(a0, .inr (2, [.int 0, .ref q8, .int 0])), (q8, .inl (cI, 201, .inl (fun _ => 0)))] := hD
  refine lv_aload_n hx hb d_BE_init_13 rfl (lv_at hl 0 rfl) ?_
  refine lv_iload_n hx hb d_BE_init_14 rfl (lv_at hl 1 rfl) ?_
  refine va_putF (D := D) (ci := 2) (v := .int base) (ty := .int) (C := R_BE) (T := T_BE) (N := 3) hx hb hT u_BE ty_BE tyok_BE nm_BE hown hK hP hD hS 0 rfl rfl 0 (by decide) (hT _ k_89) (fun _ h9 => h9) rfl hin rfl (by decide +kernel) rfl rfl (Nat.le_of_ble_eq_true rfl) d_BE_init_15 (fun H locs hP hD hS => ?_)
  have hP : va_P D vwCl [(a0, .inr (2, [.int base, .ref q8, .int 0])), (q8, .inl (cI, 201, .inl (fun _ => 0)))] H := hP
  have hD : va_D A [(a0, .inr (2, [.int base, .ref q8, .int 0])), (q8, .inl (cI, 201, .inl (fun _ => 0)))] := hD
  refine lv_aload_n hx hb d_BE_init_18 rfl (lv_at hl 0 rfl) ?_
  refine va_get (D := D) (ci := 2) (v := .ref q8) (C := R_BE) (T := T_BE) (N := 3) hx hb hT u_BE hown hK hP 0 rfl rfl 1 (by decide) (hT _ k_92) (fun _ h9 => h9) rfl d_BE_init_19 ?_
  refine lv_iconst (v := 0) hx hb d_BE_init_22 (by decide) ?_
  refine lv_iload_n hx hb d_BE_init_23 rfl (lv_at hl 1 rfl) ?_
  refine va_iast hx hb hK hP hD hS 1 1 rfl rfl (by unfold vp_in; decide) d_BE_init_24 (fun H locs hP hD hS => ?_)
  have hP : va_P D vwCl [(a0, .inr (2, [.int base, .ref q8, .int 0])), (q8, .inl (cI, 201, .inl (upd (fun _ => 0) (0 : Int32).toNatClampNeg base)))] H := hP
  have hD : va_D A [(a0, .inr (2, [.int base, .ref q8, .int 0])), (q8, .inl (cI, 201, .inl (upd (fun _ => 0) (0 : Int32).toNatClampNeg base)))] := hD
  exact W.vret hx hb hr (fun t ht hW => ⟨⟨(), rfl, trivial, q8, by rw [ht]; exact hP, hD⟩, hS.F ht⟩) hS.2.2 d_BE_init_25
set_option maxHeartbeats 4000000 in
set_option maxRecDepth 100000 in
theorem c_CH_init (l : Launch) (D : va_G) (cB cI : ClassId) (a0 : Nat) (aS : Nat) (sz : Nat) : Met l y_CH_init mw_CH_init { frames := 1, cells := 0, slots := 0, locals := 12 } (va_Pc [.ref a0, .ref aS] (mt_I D cB cI [(a0, .inr (4, [.null]))] sz)) (va_Qv (fun (_ : Unit) => True) (fun _ t => va_P D vwCl [(a0, .inr (4, [.ref aS]))] t.heap ∧ va_D (va_A [(a0, .inr (4, [.null]))] sz) [(a0, .inr (4, [.ref aS]))]) (va_A [(a0, .inr (4, [.null]))] sz)) 0 0 (va_A [(a0, .inr (4, [.null]))] sz) := by
  refine Met.ofW (cc := b_CH_init) (maxL := 2) (ret := none) (by decide) rfl ?_
  intro p e s m args below meth c s₁ B0 hml hv
  obtain ⟨rfl, ⟨hsz, hP, hk, hD0⟩, hxk⟩ := hv
  have hK := hk.1
  have hx := B0.exec
  have hb := B0.bytes
  have hr := B0.returns
  have hT : ∀ w ∈ lw_g, w.before _ s = true := fun w h => atoms_spec (ws := mw_CH_init) B0.pre w (List.mem_cons_of_mem _ h)
  have hown : s.vm.findClass R_CH = some m.cls := findClass_of_methodNamed B0.named
  have hlocks := B0.notSynchronized
  have hin : meth.name = "<init>" := (name_of_methodNamed B0.named B0.method).1
  subst hsz
  have hD := hD0.self (sz := s.heap.size)
  generalize hAe : va_A [(a0, .inr (4, [.null]))] s.heap.size = A at hD ⊢
  have hA : ∀ q : Nat, s.heap.size ≤ q → A q := fun q h => by rw [← hAe]; exact Or.inr h
  have hS : va_S A s.heap s.heap [] := va_S.rf
  have hl := lv_entry ([.ref a0, .ref aS]) (n := 2) (Nat.le_of_ble_eq_true rfl)
  rw [lg_entry_eq]
  generalize (lg_sl ([.ref a0, .ref aS]) ++ List.replicate (2 - (lg_sl ([.ref a0, .ref aS])).length) Slot.unset).toArray = ls at hl ⊢
  have hl : lv_has ls 2 [(0, .ref a0), (1, .ref aS)] := hl
  refine lv_aload_n hx hb d_CH_init_0 rfl (lv_at hl 0 rfl) ?_
  refine W.objInit hx hb hown (hT _ k_48) (hT _ k_28) (hT _ kc_JO_init) rfl (by rw [hml]; exact hl.1) rfl d_CH_init_1 (Nat.le_of_ble_eq_true rfl) (Nat.le_of_ble_eq_true rfl) ?_
  refine W.eq (g2 := F0 m 4 ls []) rfl ?_
  refine lv_aload_n hx hb d_CH_init_4 rfl (lv_at hl 0 rfl) ?_
  refine lv_aload_n hx hb d_CH_init_5 rfl (lv_at hl 1 rfl) ?_
  refine va_putF (D := D) (ci := 4) (v := .ref aS) (ty := .object "PipelineBelt$Store") (C := R_CH) (T := T_CH) (N := 1) hx hb hT u_CH ty_CH tyok_CH nm_CH hown hK hP hD hS 0 rfl rfl 0 (by decide) (hT _ k_49) (fun _ h9 => h9) rfl hin rfl (by decide +kernel) rfl rfl (Nat.le_of_ble_eq_true rfl) d_CH_init_6 (fun H locs hP hD hS => ?_)
  have hP : va_P D vwCl [(a0, .inr (4, [.ref aS]))] H := hP
  have hD : va_D A [(a0, .inr (4, [.ref aS]))] := hD
  exact W.vret hx hb hr (fun t ht hW => ⟨⟨(), rfl, trivial, by rw [ht]; exact hP, hD⟩, hS.F ht⟩) hS.2.2 d_CH_init_9
set_option maxHeartbeats 4000000 in
set_option maxRecDepth 100000 in
theorem c_BS_init (l : Launch) (D : va_G) (cB cI : ClassId) (a0 : Nat) (aS : Nat) (sz : Nat) : Met l y_BS_init mw_BS_init { frames := 2, cells := 7, slots := 616, locals := 33 } (va_Pc [.ref a0, .ref aS] (mt_I D cB cI [(a0, .inr (3, [.null, .null, .null, .null, .null]))] sz)) (va_Qv (fun (_ : Unit) => True) (fun _ t => ∃ (q10 q22 q8_29 q36 q8_42 q49 q8_55 : Nat), va_P D vwCl [(a0, .inr (3, [.ref aS, .ref q10, .ref q22, .ref q36, .ref q49])), (q10, .inr (1, [.ref aS, .int 0, .int 0, .int 0])), (q22, .inr (2, [.int 2000, .ref q8_29, .int 0])), (q8_29, .inl (cI, 201, .inl (upd (fun _ => 0) (0 : Int32).toNatClampNeg 2000))), (q36, .inr (2, [.int 42000, .ref q8_42, .int 0])), (q8_42, .inl (cI, 201, .inl (upd (fun _ => 0) (0 : Int32).toNatClampNeg 42000))), (q49, .inr (2, [.int 82000, .ref q8_55, .int 0])), (q8_55, .inl (cI, 201, .inl (upd (fun _ => 0) (0 : Int32).toNatClampNeg 82000)))] t.heap ∧ va_D (va_A [(a0, .inr (3, [.null, .null, .null, .null, .null]))] sz) [(a0, .inr (3, [.ref aS, .ref q10, .ref q22, .ref q36, .ref q49])), (q10, .inr (1, [.ref aS, .int 0, .int 0, .int 0])), (q22, .inr (2, [.int 2000, .ref q8_29, .int 0])), (q8_29, .inl (cI, 201, .inl (upd (fun _ => 0) (0 : Int32).toNatClampNeg 2000))), (q36, .inr (2, [.int 42000, .ref q8_42, .int 0])), (q8_42, .inl (cI, 201, .inl (upd (fun _ => 0) (0 : Int32).toNatClampNeg 42000))), (q49, .inr (2, [.int 82000, .ref q8_55, .int 0])), (q8_55, .inl (cI, 201, .inl (upd (fun _ => 0) (0 : Int32).toNatClampNeg 82000)))]) (va_A [(a0, .inr (3, [.null, .null, .null, .null, .null]))] sz)) 7 616 (va_A [(a0, .inr (3, [.null, .null, .null, .null, .null]))] sz) := by
  refine Met.ofW (cc := b_BS_init) (maxL := 2) (ret := none) (by decide) rfl ?_
  intro p e s m args below meth c s₁ B0 hml hv
  obtain ⟨rfl, ⟨hsz, hP, hk, hD0⟩, hxk⟩ := hv
  have hK := hk.1
  have hx := B0.exec
  have hb := B0.bytes
  have hr := B0.returns
  have hT : ∀ w ∈ lw_g, w.before _ s = true := fun w h => atoms_spec (ws := mw_BS_init) B0.pre w (List.mem_cons_of_mem _ h)
  have hown : s.vm.findClass R_BS = some m.cls := findClass_of_methodNamed B0.named
  have hlocks := B0.notSynchronized
  have hin : meth.name = "<init>" := (name_of_methodNamed B0.named B0.method).1
  subst hsz
  have hD := hD0.self (sz := s.heap.size)
  generalize hAe : va_A [(a0, .inr (3, [.null, .null, .null, .null, .null]))] s.heap.size = A at hD ⊢
  have hA : ∀ q : Nat, s.heap.size ≤ q → A q := fun q h => by rw [← hAe]; exact Or.inr h
  have hS : va_S A s.heap s.heap [] := va_S.rf
  have hl := lv_entry ([.ref a0, .ref aS]) (n := 2) (Nat.le_of_ble_eq_true rfl)
  rw [lg_entry_eq]
  generalize (lg_sl ([.ref a0, .ref aS]) ++ List.replicate (2 - (lg_sl ([.ref a0, .ref aS])).length) Slot.unset).toArray = ls at hl ⊢
  have hl : lv_has ls 2 [(0, .ref a0), (1, .ref aS)] := hl
  refine lv_aload_n hx hb d_BS_init_0 rfl (lv_at hl 0 rfl) ?_
  refine W.objInit hx hb hown (hT _ k_58) (hT _ k_28) (hT _ kc_JO_init) rfl (by rw [hml]; exact hl.1) rfl d_BS_init_1 (Nat.le_of_ble_eq_true rfl) (Nat.le_of_ble_eq_true rfl) ?_
  refine W.eq (g2 := F0 m 4 ls []) rfl ?_
  refine lv_aload_n hx hb d_BS_init_4 rfl (lv_at hl 0 rfl) ?_
  refine lv_aload_n hx hb d_BS_init_5 rfl (lv_at hl 1 rfl) ?_
  refine va_putF (D := D) (ci := 3) (v := .ref aS) (ty := .object "PipelineBelt$Store") (C := R_BS) (T := T_BS) (N := 5) hx hb hT u_BS ty_BS tyok_BS nm_BS hown hK hP hD hS 0 rfl rfl 0 (by decide) (hT _ k_110) (fun _ h9 => h9) rfl hin rfl (by decide +kernel) rfl rfl (Nat.le_of_ble_eq_true rfl) d_BS_init_6 (fun H locs hP hD hS => ?_)
  have hP : va_P D vwCl [(a0, .inr (3, [.ref aS, .null, .null, .null, .null]))] H := hP
  have hD : va_D A [(a0, .inr (3, [.ref aS, .null, .null, .null, .null]))] := hD
  refine lv_aload_n hx hb d_BS_init_9 rfl (lv_at hl 0 rfl) ?_
  refine va_new (ci := 1) (fs := [.null, .int 0, .int 0, .int 0]) (C := R_WR) (T := T_WR) (N := 4) hx hb hT u_WR ty_WR tyok_WR hown (hT _ k_59) (hT _ k_60) (hT _ k_5) hK hP hD hS hA rfl (fun j hj => by rcases (show j = 0 ∨ j = 1 ∨ j = 2 ∨ j = 3 by omega) with rfl | rfl | rfl | rfl <;> rfl) (Nat.le_of_ble_eq_true rfl) (Nat.le_of_ble_eq_true rfl) d_BS_init_10 (fun q10 H hP hD hS => ?_)
  refine W.widen (k := 1) (n := 4) (Nat.le_refl _) (Nat.le_refl _) ?_
  have hP : va_P D vwCl [(a0, .inr (3, [.ref aS, .null, .null, .null, .null])), (q10, .inr (1, [.null, .int 0, .int 0, .int 0]))] H := hP
  have hD : va_D A [(a0, .inr (3, [.ref aS, .null, .null, .null, .null])), (q10, .inr (1, [.null, .int 0, .int 0, .int 0]))] := hD
  refine lv_dup hx hb d_BS_init_13 rfl ?_
  refine lv_aload_n hx hb d_BS_init_14 rfl (lv_at hl 1 rfl) ?_
  have hPc := hP.sub (ws' := [(q10, .inr (1, [.null, .int 0, .int 0, .int 0]))]) [1] rfl
  have hDc := hD.sub (ws' := [(q10, .inr (1, [.null, .int 0, .int 0, .int 0]))]) [1] (by decide) rfl
  have hFc := va_free (wc := [(q10, .inr (1, [.null, .int 0, .int 0, .int 0]))]) hD hS hA [1] rfl
  refine va_callv (va_runI (As := [.ref aS]) (rest := [.ref q10, .ref a0]) ⟨hx, hb, hml, hown, hT⟩ (c_WR_init l D cB cI q10 aS H.size) (cwI 1 hT (gC_of kc_WR_init) rfl rfl rfl (hT _ k_5) (hT _ k_61) (hT _ k_62) rfl hd_WR_init.2 ⟨(Nat.le_of_ble_eq_true rfl), (Nat.le_of_ble_eq_true rfl)⟩) ⟨mi_blind, mi_pre hk hxk hPc hDc⟩ rfl rfl hl.1 rfl (lv_room (Nat.le_of_ble_eq_true rfl)) d_BS_init_15 ⟨(Nat.le_of_ble_eq_true rfl), (Nat.le_of_ble_eq_true rfl)⟩) hS (fun q _ h => hFc q h) hFc (fun u t H1 locs ht hvm hw hB hz1 hk1 hS => ?_)
  obtain ⟨hP1, hD1⟩ := hB
  rw [ht] at hP1
  obtain ⟨hP, hD⟩ := va_join (wr := [(a0, .inr (3, [.ref aS, .null, .null, .null, .null]))]) (w1 := [(q10, .inr (1, [.ref aS, .int 0, .int 0, .int 0]))]) hP hD [1] [0] rfl rfl (by decide) (by decide) hk1 hFc hP1 hD1
  generalize H1 = H at hP hS ⊢
  refine W.widen (k := 1) (n := 4) (Nat.le_refl _) (Nat.le_refl _) ?_
  have hP : va_P D vwCl [(a0, .inr (3, [.ref aS, .null, .null, .null, .null])), (q10, .inr (1, [.ref aS, .int 0, .int 0, .int 0]))] H := hP
  have hD : va_D A [(a0, .inr (3, [.ref aS, .null, .null, .null, .null])), (q10, .inr (1, [.ref aS, .int 0, .int 0, .int 0]))] := hD
  refine va_putF (D := D) (ci := 3) (v := .ref q10) (ty := .object "PipelineBelt$Writer") (C := R_BS) (T := T_BS) (N := 5) hx hb hT u_BS ty_BS tyok_BS nm_BS hown hK hP hD hS 0 rfl rfl 1 (by decide) (hT _ k_111) (fun _ h9 => h9) rfl hin rfl (by decide +kernel) rfl rfl (Nat.le_of_ble_eq_true rfl) d_BS_init_18 (fun H locs hP hD hS => ?_)
  have hP : va_P D vwCl [(a0, .inr (3, [.ref aS, .ref q10, .null, .null, .null])), (q10, .inr (1, [.ref aS, .int 0, .int 0, .int 0]))] H := hP
  have hD : va_D A [(a0, .inr (3, [.ref aS, .ref q10, .null, .null, .null])), (q10, .inr (1, [.ref aS, .int 0, .int 0, .int 0]))] := hD
  refine lv_aload_n hx hb d_BS_init_21 rfl (lv_at hl 0 rfl) ?_
  refine va_new (ci := 2) (fs := [.int 0, .null, .int 0]) (C := R_BE) (T := T_BE) (N := 3) hx hb hT u_BE ty_BE tyok_BE hown (hT _ k_83) (hT _ k_84) (hT _ k_6) hK hP hD hS hA rfl (fun j hj => by rcases (show j = 0 ∨ j = 1 ∨ j = 2 by omega) with rfl | rfl | rfl <;> rfl) (Nat.le_of_ble_eq_true rfl) (Nat.le_of_ble_eq_true rfl) d_BS_init_22 (fun q22 H hP hD hS => ?_)
  refine W.widen (k := 2) (n := 7) (Nat.le_refl _) (Nat.le_refl _) ?_
  have hP : va_P D vwCl [(a0, .inr (3, [.ref aS, .ref q10, .null, .null, .null])), (q10, .inr (1, [.ref aS, .int 0, .int 0, .int 0])), (q22, .inr (2, [.int 0, .null, .int 0]))] H := hP
  have hD : va_D A [(a0, .inr (3, [.ref aS, .ref q10, .null, .null, .null])), (q10, .inr (1, [.ref aS, .int 0, .int 0, .int 0])), (q22, .inr (2, [.int 0, .null, .int 0]))] := hD
  refine lv_dup hx hb d_BS_init_25 rfl ?_
  refine lv_sipush (v := 2000) hx hb d_BS_init_26 (by decide) ?_
  have hPc := hP.sub (ws' := [(q22, .inr (2, [.int 0, .null, .int 0]))]) [2] rfl
  have hDc := hD.sub (ws' := [(q22, .inr (2, [.int 0, .null, .int 0]))]) [2] (by decide) rfl
  have hFc := va_free (wc := [(q22, .inr (2, [.int 0, .null, .int 0]))]) hD hS hA [2] rfl
  refine va_callv (va_runI (As := [.int 2000]) (rest := [.ref q22, .ref a0]) ⟨hx, hb, hml, hown, hT⟩ (c_BE_init l D cB cI q22 2000 H.size) (cwI 1 hT (gC_of kc_BE_init) rfl rfl rfl (hT _ k_6) (hT _ k_85) (hT _ k_86) rfl hd_BE_init.2 ⟨(Nat.le_of_ble_eq_true rfl), (Nat.le_of_ble_eq_true rfl)⟩) ⟨mi_blind, mi_pre hk hxk hPc hDc⟩ rfl rfl hl.1 rfl (lv_room (Nat.le_of_ble_eq_true rfl)) d_BS_init_29 ⟨(Nat.le_of_ble_eq_true rfl), (Nat.le_of_ble_eq_true rfl)⟩) hS (fun q _ h => hFc q h) hFc (fun u t H1 locs ht hvm hw hB hz1 hk1 hS => ?_)
  obtain ⟨q8_29, hP1, hD1⟩ := hB
  rw [ht] at hP1
  obtain ⟨hP, hD⟩ := va_join (wr := [(a0, .inr (3, [.ref aS, .ref q10, .null, .null, .null])), (q10, .inr (1, [.ref aS, .int 0, .int 0, .int 0]))]) (w1 := [(q22, .inr (2, [.int 2000, .ref q8_29, .int 0])), (q8_29, .inl (cI, 201, .inl (upd (fun _ => 0) (0 : Int32).toNatClampNeg 2000)))]) hP hD [2] [0, 1] rfl rfl (by decide) (by decide) hk1 hFc hP1 hD1
  generalize H1 = H at hP hS ⊢
  refine W.widen (k := 3) (n := 208) (Nat.le_refl _) (Nat.le_refl _) ?_
  have hP : va_P D vwCl [(a0, .inr (3, [.ref aS, .ref q10, .null, .null, .null])), (q10, .inr (1, [.ref aS, .int 0, .int 0, .int 0])), (q22, .inr (2, [.int 2000, .ref q8_29, .int 0])), (q8_29, .inl (cI, 201, .inl (upd (fun _ => 0) (0 : Int32).toNatClampNeg 2000)))] H := hP
  have hD : va_D A [(a0, .inr (3, [.ref aS, .ref q10, .null, .null, .null])), (q10, .inr (1, [.ref aS, .int 0, .int 0, .int 0])), (q22, .inr (2, [.int 2000, .ref q8_29, .int 0])), (q8_29, .inl (cI, 201, .inl (upd (fun _ => 0) (0 : Int32).toNatClampNeg 2000)))] := hD
  refine va_put (D := D) (ci := 3) (v := .ref q22) (ty := .object "PipelineBelt$Belt") (C := R_BS) (T := T_BS) (N := 5) hx hb hT u_BS ty_BS tyok_BS nm_BS hown hK hP hD hS 0 rfl rfl 2 (by decide) (hT _ k_112) (fun _ h9 => h9) rfl (by decide +kernel) rfl rfl (Nat.le_of_ble_eq_true rfl) d_BS_init_32 (fun H locs hP hD hS => ?_)
  have hP : va_P D vwCl [(a0, .inr (3, [.ref aS, .ref q10, .ref q22, .null, .null])), (q10, .inr (1, [.ref aS, .int 0, .int 0, .int 0])), (q22, .inr (2, [.int 2000, .ref q8_29, .int 0])), (q8_29, .inl (cI, 201, .inl (upd (fun _ => 0) (0 : Int32).toNatClampNeg 2000)))] H := hP
  have hD : va_D A [(a0, .inr (3, [.ref aS, .ref q10, .ref q22, .null, .null])), (q10, .inr (1, [.ref aS, .int 0, .int 0, .int 0])), (q22, .inr (2, [.int 2000, .ref q8_29, .int 0])), (q8_29, .inl (cI, 201, .inl (upd (fun _ => 0) (0 : Int32).toNatClampNeg 2000)))] := hD
  refine lv_aload_n hx hb d_BS_init_35 rfl (lv_at hl 0 rfl) ?_
  refine va_new (ci := 2) (fs := [.int 0, .null, .int 0]) (C := R_BE) (T := T_BE) (N := 3) hx hb hT u_BE ty_BE tyok_BE hown (hT _ k_83) (hT _ k_84) (hT _ k_6) hK hP hD hS hA rfl (fun j hj => by rcases (show j = 0 ∨ j = 1 ∨ j = 2 by omega) with rfl | rfl | rfl <;> rfl) (Nat.le_of_ble_eq_true rfl) (Nat.le_of_ble_eq_true rfl) d_BS_init_36 (fun q36 H hP hD hS => ?_)
  refine W.widen (k := 4) (n := 211) (Nat.le_refl _) (Nat.le_refl _) ?_
  have hP : va_P D vwCl [(a0, .inr (3, [.ref aS, .ref q10, .ref q22, .null, .null])), (q10, .inr (1, [.ref aS, .int 0, .int 0, .int 0])), (q22, .inr (2, [.int 2000, .ref q8_29, .int 0])), (q8_29, .inl (cI, 201, .inl (upd (fun _ => 0) (0 : Int32).toNatClampNeg 2000))), (q36, .inr (2, [.int 0, .null, .int 0]))] H := hP
  have hD : va_D A [(a0, .inr (3, [.ref aS, .ref q10, .ref q22, .null, .null])), (q10, .inr (1, [.ref aS, .int 0, .int 0, .int 0])), (q22, .inr (2, [.int 2000, .ref q8_29, .int 0])), (q8_29, .inl (cI, 201, .inl (upd (fun _ => 0) (0 : Int32).toNatClampNeg 2000))), (q36, .inr (2, [.int 0, .null, .int 0]))] := hD
  refine lv_dup hx hb d_BS_init_39 rfl ?_
  refine lv_ldc (v := 42000) hx hb hown (hT _ k_108) d_BS_init_40 ?_
  have hPc := hP.sub (ws' := [(q36, .inr (2, [.int 0, .null, .int 0]))]) [4] rfl
  have hDc := hD.sub (ws' := [(q36, .inr (2, [.int 0, .null, .int 0]))]) [4] (by decide) rfl
  have hFc := va_free (wc := [(q36, .inr (2, [.int 0, .null, .int 0]))]) hD hS hA [4] rfl
  refine va_callv (va_runI (As := [.int 42000]) (rest := [.ref q36, .ref a0]) ⟨hx, hb, hml, hown, hT⟩ (c_BE_init l D cB cI q36 42000 H.size) (cwI 1 hT (gC_of kc_BE_init) rfl rfl rfl (hT _ k_6) (hT _ k_85) (hT _ k_86) rfl hd_BE_init.2 ⟨(Nat.le_of_ble_eq_true rfl), (Nat.le_of_ble_eq_true rfl)⟩) ⟨mi_blind, mi_pre hk hxk hPc hDc⟩ rfl rfl hl.1 rfl (lv_room (Nat.le_of_ble_eq_true rfl)) d_BS_init_42 ⟨(Nat.le_of_ble_eq_true rfl), (Nat.le_of_ble_eq_true rfl)⟩) hS (fun q _ h => hFc q h) hFc (fun u t H1 locs ht hvm hw hB hz1 hk1 hS => ?_)
  obtain ⟨q8_42, hP1, hD1⟩ := hB
  rw [ht] at hP1
  obtain ⟨hP, hD⟩ := va_join (wr := [(a0, .inr (3, [.ref aS, .ref q10, .ref q22, .null, .null])), (q10, .inr (1, [.ref aS, .int 0, .int 0, .int 0])), (q22, .inr (2, [.int 2000, .ref q8_29, .int 0])), (q8_29, .inl (cI, 201, .inl (upd (fun _ => 0) (0 : Int32).toNatClampNeg 2000)))]) (w1 := [(q36, .inr (2, [.int 42000, .ref q8_42, .int 0])), (q8_42, .inl (cI, 201, .inl (upd (fun _ => 0) (0 : Int32).toNatClampNeg 42000)))]) hP hD [4] [0, 1, 2, 3] rfl rfl (by decide) (by decide) hk1 hFc hP1 hD1
  generalize H1 = H at hP hS ⊢
  refine W.widen (k := 5) (n := 412) (Nat.le_refl _) (Nat.le_refl _) ?_
  have hP : va_P D vwCl [(a0, .inr (3, [.ref aS, .ref q10, .ref q22, .null, .null])), (q10, .inr (1, [.ref aS, .int 0, .int 0, .int 0])), (q22, .inr (2, [.int 2000, .ref q8_29, .int 0])), (q8_29, .inl (cI, 201, .inl (upd (fun _ => 0) (0 : Int32).toNatClampNeg 2000))), (q36, .inr (2, [.int 42000, .ref q8_42, .int 0])), (q8_42, .inl (cI, 201, .inl (upd (fun _ => 0) (0 : Int32).toNatClampNeg 42000)))] H := hP
  have hD : va_D A [(a0, .inr (3, [.ref aS, .ref q10, .ref q22, .null, .null])), (q10, .inr (1, [.ref aS, .int 0, .int 0, .int 0])), (q22, .inr (2, [.int 2000, .ref q8_29, .int 0])), (q8_29, .inl (cI, 201, .inl (upd (fun _ => 0) (0 : Int32).toNatClampNeg 2000))), (q36, .inr (2, [.int 42000, .ref q8_42, .int 0])), (q8_42, .inl (cI, 201, .inl (upd (fun _ => 0) (0 : Int32).toNatClampNeg 42000)))] := hD
  refine va_put (D := D) (ci := 3) (v := .ref q36) (ty := .object "PipelineBelt$Belt") (C := R_BS) (T := T_BS) (N := 5) hx hb hT u_BS ty_BS tyok_BS nm_BS hown hK hP hD hS 0 rfl rfl 3 (by decide) (hT _ k_118) (fun _ h9 => h9) rfl (by decide +kernel) rfl rfl (Nat.le_of_ble_eq_true rfl) d_BS_init_45 (fun H locs hP hD hS => ?_)
  have hP : va_P D vwCl [(a0, .inr (3, [.ref aS, .ref q10, .ref q22, .ref q36, .null])), (q10, .inr (1, [.ref aS, .int 0, .int 0, .int 0])), (q22, .inr (2, [.int 2000, .ref q8_29, .int 0])), (q8_29, .inl (cI, 201, .inl (upd (fun _ => 0) (0 : Int32).toNatClampNeg 2000))), (q36, .inr (2, [.int 42000, .ref q8_42, .int 0])), (q8_42, .inl (cI, 201, .inl (upd (fun _ => 0) (0 : Int32).toNatClampNeg 42000)))] H := hP
  have hD : va_D A [(a0, .inr (3, [.ref aS, .ref q10, .ref q22, .ref q36, .null])), (q10, .inr (1, [.ref aS, .int 0, .int 0, .int 0])), (q22, .inr (2, [.int 2000, .ref q8_29, .int 0])), (q8_29, .inl (cI, 201, .inl (upd (fun _ => 0) (0 : Int32).toNatClampNeg 2000))), (q36, .inr (2, [.int 42000, .ref q8_42, .int 0])), (q8_42, .inl (cI, 201, .inl (upd (fun _ => 0) (0 : Int32).toNatClampNeg 42000)))] := hD
  refine lv_aload_n hx hb d_BS_init_48 rfl (lv_at hl 0 rfl) ?_
  refine va_new (ci := 2) (fs := [.int 0, .null, .int 0]) (C := R_BE) (T := T_BE) (N := 3) hx hb hT u_BE ty_BE tyok_BE hown (hT _ k_83) (hT _ k_84) (hT _ k_6) hK hP hD hS hA rfl (fun j hj => by rcases (show j = 0 ∨ j = 1 ∨ j = 2 by omega) with rfl | rfl | rfl <;> rfl) (Nat.le_of_ble_eq_true rfl) (Nat.le_of_ble_eq_true rfl) d_BS_init_49 (fun q49 H hP hD hS => ?_)
  refine W.widen (k := 6) (n := 415) (Nat.le_refl _) (Nat.le_refl _) ?_
  have hP : va_P D vwCl [(a0, .inr (3, [.ref aS, .ref q10, .ref q22, .ref q36, .null])), (q10, .inr (1, [.ref aS, .int 0, .int 0, .int 0])), (q22, .inr (2, [.int 2000, .ref q8_29, .int 0])), (q8_29, .inl (cI, 201, .inl (upd (fun _ => 0) (0 : Int32).toNatClampNeg 2000))), (q36, .inr (2, [.int 42000, .ref q8_42, .int 0])), (q8_42, .inl (cI, 201, .inl (upd (fun _ => 0) (0 : Int32).toNatClampNeg 42000))), (q49, .inr (2, [.int 0, .null, .int 0]))] H := hP
  have hD : va_D A [(a0, .inr (3, [.ref aS, .ref q10, .ref q22, .ref q36, .null])), (q10, .inr (1, [.ref aS, .int 0, .int 0, .int 0])), (q22, .inr (2, [.int 2000, .ref q8_29, .int 0])), (q8_29, .inl (cI, 201, .inl (upd (fun _ => 0) (0 : Int32).toNatClampNeg 2000))), (q36, .inr (2, [.int 42000, .ref q8_42, .int 0])), (q8_42, .inl (cI, 201, .inl (upd (fun _ => 0) (0 : Int32).toNatClampNeg 42000))), (q49, .inr (2, [.int 0, .null, .int 0]))] := hD
  refine lv_dup hx hb d_BS_init_52 rfl ?_
  refine lv_ldc (v := 82000) hx hb hown (hT _ k_109) d_BS_init_53 ?_
  have hPc := hP.sub (ws' := [(q49, .inr (2, [.int 0, .null, .int 0]))]) [6] rfl
  have hDc := hD.sub (ws' := [(q49, .inr (2, [.int 0, .null, .int 0]))]) [6] (by decide) rfl
  have hFc := va_free (wc := [(q49, .inr (2, [.int 0, .null, .int 0]))]) hD hS hA [6] rfl
  refine va_callv (va_runI (As := [.int 82000]) (rest := [.ref q49, .ref a0]) ⟨hx, hb, hml, hown, hT⟩ (c_BE_init l D cB cI q49 82000 H.size) (cwI 1 hT (gC_of kc_BE_init) rfl rfl rfl (hT _ k_6) (hT _ k_85) (hT _ k_86) rfl hd_BE_init.2 ⟨(Nat.le_of_ble_eq_true rfl), (Nat.le_of_ble_eq_true rfl)⟩) ⟨mi_blind, mi_pre hk hxk hPc hDc⟩ rfl rfl hl.1 rfl (lv_room (Nat.le_of_ble_eq_true rfl)) d_BS_init_55 ⟨(Nat.le_of_ble_eq_true rfl), (Nat.le_of_ble_eq_true rfl)⟩) hS (fun q _ h => hFc q h) hFc (fun u t H1 locs ht hvm hw hB hz1 hk1 hS => ?_)
  obtain ⟨q8_55, hP1, hD1⟩ := hB
  rw [ht] at hP1
  obtain ⟨hP, hD⟩ := va_join (wr := [(a0, .inr (3, [.ref aS, .ref q10, .ref q22, .ref q36, .null])), (q10, .inr (1, [.ref aS, .int 0, .int 0, .int 0])), (q22, .inr (2, [.int 2000, .ref q8_29, .int 0])), (q8_29, .inl (cI, 201, .inl (upd (fun _ => 0) (0 : Int32).toNatClampNeg 2000))), (q36, .inr (2, [.int 42000, .ref q8_42, .int 0])), (q8_42, .inl (cI, 201, .inl (upd (fun _ => 0) (0 : Int32).toNatClampNeg 42000)))]) (w1 := [(q49, .inr (2, [.int 82000, .ref q8_55, .int 0])), (q8_55, .inl (cI, 201, .inl (upd (fun _ => 0) (0 : Int32).toNatClampNeg 82000)))]) hP hD [6] [0, 1, 2, 3, 4, 5] rfl rfl (by decide) (by decide) hk1 hFc hP1 hD1
  generalize H1 = H at hP hS ⊢
  refine W.widen (k := 7) (n := 616) (Nat.le_refl _) (Nat.le_refl _) ?_
  have hP : va_P D vwCl [(a0, .inr (3, [.ref aS, .ref q10, .ref q22, .ref q36, .null])), (q10, .inr (1, [.ref aS, .int 0, .int 0, .int 0])), (q22, .inr (2, [.int 2000, .ref q8_29, .int 0])), (q8_29, .inl (cI, 201, .inl (upd (fun _ => 0) (0 : Int32).toNatClampNeg 2000))), (q36, .inr (2, [.int 42000, .ref q8_42, .int 0])), (q8_42, .inl (cI, 201, .inl (upd (fun _ => 0) (0 : Int32).toNatClampNeg 42000))), (q49, .inr (2, [.int 82000, .ref q8_55, .int 0])), (q8_55, .inl (cI, 201, .inl (upd (fun _ => 0) (0 : Int32).toNatClampNeg 82000)))] H := hP
  have hD : va_D A [(a0, .inr (3, [.ref aS, .ref q10, .ref q22, .ref q36, .null])), (q10, .inr (1, [.ref aS, .int 0, .int 0, .int 0])), (q22, .inr (2, [.int 2000, .ref q8_29, .int 0])), (q8_29, .inl (cI, 201, .inl (upd (fun _ => 0) (0 : Int32).toNatClampNeg 2000))), (q36, .inr (2, [.int 42000, .ref q8_42, .int 0])), (q8_42, .inl (cI, 201, .inl (upd (fun _ => 0) (0 : Int32).toNatClampNeg 42000))), (q49, .inr (2, [.int 82000, .ref q8_55, .int 0])), (q8_55, .inl (cI, 201, .inl (upd (fun _ => 0) (0 : Int32).toNatClampNeg 82000)))] := hD
  refine va_put (D := D) (ci := 3) (v := .ref q49) (ty := .object "PipelineBelt$Belt") (C := R_BS) (T := T_BS) (N := 5) hx hb hT u_BS ty_BS tyok_BS nm_BS hown hK hP hD hS 0 rfl rfl 4 (by decide) (hT _ k_120) (fun _ h9 => h9) rfl (by decide +kernel) rfl rfl (Nat.le_of_ble_eq_true rfl) d_BS_init_58 (fun H locs hP hD hS => ?_)
  have hP : va_P D vwCl [(a0, .inr (3, [.ref aS, .ref q10, .ref q22, .ref q36, .ref q49])), (q10, .inr (1, [.ref aS, .int 0, .int 0, .int 0])), (q22, .inr (2, [.int 2000, .ref q8_29, .int 0])), (q8_29, .inl (cI, 201, .inl (upd (fun _ => 0) (0 : Int32).toNatClampNeg 2000))), (q36, .inr (2, [.int 42000, .ref q8_42, .int 0])), (q8_42, .inl (cI, 201, .inl (upd (fun _ => 0) (0 : Int32).toNatClampNeg 42000))), (q49, .inr (2, [.int 82000, .ref q8_55, .int 0])), (q8_55, .inl (cI, 201, .inl (upd (fun _ => 0) (0 : Int32).toNatClampNeg 82000)))] H := hP
  have hD : va_D A [(a0, .inr (3, [.ref aS, .ref q10, .ref q22, .ref q36, .ref q49])), (q10, .inr (1, [.ref aS, .int 0, .int 0, .int 0])), (q22, .inr (2, [.int 2000, .ref q8_29, .int 0])), (q8_29, .inl (cI, 201, .inl (upd (fun _ => 0) (0 : Int32).toNatClampNeg 2000))), (q36, .inr (2, [.int 42000, .ref q8_42, .int 0])), (q8_42, .inl (cI, 201, .inl (upd (fun _ => 0) (0 : Int32).toNatClampNeg 42000))), (q49, .inr (2, [.int 82000, .ref q8_55, .int 0])), (q8_55, .inl (cI, 201, .inl (upd (fun _ => 0) (0 : Int32).toNatClampNeg 82000)))] := hD
  exact W.vret hx hb hr (fun t ht hW => ⟨⟨(), rfl, trivial, q10, q22, q8_29, q36, q8_42, q49, q8_55, by rw [ht]; exact hP, hD⟩, hS.F ht⟩) hS.2.2 d_BS_init_61
set_option maxHeartbeats 4000000 in
set_option maxRecDepth 100000 in
theorem c_PA_init (l : Launch) (D : va_G) (cB cI : ClassId) (a0 : Nat) (aS : Nat) (sz : Nat) : Met l y_PA_init mw_PA_init { frames := 2, cells := 7, slots := 3037, locals := 33 } (va_Pc [.ref a0, .ref aS] (mt_I D cB cI [(a0, .inr (5, [.null, .null, .null, .null, .null, .null, .int 0, .int 0, .int 0, .null, .null, .int 0, .int 0, .int 0, .int 0]))] sz)) (va_Qv (fun (_ : Unit) => True) (fun _ t => ∃ (q7 q15 q23 q31 q40 q49 q60 : Nat), va_P D vwCl [(a0, .inr (5, [.ref aS, .ref q60, .ref q7, .ref q15, .ref q23, .ref q31, .int 0, .int 0, .int 0, .ref q40, .ref q49, .int 0, .int 0, .int 0, .int 0])), (q7, .inl (cI, 8, .inl (fun _ => 0))), (q15, .inl (cI, 8, .inl (fun _ => 0))), (q23, .inl (cI, 8, .inl (fun _ => 0))), (q31, .inl (cI, 8, .inl (fun _ => 0))), (q40, .inl (cI, 1001, .inl (fun _ => 0))), (q49, .inl (cI, 2000, .inl (fun _ => 0))), (q60, .inr (1, [.ref aS, .int 0, .int 0, .int 0]))] t.heap ∧ va_D (va_A [(a0, .inr (5, [.null, .null, .null, .null, .null, .null, .int 0, .int 0, .int 0, .null, .null, .int 0, .int 0, .int 0, .int 0]))] sz) [(a0, .inr (5, [.ref aS, .ref q60, .ref q7, .ref q15, .ref q23, .ref q31, .int 0, .int 0, .int 0, .ref q40, .ref q49, .int 0, .int 0, .int 0, .int 0])), (q7, .inl (cI, 8, .inl (fun _ => 0))), (q15, .inl (cI, 8, .inl (fun _ => 0))), (q23, .inl (cI, 8, .inl (fun _ => 0))), (q31, .inl (cI, 8, .inl (fun _ => 0))), (q40, .inl (cI, 1001, .inl (fun _ => 0))), (q49, .inl (cI, 2000, .inl (fun _ => 0))), (q60, .inr (1, [.ref aS, .int 0, .int 0, .int 0]))]) (va_A [(a0, .inr (5, [.null, .null, .null, .null, .null, .null, .int 0, .int 0, .int 0, .null, .null, .int 0, .int 0, .int 0, .int 0]))] sz)) 7 3037 (va_A [(a0, .inr (5, [.null, .null, .null, .null, .null, .null, .int 0, .int 0, .int 0, .null, .null, .int 0, .int 0, .int 0, .int 0]))] sz) := by
  refine Met.ofW (cc := b_PA_init) (maxL := 2) (ret := none) (by decide) rfl ?_
  intro p e s m args below meth c s₁ B0 hml hv
  obtain ⟨rfl, ⟨hsz, hP, hk, hD0⟩, hxk⟩ := hv
  have hK := hk.1
  have hx := B0.exec
  have hb := B0.bytes
  have hr := B0.returns
  have hT : ∀ w ∈ lw_g, w.before _ s = true := fun w h => atoms_spec (ws := mw_PA_init) B0.pre w (List.mem_cons_of_mem _ h)
  have hown : s.vm.findClass R_PA = some m.cls := findClass_of_methodNamed B0.named
  have hlocks := B0.notSynchronized
  have hin : meth.name = "<init>" := (name_of_methodNamed B0.named B0.method).1
  subst hsz
  have hD := hD0.self (sz := s.heap.size)
  generalize hAe : va_A [(a0, .inr (5, [.null, .null, .null, .null, .null, .null, .int 0, .int 0, .int 0, .null, .null, .int 0, .int 0, .int 0, .int 0]))] s.heap.size = A at hD ⊢
  have hA : ∀ q : Nat, s.heap.size ≤ q → A q := fun q h => by rw [← hAe]; exact Or.inr h
  have hS : va_S A s.heap s.heap [] := va_S.rf
  have hl := lv_entry ([.ref a0, .ref aS]) (n := 2) (Nat.le_of_ble_eq_true rfl)
  rw [lg_entry_eq]
  generalize (lg_sl ([.ref a0, .ref aS]) ++ List.replicate (2 - (lg_sl ([.ref a0, .ref aS])).length) Slot.unset).toArray = ls at hl ⊢
  have hl : lv_has ls 2 [(0, .ref a0), (1, .ref aS)] := hl
  refine lv_aload_n hx hb d_PA_init_0 rfl (lv_at hl 0 rfl) ?_
  refine W.objInit hx hb hown (hT _ k_137) (hT _ k_28) (hT _ kc_JO_init) rfl (by rw [hml]; exact hl.1) rfl d_PA_init_1 (Nat.le_of_ble_eq_true rfl) (Nat.le_of_ble_eq_true rfl) ?_
  refine W.eq (g2 := F0 m 4 ls []) rfl ?_
  refine lv_aload_n hx hb d_PA_init_4 rfl (lv_at hl 0 rfl) ?_
  refine lv_bipush (v := 8) hx hb d_PA_init_5 (by decide) ?_
  refine va_newa (atype := .int) (a0 := (8, .inl (fun _ => 0))) hx hb (hT _ k_107) rfl hK hP hD hS hA (nz_i 8) (by decide) (by decide) (Nat.le_of_ble_eq_true rfl) (Nat.le_of_ble_eq_true rfl) (Nat.le_of_ble_eq_true rfl) d_PA_init_7 (fun q7 cA H hK9 hP hD hS => ?_)
  obtain rfl : cI = cA := Option.some.inj (((hK.2 1 _ rfl).2).symm.trans ((hK9.2 2 _ rfl).2))
  refine W.widen (k := 1) (n := 8) (Nat.le_refl _) (Nat.le_refl _) ?_
  have hP : va_P D vwCl [(a0, .inr (5, [.null, .null, .null, .null, .null, .null, .int 0, .int 0, .int 0, .null, .null, .int 0, .int 0, .int 0, .int 0])), (q7, .inl (cI, 8, .inl (fun _ => 0)))] H := hP
  have hD : va_D A [(a0, .inr (5, [.null, .null, .null, .null, .null, .null, .int 0, .int 0, .int 0, .null, .null, .int 0, .int 0, .int 0, .int 0])), (q7, .inl (cI, 8, .inl (fun _ => 0)))] := hD
  refine va_putF (D := D) (ci := 5) (v := .ref q7) (ty := .array .int) (C := R_PA) (T := T_PA) (N := 15) hx hb hT u_PA ty_PA tyok_PA nm_PA hown hK hP hD hS 0 rfl rfl 2 (by decide) (hT _ k_142) (fun _ h9 => h9) rfl hin rfl (by decide +kernel) rfl rfl (Nat.le_of_ble_eq_true rfl) d_PA_init_9 (fun H locs hP hD hS => ?_)
  have hP : va_P D vwCl [(a0, .inr (5, [.null, .null, .ref q7, .null, .null, .null, .int 0, .int 0, .int 0, .null, .null, .int 0, .int 0, .int 0, .int 0])), (q7, .inl (cI, 8, .inl (fun _ => 0)))] H := hP
  have hD : va_D A [(a0, .inr (5, [.null, .null, .ref q7, .null, .null, .null, .int 0, .int 0, .int 0, .null, .null, .int 0, .int 0, .int 0, .int 0])), (q7, .inl (cI, 8, .inl (fun _ => 0)))] := hD
  refine lv_aload_n hx hb d_PA_init_12 rfl (lv_at hl 0 rfl) ?_
  refine lv_bipush (v := 8) hx hb d_PA_init_13 (by decide) ?_
  refine va_newa (atype := .int) (a0 := (8, .inl (fun _ => 0))) hx hb (hT _ k_107) rfl hK hP hD hS hA (nz_i 8) (by decide) (by decide) (Nat.le_of_ble_eq_true rfl) (Nat.le_of_ble_eq_true rfl) (Nat.le_of_ble_eq_true rfl) d_PA_init_15 (fun q15 cA H hK9 hP hD hS => ?_)
  obtain rfl : cI = cA := Option.some.inj (((hK.2 1 _ rfl).2).symm.trans ((hK9.2 2 _ rfl).2))
  refine W.widen (k := 2) (n := 16) (Nat.le_refl _) (Nat.le_refl _) ?_
  have hP : va_P D vwCl [(a0, .inr (5, [.null, .null, .ref q7, .null, .null, .null, .int 0, .int 0, .int 0, .null, .null, .int 0, .int 0, .int 0, .int 0])), (q7, .inl (cI, 8, .inl (fun _ => 0))), (q15, .inl (cI, 8, .inl (fun _ => 0)))] H := hP
  have hD : va_D A [(a0, .inr (5, [.null, .null, .ref q7, .null, .null, .null, .int 0, .int 0, .int 0, .null, .null, .int 0, .int 0, .int 0, .int 0])), (q7, .inl (cI, 8, .inl (fun _ => 0))), (q15, .inl (cI, 8, .inl (fun _ => 0)))] := hD
  refine va_putF (D := D) (ci := 5) (v := .ref q15) (ty := .array .int) (C := R_PA) (T := T_PA) (N := 15) hx hb hT u_PA ty_PA tyok_PA nm_PA hown hK hP hD hS 0 rfl rfl 3 (by decide) (hT _ k_143) (fun _ h9 => h9) rfl hin rfl (by decide +kernel) rfl rfl (Nat.le_of_ble_eq_true rfl) d_PA_init_17 (fun H locs hP hD hS => ?_)
  have hP : va_P D vwCl [(a0, .inr (5, [.null, .null, .ref q7, .ref q15, .null, .null, .int 0, .int 0, .int 0, .null, .null, .int 0, .int 0, .int 0, .int 0])), (q7, .inl (cI, 8, .inl (fun _ => 0))), (q15, .inl (cI, 8, .inl (fun _ => 0)))] H := hP
  have hD : va_D A [(a0, .inr (5, [.null, .null, .ref q7, .ref q15, .null, .null, .int 0, .int 0, .int 0, .null, .null, .int 0, .int 0, .int 0, .int 0])), (q7, .inl (cI, 8, .inl (fun _ => 0))), (q15, .inl (cI, 8, .inl (fun _ => 0)))] := hD
  refine lv_aload_n hx hb d_PA_init_20 rfl (lv_at hl 0 rfl) ?_
  refine lv_bipush (v := 8) hx hb d_PA_init_21 (by decide) ?_
  refine va_newa (atype := .int) (a0 := (8, .inl (fun _ => 0))) hx hb (hT _ k_107) rfl hK hP hD hS hA (nz_i 8) (by decide) (by decide) (Nat.le_of_ble_eq_true rfl) (Nat.le_of_ble_eq_true rfl) (Nat.le_of_ble_eq_true rfl) d_PA_init_23 (fun q23 cA H hK9 hP hD hS => ?_)
  obtain rfl : cI = cA := Option.some.inj (((hK.2 1 _ rfl).2).symm.trans ((hK9.2 2 _ rfl).2))
  refine W.widen (k := 3) (n := 24) (Nat.le_refl _) (Nat.le_refl _) ?_
  have hP : va_P D vwCl [(a0, .inr (5, [.null, .null, .ref q7, .ref q15, .null, .null, .int 0, .int 0, .int 0, .null, .null, .int 0, .int 0, .int 0, .int 0])), (q7, .inl (cI, 8, .inl (fun _ => 0))), (q15, .inl (cI, 8, .inl (fun _ => 0))), (q23, .inl (cI, 8, .inl (fun _ => 0)))] H := hP
  have hD : va_D A [(a0, .inr (5, [.null, .null, .ref q7, .ref q15, .null, .null, .int 0, .int 0, .int 0, .null, .null, .int 0, .int 0, .int 0, .int 0])), (q7, .inl (cI, 8, .inl (fun _ => 0))), (q15, .inl (cI, 8, .inl (fun _ => 0))), (q23, .inl (cI, 8, .inl (fun _ => 0)))] := hD
  refine va_putF (D := D) (ci := 5) (v := .ref q23) (ty := .array .int) (C := R_PA) (T := T_PA) (N := 15) hx hb hT u_PA ty_PA tyok_PA nm_PA hown hK hP hD hS 0 rfl rfl 4 (by decide) (hT _ k_144) (fun _ h9 => h9) rfl hin rfl (by decide +kernel) rfl rfl (Nat.le_of_ble_eq_true rfl) d_PA_init_25 (fun H locs hP hD hS => ?_)
  have hP : va_P D vwCl [(a0, .inr (5, [.null, .null, .ref q7, .ref q15, .ref q23, .null, .int 0, .int 0, .int 0, .null, .null, .int 0, .int 0, .int 0, .int 0])), (q7, .inl (cI, 8, .inl (fun _ => 0))), (q15, .inl (cI, 8, .inl (fun _ => 0))), (q23, .inl (cI, 8, .inl (fun _ => 0)))] H := hP
  have hD : va_D A [(a0, .inr (5, [.null, .null, .ref q7, .ref q15, .ref q23, .null, .int 0, .int 0, .int 0, .null, .null, .int 0, .int 0, .int 0, .int 0])), (q7, .inl (cI, 8, .inl (fun _ => 0))), (q15, .inl (cI, 8, .inl (fun _ => 0))), (q23, .inl (cI, 8, .inl (fun _ => 0)))] := hD
  refine lv_aload_n hx hb d_PA_init_28 rfl (lv_at hl 0 rfl) ?_
  refine lv_bipush (v := 8) hx hb d_PA_init_29 (by decide) ?_
  refine va_newa (atype := .int) (a0 := (8, .inl (fun _ => 0))) hx hb (hT _ k_107) rfl hK hP hD hS hA (nz_i 8) (by decide) (by decide) (Nat.le_of_ble_eq_true rfl) (Nat.le_of_ble_eq_true rfl) (Nat.le_of_ble_eq_true rfl) d_PA_init_31 (fun q31 cA H hK9 hP hD hS => ?_)
  obtain rfl : cI = cA := Option.some.inj (((hK.2 1 _ rfl).2).symm.trans ((hK9.2 2 _ rfl).2))
  refine W.widen (k := 4) (n := 32) (Nat.le_refl _) (Nat.le_refl _) ?_
  have hP : va_P D vwCl [(a0, .inr (5, [.null, .null, .ref q7, .ref q15, .ref q23, .null, .int 0, .int 0, .int 0, .null, .null, .int 0, .int 0, .int 0, .int 0])), (q7, .inl (cI, 8, .inl (fun _ => 0))), (q15, .inl (cI, 8, .inl (fun _ => 0))), (q23, .inl (cI, 8, .inl (fun _ => 0))), (q31, .inl (cI, 8, .inl (fun _ => 0)))] H := hP
  have hD : va_D A [(a0, .inr (5, [.null, .null, .ref q7, .ref q15, .ref q23, .null, .int 0, .int 0, .int 0, .null, .null, .int 0, .int 0, .int 0, .int 0])), (q7, .inl (cI, 8, .inl (fun _ => 0))), (q15, .inl (cI, 8, .inl (fun _ => 0))), (q23, .inl (cI, 8, .inl (fun _ => 0))), (q31, .inl (cI, 8, .inl (fun _ => 0)))] := hD
  refine va_putF (D := D) (ci := 5) (v := .ref q31) (ty := .array .int) (C := R_PA) (T := T_PA) (N := 15) hx hb hT u_PA ty_PA tyok_PA nm_PA hown hK hP hD hS 0 rfl rfl 5 (by decide) (hT _ k_145) (fun _ h9 => h9) rfl hin rfl (by decide +kernel) rfl rfl (Nat.le_of_ble_eq_true rfl) d_PA_init_33 (fun H locs hP hD hS => ?_)
  have hP : va_P D vwCl [(a0, .inr (5, [.null, .null, .ref q7, .ref q15, .ref q23, .ref q31, .int 0, .int 0, .int 0, .null, .null, .int 0, .int 0, .int 0, .int 0])), (q7, .inl (cI, 8, .inl (fun _ => 0))), (q15, .inl (cI, 8, .inl (fun _ => 0))), (q23, .inl (cI, 8, .inl (fun _ => 0))), (q31, .inl (cI, 8, .inl (fun _ => 0)))] H := hP
  have hD : va_D A [(a0, .inr (5, [.null, .null, .ref q7, .ref q15, .ref q23, .ref q31, .int 0, .int 0, .int 0, .null, .null, .int 0, .int 0, .int 0, .int 0])), (q7, .inl (cI, 8, .inl (fun _ => 0))), (q15, .inl (cI, 8, .inl (fun _ => 0))), (q23, .inl (cI, 8, .inl (fun _ => 0))), (q31, .inl (cI, 8, .inl (fun _ => 0)))] := hD
  refine lv_aload_n hx hb d_PA_init_36 rfl (lv_at hl 0 rfl) ?_
  refine lv_sipush (v := 1001) hx hb d_PA_init_37 (by decide) ?_
  refine va_newa (atype := .int) (a0 := (1001, .inl (fun _ => 0))) hx hb (hT _ k_107) rfl hK hP hD hS hA (nz_i 1001) (by decide) (by decide) (Nat.le_of_ble_eq_true rfl) (Nat.le_of_ble_eq_true rfl) (Nat.le_of_ble_eq_true rfl) d_PA_init_40 (fun q40 cA H hK9 hP hD hS => ?_)
  obtain rfl : cI = cA := Option.some.inj (((hK.2 1 _ rfl).2).symm.trans ((hK9.2 2 _ rfl).2))
  refine W.widen (k := 5) (n := 1033) (Nat.le_refl _) (Nat.le_refl _) ?_
  have hP : va_P D vwCl [(a0, .inr (5, [.null, .null, .ref q7, .ref q15, .ref q23, .ref q31, .int 0, .int 0, .int 0, .null, .null, .int 0, .int 0, .int 0, .int 0])), (q7, .inl (cI, 8, .inl (fun _ => 0))), (q15, .inl (cI, 8, .inl (fun _ => 0))), (q23, .inl (cI, 8, .inl (fun _ => 0))), (q31, .inl (cI, 8, .inl (fun _ => 0))), (q40, .inl (cI, 1001, .inl (fun _ => 0)))] H := hP
  have hD : va_D A [(a0, .inr (5, [.null, .null, .ref q7, .ref q15, .ref q23, .ref q31, .int 0, .int 0, .int 0, .null, .null, .int 0, .int 0, .int 0, .int 0])), (q7, .inl (cI, 8, .inl (fun _ => 0))), (q15, .inl (cI, 8, .inl (fun _ => 0))), (q23, .inl (cI, 8, .inl (fun _ => 0))), (q31, .inl (cI, 8, .inl (fun _ => 0))), (q40, .inl (cI, 1001, .inl (fun _ => 0)))] := hD
  refine va_putF (D := D) (ci := 5) (v := .ref q40) (ty := .array .int) (C := R_PA) (T := T_PA) (N := 15) hx hb hT u_PA ty_PA tyok_PA nm_PA hown hK hP hD hS 0 rfl rfl 9 (by decide) (hT _ k_151) (fun _ h9 => h9) rfl hin rfl (by decide +kernel) rfl rfl (Nat.le_of_ble_eq_true rfl) d_PA_init_42 (fun H locs hP hD hS => ?_)
  have hP : va_P D vwCl [(a0, .inr (5, [.null, .null, .ref q7, .ref q15, .ref q23, .ref q31, .int 0, .int 0, .int 0, .ref q40, .null, .int 0, .int 0, .int 0, .int 0])), (q7, .inl (cI, 8, .inl (fun _ => 0))), (q15, .inl (cI, 8, .inl (fun _ => 0))), (q23, .inl (cI, 8, .inl (fun _ => 0))), (q31, .inl (cI, 8, .inl (fun _ => 0))), (q40, .inl (cI, 1001, .inl (fun _ => 0)))] H := hP
  have hD : va_D A [(a0, .inr (5, [.null, .null, .ref q7, .ref q15, .ref q23, .ref q31, .int 0, .int 0, .int 0, .ref q40, .null, .int 0, .int 0, .int 0, .int 0])), (q7, .inl (cI, 8, .inl (fun _ => 0))), (q15, .inl (cI, 8, .inl (fun _ => 0))), (q23, .inl (cI, 8, .inl (fun _ => 0))), (q31, .inl (cI, 8, .inl (fun _ => 0))), (q40, .inl (cI, 1001, .inl (fun _ => 0)))] := hD
  refine lv_aload_n hx hb d_PA_init_45 rfl (lv_at hl 0 rfl) ?_
  refine lv_sipush (v := 2000) hx hb d_PA_init_46 (by decide) ?_
  refine va_newa (atype := .int) (a0 := (2000, .inl (fun _ => 0))) hx hb (hT _ k_107) rfl hK hP hD hS hA (nz_i 2000) (by decide) (by decide) (Nat.le_of_ble_eq_true rfl) (Nat.le_of_ble_eq_true rfl) (Nat.le_of_ble_eq_true rfl) d_PA_init_49 (fun q49 cA H hK9 hP hD hS => ?_)
  obtain rfl : cI = cA := Option.some.inj (((hK.2 1 _ rfl).2).symm.trans ((hK9.2 2 _ rfl).2))
  refine W.widen (k := 6) (n := 3033) (Nat.le_refl _) (Nat.le_refl _) ?_
  have hP : va_P D vwCl [(a0, .inr (5, [.null, .null, .ref q7, .ref q15, .ref q23, .ref q31, .int 0, .int 0, .int 0, .ref q40, .null, .int 0, .int 0, .int 0, .int 0])), (q7, .inl (cI, 8, .inl (fun _ => 0))), (q15, .inl (cI, 8, .inl (fun _ => 0))), (q23, .inl (cI, 8, .inl (fun _ => 0))), (q31, .inl (cI, 8, .inl (fun _ => 0))), (q40, .inl (cI, 1001, .inl (fun _ => 0))), (q49, .inl (cI, 2000, .inl (fun _ => 0)))] H := hP
  have hD : va_D A [(a0, .inr (5, [.null, .null, .ref q7, .ref q15, .ref q23, .ref q31, .int 0, .int 0, .int 0, .ref q40, .null, .int 0, .int 0, .int 0, .int 0])), (q7, .inl (cI, 8, .inl (fun _ => 0))), (q15, .inl (cI, 8, .inl (fun _ => 0))), (q23, .inl (cI, 8, .inl (fun _ => 0))), (q31, .inl (cI, 8, .inl (fun _ => 0))), (q40, .inl (cI, 1001, .inl (fun _ => 0))), (q49, .inl (cI, 2000, .inl (fun _ => 0)))] := hD
  refine va_putF (D := D) (ci := 5) (v := .ref q49) (ty := .array .int) (C := R_PA) (T := T_PA) (N := 15) hx hb hT u_PA ty_PA tyok_PA nm_PA hown hK hP hD hS 0 rfl rfl 10 (by decide) (hT _ k_152) (fun _ h9 => h9) rfl hin rfl (by decide +kernel) rfl rfl (Nat.le_of_ble_eq_true rfl) d_PA_init_51 (fun H locs hP hD hS => ?_)
  have hP : va_P D vwCl [(a0, .inr (5, [.null, .null, .ref q7, .ref q15, .ref q23, .ref q31, .int 0, .int 0, .int 0, .ref q40, .ref q49, .int 0, .int 0, .int 0, .int 0])), (q7, .inl (cI, 8, .inl (fun _ => 0))), (q15, .inl (cI, 8, .inl (fun _ => 0))), (q23, .inl (cI, 8, .inl (fun _ => 0))), (q31, .inl (cI, 8, .inl (fun _ => 0))), (q40, .inl (cI, 1001, .inl (fun _ => 0))), (q49, .inl (cI, 2000, .inl (fun _ => 0)))] H := hP
  have hD : va_D A [(a0, .inr (5, [.null, .null, .ref q7, .ref q15, .ref q23, .ref q31, .int 0, .int 0, .int 0, .ref q40, .ref q49, .int 0, .int 0, .int 0, .int 0])), (q7, .inl (cI, 8, .inl (fun _ => 0))), (q15, .inl (cI, 8, .inl (fun _ => 0))), (q23, .inl (cI, 8, .inl (fun _ => 0))), (q31, .inl (cI, 8, .inl (fun _ => 0))), (q40, .inl (cI, 1001, .inl (fun _ => 0))), (q49, .inl (cI, 2000, .inl (fun _ => 0)))] := hD
  refine lv_aload_n hx hb d_PA_init_54 rfl (lv_at hl 0 rfl) ?_
  refine lv_aload_n hx hb d_PA_init_55 rfl (lv_at hl 1 rfl) ?_
  refine va_putF (D := D) (ci := 5) (v := .ref aS) (ty := .object "PipelineBelt$Store") (C := R_PA) (T := T_PA) (N := 15) hx hb hT u_PA ty_PA tyok_PA nm_PA hown hK hP hD hS 0 rfl rfl 0 (by decide) (hT _ k_140) (fun _ h9 => h9) rfl hin rfl (by decide +kernel) rfl rfl (Nat.le_of_ble_eq_true rfl) d_PA_init_56 (fun H locs hP hD hS => ?_)
  have hP : va_P D vwCl [(a0, .inr (5, [.ref aS, .null, .ref q7, .ref q15, .ref q23, .ref q31, .int 0, .int 0, .int 0, .ref q40, .ref q49, .int 0, .int 0, .int 0, .int 0])), (q7, .inl (cI, 8, .inl (fun _ => 0))), (q15, .inl (cI, 8, .inl (fun _ => 0))), (q23, .inl (cI, 8, .inl (fun _ => 0))), (q31, .inl (cI, 8, .inl (fun _ => 0))), (q40, .inl (cI, 1001, .inl (fun _ => 0))), (q49, .inl (cI, 2000, .inl (fun _ => 0)))] H := hP
  have hD : va_D A [(a0, .inr (5, [.ref aS, .null, .ref q7, .ref q15, .ref q23, .ref q31, .int 0, .int 0, .int 0, .ref q40, .ref q49, .int 0, .int 0, .int 0, .int 0])), (q7, .inl (cI, 8, .inl (fun _ => 0))), (q15, .inl (cI, 8, .inl (fun _ => 0))), (q23, .inl (cI, 8, .inl (fun _ => 0))), (q31, .inl (cI, 8, .inl (fun _ => 0))), (q40, .inl (cI, 1001, .inl (fun _ => 0))), (q49, .inl (cI, 2000, .inl (fun _ => 0)))] := hD
  refine lv_aload_n hx hb d_PA_init_59 rfl (lv_at hl 0 rfl) ?_
  refine va_new (ci := 1) (fs := [.null, .int 0, .int 0, .int 0]) (C := R_WR) (T := T_WR) (N := 4) hx hb hT u_WR ty_WR tyok_WR hown (hT _ k_138) (hT _ k_60) (hT _ k_5) hK hP hD hS hA rfl (fun j hj => by rcases (show j = 0 ∨ j = 1 ∨ j = 2 ∨ j = 3 by omega) with rfl | rfl | rfl | rfl <;> rfl) (Nat.le_of_ble_eq_true rfl) (Nat.le_of_ble_eq_true rfl) d_PA_init_60 (fun q60 H hP hD hS => ?_)
  refine W.widen (k := 7) (n := 3037) (Nat.le_refl _) (Nat.le_refl _) ?_
  have hP : va_P D vwCl [(a0, .inr (5, [.ref aS, .null, .ref q7, .ref q15, .ref q23, .ref q31, .int 0, .int 0, .int 0, .ref q40, .ref q49, .int 0, .int 0, .int 0, .int 0])), (q7, .inl (cI, 8, .inl (fun _ => 0))), (q15, .inl (cI, 8, .inl (fun _ => 0))), (q23, .inl (cI, 8, .inl (fun _ => 0))), (q31, .inl (cI, 8, .inl (fun _ => 0))), (q40, .inl (cI, 1001, .inl (fun _ => 0))), (q49, .inl (cI, 2000, .inl (fun _ => 0))), (q60, .inr (1, [.null, .int 0, .int 0, .int 0]))] H := hP
  have hD : va_D A [(a0, .inr (5, [.ref aS, .null, .ref q7, .ref q15, .ref q23, .ref q31, .int 0, .int 0, .int 0, .ref q40, .ref q49, .int 0, .int 0, .int 0, .int 0])), (q7, .inl (cI, 8, .inl (fun _ => 0))), (q15, .inl (cI, 8, .inl (fun _ => 0))), (q23, .inl (cI, 8, .inl (fun _ => 0))), (q31, .inl (cI, 8, .inl (fun _ => 0))), (q40, .inl (cI, 1001, .inl (fun _ => 0))), (q49, .inl (cI, 2000, .inl (fun _ => 0))), (q60, .inr (1, [.null, .int 0, .int 0, .int 0]))] := hD
  refine lv_dup hx hb d_PA_init_63 rfl ?_
  refine lv_aload_n hx hb d_PA_init_64 rfl (lv_at hl 1 rfl) ?_
  have hPc := hP.sub (ws' := [(q60, .inr (1, [.null, .int 0, .int 0, .int 0]))]) [7] rfl
  have hDc := hD.sub (ws' := [(q60, .inr (1, [.null, .int 0, .int 0, .int 0]))]) [7] (by decide) rfl
  have hFc := va_free (wc := [(q60, .inr (1, [.null, .int 0, .int 0, .int 0]))]) hD hS hA [7] rfl
  refine va_callv (va_runI (As := [.ref aS]) (rest := [.ref q60, .ref a0]) ⟨hx, hb, hml, hown, hT⟩ (c_WR_init l D cB cI q60 aS H.size) (cwI 1 hT (gC_of kc_WR_init) rfl rfl rfl (hT _ k_5) (hT _ k_139) (hT _ k_62) rfl hd_WR_init.2 ⟨(Nat.le_of_ble_eq_true rfl), (Nat.le_of_ble_eq_true rfl)⟩) ⟨mi_blind, mi_pre hk hxk hPc hDc⟩ rfl rfl hl.1 rfl (lv_room (Nat.le_of_ble_eq_true rfl)) d_PA_init_65 ⟨(Nat.le_of_ble_eq_true rfl), (Nat.le_of_ble_eq_true rfl)⟩) hS (fun q _ h => hFc q h) hFc (fun u t H1 locs ht hvm hw hB hz1 hk1 hS => ?_)
  obtain ⟨hP1, hD1⟩ := hB
  rw [ht] at hP1
  obtain ⟨hP, hD⟩ := va_join (wr := [(a0, .inr (5, [.ref aS, .null, .ref q7, .ref q15, .ref q23, .ref q31, .int 0, .int 0, .int 0, .ref q40, .ref q49, .int 0, .int 0, .int 0, .int 0])), (q7, .inl (cI, 8, .inl (fun _ => 0))), (q15, .inl (cI, 8, .inl (fun _ => 0))), (q23, .inl (cI, 8, .inl (fun _ => 0))), (q31, .inl (cI, 8, .inl (fun _ => 0))), (q40, .inl (cI, 1001, .inl (fun _ => 0))), (q49, .inl (cI, 2000, .inl (fun _ => 0)))]) (w1 := [(q60, .inr (1, [.ref aS, .int 0, .int 0, .int 0]))]) hP hD [7] [0, 1, 2, 3, 4, 5, 6] rfl rfl (by decide) (by decide) hk1 hFc hP1 hD1
  generalize H1 = H at hP hS ⊢
  refine W.widen (k := 7) (n := 3037) (Nat.le_refl _) (Nat.le_refl _) ?_
  have hP : va_P D vwCl [(a0, .inr (5, [.ref aS, .null, .ref q7, .ref q15, .ref q23, .ref q31, .int 0, .int 0, .int 0, .ref q40, .ref q49, .int 0, .int 0, .int 0, .int 0])), (q7, .inl (cI, 8, .inl (fun _ => 0))), (q15, .inl (cI, 8, .inl (fun _ => 0))), (q23, .inl (cI, 8, .inl (fun _ => 0))), (q31, .inl (cI, 8, .inl (fun _ => 0))), (q40, .inl (cI, 1001, .inl (fun _ => 0))), (q49, .inl (cI, 2000, .inl (fun _ => 0))), (q60, .inr (1, [.ref aS, .int 0, .int 0, .int 0]))] H := hP
  have hD : va_D A [(a0, .inr (5, [.ref aS, .null, .ref q7, .ref q15, .ref q23, .ref q31, .int 0, .int 0, .int 0, .ref q40, .ref q49, .int 0, .int 0, .int 0, .int 0])), (q7, .inl (cI, 8, .inl (fun _ => 0))), (q15, .inl (cI, 8, .inl (fun _ => 0))), (q23, .inl (cI, 8, .inl (fun _ => 0))), (q31, .inl (cI, 8, .inl (fun _ => 0))), (q40, .inl (cI, 1001, .inl (fun _ => 0))), (q49, .inl (cI, 2000, .inl (fun _ => 0))), (q60, .inr (1, [.ref aS, .int 0, .int 0, .int 0]))] := hD
  refine va_putF (D := D) (ci := 5) (v := .ref q60) (ty := .object "PipelineBelt$Writer") (C := R_PA) (T := T_PA) (N := 15) hx hb hT u_PA ty_PA tyok_PA nm_PA hown hK hP hD hS 0 rfl rfl 1 (by decide) (hT _ k_141) (fun _ h9 => h9) rfl hin rfl (by decide +kernel) rfl rfl (Nat.le_of_ble_eq_true rfl) d_PA_init_68 (fun H locs hP hD hS => ?_)
  have hP : va_P D vwCl [(a0, .inr (5, [.ref aS, .ref q60, .ref q7, .ref q15, .ref q23, .ref q31, .int 0, .int 0, .int 0, .ref q40, .ref q49, .int 0, .int 0, .int 0, .int 0])), (q7, .inl (cI, 8, .inl (fun _ => 0))), (q15, .inl (cI, 8, .inl (fun _ => 0))), (q23, .inl (cI, 8, .inl (fun _ => 0))), (q31, .inl (cI, 8, .inl (fun _ => 0))), (q40, .inl (cI, 1001, .inl (fun _ => 0))), (q49, .inl (cI, 2000, .inl (fun _ => 0))), (q60, .inr (1, [.ref aS, .int 0, .int 0, .int 0]))] H := hP
  have hD : va_D A [(a0, .inr (5, [.ref aS, .ref q60, .ref q7, .ref q15, .ref q23, .ref q31, .int 0, .int 0, .int 0, .ref q40, .ref q49, .int 0, .int 0, .int 0, .int 0])), (q7, .inl (cI, 8, .inl (fun _ => 0))), (q15, .inl (cI, 8, .inl (fun _ => 0))), (q23, .inl (cI, 8, .inl (fun _ => 0))), (q31, .inl (cI, 8, .inl (fun _ => 0))), (q40, .inl (cI, 1001, .inl (fun _ => 0))), (q49, .inl (cI, 2000, .inl (fun _ => 0))), (q60, .inr (1, [.ref aS, .int 0, .int 0, .int 0]))] := hD
  exact W.vret hx hb hr (fun t ht hW => ⟨⟨(), rfl, trivial, q7, q15, q23, q31, q40, q49, q60, by rw [ht]; exact hP, hD⟩, hS.F ht⟩) hS.2.2 d_PA_init_71
set_option maxHeartbeats 4000000 in
set_option maxRecDepth 100000 in
theorem c_SH_init (l : Launch) (D : va_G) (cB cI : ClassId) (a0 : Nat) (aS : Nat) (aY : Nat) (aP : Nat) (sz : Nat) : Met l y_SH_init mw_SH_init { frames := 1, cells := 0, slots := 0, locals := 12 } (va_Pc [.ref a0, .ref aS, .ref aY, .ref aP] (mt_I D cB cI [(a0, .inr (6, [.null, .null, .null]))] sz)) (va_Qv (fun (_ : Unit) => True) (fun _ t => va_P D vwCl [(a0, .inr (6, [.ref aS, .ref aY, .ref aP]))] t.heap ∧ va_D (va_A [(a0, .inr (6, [.null, .null, .null]))] sz) [(a0, .inr (6, [.ref aS, .ref aY, .ref aP]))]) (va_A [(a0, .inr (6, [.null, .null, .null]))] sz)) 0 0 (va_A [(a0, .inr (6, [.null, .null, .null]))] sz) := by
  refine Met.ofW (cc := b_SH_init) (maxL := 4) (ret := none) (by decide) rfl ?_
  intro p e s m args below meth c s₁ B0 hml hv
  obtain ⟨rfl, ⟨hsz, hP, hk, hD0⟩, hxk⟩ := hv
  have hK := hk.1
  have hx := B0.exec
  have hb := B0.bytes
  have hr := B0.returns
  have hT : ∀ w ∈ lw_g, w.before _ s = true := fun w h => atoms_spec (ws := mw_SH_init) B0.pre w (List.mem_cons_of_mem _ h)
  have hown : s.vm.findClass R_SH = some m.cls := findClass_of_methodNamed B0.named
  have hlocks := B0.notSynchronized
  have hin : meth.name = "<init>" := (name_of_methodNamed B0.named B0.method).1
  subst hsz
  have hD := hD0.self (sz := s.heap.size)
  generalize hAe : va_A [(a0, .inr (6, [.null, .null, .null]))] s.heap.size = A at hD ⊢
  have hA : ∀ q : Nat, s.heap.size ≤ q → A q := fun q h => by rw [← hAe]; exact Or.inr h
  have hS : va_S A s.heap s.heap [] := va_S.rf
  have hl := lv_entry ([.ref a0, .ref aS, .ref aY, .ref aP]) (n := 4) (Nat.le_of_ble_eq_true rfl)
  rw [lg_entry_eq]
  generalize (lg_sl ([.ref a0, .ref aS, .ref aY, .ref aP]) ++ List.replicate (4 - (lg_sl ([.ref a0, .ref aS, .ref aY, .ref aP])).length) Slot.unset).toArray = ls at hl ⊢
  have hl : lv_has ls 4 [(0, .ref a0), (1, .ref aS), (2, .ref aY), (3, .ref aP)] := hl
  refine lv_aload_n hx hb d_SH_init_0 rfl (lv_at hl 0 rfl) ?_
  refine W.objInit hx hb hown (hT _ k_195) (hT _ k_28) (hT _ kc_JO_init) rfl (by rw [hml]; exact hl.1) rfl d_SH_init_1 (Nat.le_of_ble_eq_true rfl) (Nat.le_of_ble_eq_true rfl) ?_
  refine W.eq (g2 := F0 m 4 ls []) rfl ?_
  refine lv_aload_n hx hb d_SH_init_4 rfl (lv_at hl 0 rfl) ?_
  refine lv_aload_n hx hb d_SH_init_5 rfl (lv_at hl 1 rfl) ?_
  refine va_putF (D := D) (ci := 6) (v := .ref aS) (ty := .object "PipelineBelt$Store") (C := R_SH) (T := T_SH) (N := 3) hx hb hT u_SH ty_SH tyok_SH nm_SH hown hK hP hD hS 0 rfl rfl 0 (by decide) (hT _ k_196) (fun _ h9 => h9) rfl hin rfl (by decide +kernel) rfl rfl (Nat.le_of_ble_eq_true rfl) d_SH_init_6 (fun H locs hP hD hS => ?_)
  have hP : va_P D vwCl [(a0, .inr (6, [.ref aS, .null, .null]))] H := hP
  have hD : va_D A [(a0, .inr (6, [.ref aS, .null, .null]))] := hD
  refine lv_aload_n hx hb d_SH_init_9 rfl (lv_at hl 0 rfl) ?_
  refine lv_aload_n hx hb d_SH_init_10 rfl (lv_at hl 2 rfl) ?_
  refine va_putF (D := D) (ci := 6) (v := .ref aY) (ty := .object "PipelineBelt$Belts") (C := R_SH) (T := T_SH) (N := 3) hx hb hT u_SH ty_SH tyok_SH nm_SH hown hK hP hD hS 0 rfl rfl 1 (by decide) (hT _ k_197) (fun _ h9 => h9) rfl hin rfl (by decide +kernel) rfl rfl (Nat.le_of_ble_eq_true rfl) d_SH_init_11 (fun H locs hP hD hS => ?_)
  have hP : va_P D vwCl [(a0, .inr (6, [.ref aS, .ref aY, .null]))] H := hP
  have hD : va_D A [(a0, .inr (6, [.ref aS, .ref aY, .null]))] := hD
  refine lv_aload_n hx hb d_SH_init_14 rfl (lv_at hl 0 rfl) ?_
  refine lv_aload_n hx hb d_SH_init_15 rfl (lv_at hl 3 rfl) ?_
  refine va_putF (D := D) (ci := 6) (v := .ref aP) (ty := .object "PipelineBelt$Path") (C := R_SH) (T := T_SH) (N := 3) hx hb hT u_SH ty_SH tyok_SH nm_SH hown hK hP hD hS 0 rfl rfl 2 (by decide) (hT _ k_198) (fun _ h9 => h9) rfl hin rfl (by decide +kernel) rfl rfl (Nat.le_of_ble_eq_true rfl) d_SH_init_16 (fun H locs hP hD hS => ?_)
  have hP : va_P D vwCl [(a0, .inr (6, [.ref aS, .ref aY, .ref aP]))] H := hP
  have hD : va_D A [(a0, .inr (6, [.ref aS, .ref aY, .ref aP]))] := hD
  exact W.vret hx hb hr (fun t ht hW => ⟨⟨(), rfl, trivial, by rw [ht]; exact hP, hD⟩, hS.F ht⟩) hS.2.2 d_SH_init_19
set_option maxHeartbeats 4000000 in
set_option maxRecDepth 100000 in
theorem c_GR_init (l : Launch) (D : va_G) (cB cI : ClassId) (a0 : Nat) (aS : Nat) (aY : Nat) (aP : Nat) (sz : Nat) : Met l y_GR_init mw_GR_init { frames := 1, cells := 6, slots := 1200, locals := 12 } (va_Pc [.ref a0, .ref aS, .ref aY, .ref aP] (mt_I D cB cI [(a0, .inr (7, [.null, .null, .null, .null, .null, .null, .null, .null, .int 0, .null, .int 0, .long 0]))] sz)) (va_Qv (fun (_ : Unit) => True) (fun _ t => ∃ (q8 q17 q26 q35 q44 q53 : Nat), va_P D vwCl [(a0, .inr (7, [.ref aS, .ref aY, .ref aP, .ref q8, .ref q17, .ref q26, .ref q35, .ref q44, .int 0, .ref q53, .int 0, .long 0])), (q8, .inl (cI, 200, .inl (fun _ => 0))), (q17, .inl (cI, 200, .inl (fun _ => 0))), (q26, .inl (cI, 200, .inl (fun _ => 0))), (q35, .inl (cI, 200, .inl (fun _ => 0))), (q44, .inl (cI, 200, .inl (fun _ => 0))), (q53, .inl (cI, 200, .inl (fun _ => 0)))] t.heap ∧ va_D (va_A [(a0, .inr (7, [.null, .null, .null, .null, .null, .null, .null, .null, .int 0, .null, .int 0, .long 0]))] sz) [(a0, .inr (7, [.ref aS, .ref aY, .ref aP, .ref q8, .ref q17, .ref q26, .ref q35, .ref q44, .int 0, .ref q53, .int 0, .long 0])), (q8, .inl (cI, 200, .inl (fun _ => 0))), (q17, .inl (cI, 200, .inl (fun _ => 0))), (q26, .inl (cI, 200, .inl (fun _ => 0))), (q35, .inl (cI, 200, .inl (fun _ => 0))), (q44, .inl (cI, 200, .inl (fun _ => 0))), (q53, .inl (cI, 200, .inl (fun _ => 0)))]) (va_A [(a0, .inr (7, [.null, .null, .null, .null, .null, .null, .null, .null, .int 0, .null, .int 0, .long 0]))] sz)) 6 1200 (va_A [(a0, .inr (7, [.null, .null, .null, .null, .null, .null, .null, .null, .int 0, .null, .int 0, .long 0]))] sz) := by
  refine Met.ofW (cc := b_GR_init) (maxL := 4) (ret := none) (by decide) rfl ?_
  intro p e s m args below meth c s₁ B0 hml hv
  obtain ⟨rfl, ⟨hsz, hP, hk, hD0⟩, hxk⟩ := hv
  have hK := hk.1
  have hx := B0.exec
  have hb := B0.bytes
  have hr := B0.returns
  have hT : ∀ w ∈ lw_g, w.before _ s = true := fun w h => atoms_spec (ws := mw_GR_init) B0.pre w (List.mem_cons_of_mem _ h)
  have hown : s.vm.findClass R_GR = some m.cls := findClass_of_methodNamed B0.named
  have hlocks := B0.notSynchronized
  have hin : meth.name = "<init>" := (name_of_methodNamed B0.named B0.method).1
  subst hsz
  have hD := hD0.self (sz := s.heap.size)
  generalize hAe : va_A [(a0, .inr (7, [.null, .null, .null, .null, .null, .null, .null, .null, .int 0, .null, .int 0, .long 0]))] s.heap.size = A at hD ⊢
  have hA : ∀ q : Nat, s.heap.size ≤ q → A q := fun q h => by rw [← hAe]; exact Or.inr h
  have hS : va_S A s.heap s.heap [] := va_S.rf
  have hl := lv_entry ([.ref a0, .ref aS, .ref aY, .ref aP]) (n := 4) (Nat.le_of_ble_eq_true rfl)
  rw [lg_entry_eq]
  generalize (lg_sl ([.ref a0, .ref aS, .ref aY, .ref aP]) ++ List.replicate (4 - (lg_sl ([.ref a0, .ref aS, .ref aY, .ref aP])).length) Slot.unset).toArray = ls at hl ⊢
  have hl : lv_has ls 4 [(0, .ref a0), (1, .ref aS), (2, .ref aY), (3, .ref aP)] := hl
  refine lv_aload_n hx hb d_GR_init_0 rfl (lv_at hl 0 rfl) ?_
  refine W.objInit hx hb hown (hT _ k_211) (hT _ k_28) (hT _ kc_JO_init) rfl (by rw [hml]; exact hl.1) rfl d_GR_init_1 (Nat.le_of_ble_eq_true rfl) (Nat.le_of_ble_eq_true rfl) ?_
  refine W.eq (g2 := F0 m 4 ls []) rfl ?_
  refine lv_aload_n hx hb d_GR_init_4 rfl (lv_at hl 0 rfl) ?_
  refine lv_sipush (v := 200) hx hb d_GR_init_5 (by decide) ?_
  refine va_newa (atype := .int) (a0 := (200, .inl (fun _ => 0))) hx hb (hT _ k_107) rfl hK hP hD hS hA (nz_i 200) (by decide) (by decide) (Nat.le_of_ble_eq_true rfl) (Nat.le_of_ble_eq_true rfl) (Nat.le_of_ble_eq_true rfl) d_GR_init_8 (fun q8 cA H hK9 hP hD hS => ?_)
  obtain rfl : cI = cA := Option.some.inj (((hK.2 1 _ rfl).2).symm.trans ((hK9.2 2 _ rfl).2))
  refine W.widen (k := 1) (n := 200) (Nat.le_refl _) (Nat.le_refl _) ?_
  have hP : va_P D vwCl [(a0, .inr (7, [.null, .null, .null, .null, .null, .null, .null, .null, .int 0, .null, .int 0, .long 0])), (q8, .inl (cI, 200, .inl (fun _ => 0)))] H := hP
  have hD : va_D A [(a0, .inr (7, [.null, .null, .null, .null, .null, .null, .null, .null, .int 0, .null, .int 0, .long 0])), (q8, .inl (cI, 200, .inl (fun _ => 0)))] := hD
  refine va_putF (D := D) (ci := 7) (v := .ref q8) (ty := .array .int) (C := R_GR) (T := T_GR) (N := 12) hx hb hT u_GR ty_GR tyok_GR nm_GR hown hK hP hD hS 0 rfl rfl 3 (by decide) (hT _ k_215) (fun _ h9 => h9) rfl hin rfl (by decide +kernel) rfl rfl (Nat.le_of_ble_eq_true rfl) d_GR_init_10 (fun H locs hP hD hS => ?_)
  have hP : va_P D vwCl [(a0, .inr (7, [.null, .null, .null, .ref q8, .null, .null, .null, .null, .int 0, .null, .int 0, .long 0])), (q8, .inl (cI, 200, .inl (fun _ => 0)))] H := hP
  have hD : va_D A [(a0, .inr (7, [.null, .null, .null, .ref q8, .null, .null, .null, .null, .int 0, .null, .int 0, .long 0])), (q8, .inl (cI, 200, .inl (fun _ => 0)))] := hD
  refine lv_aload_n hx hb d_GR_init_13 rfl (lv_at hl 0 rfl) ?_
  refine lv_sipush (v := 200) hx hb d_GR_init_14 (by decide) ?_
  refine va_newa (atype := .int) (a0 := (200, .inl (fun _ => 0))) hx hb (hT _ k_107) rfl hK hP hD hS hA (nz_i 200) (by decide) (by decide) (Nat.le_of_ble_eq_true rfl) (Nat.le_of_ble_eq_true rfl) (Nat.le_of_ble_eq_true rfl) d_GR_init_17 (fun q17 cA H hK9 hP hD hS => ?_)
  obtain rfl : cI = cA := Option.some.inj (((hK.2 1 _ rfl).2).symm.trans ((hK9.2 2 _ rfl).2))
  refine W.widen (k := 2) (n := 400) (Nat.le_refl _) (Nat.le_refl _) ?_
  have hP : va_P D vwCl [(a0, .inr (7, [.null, .null, .null, .ref q8, .null, .null, .null, .null, .int 0, .null, .int 0, .long 0])), (q8, .inl (cI, 200, .inl (fun _ => 0))), (q17, .inl (cI, 200, .inl (fun _ => 0)))] H := hP
  have hD : va_D A [(a0, .inr (7, [.null, .null, .null, .ref q8, .null, .null, .null, .null, .int 0, .null, .int 0, .long 0])), (q8, .inl (cI, 200, .inl (fun _ => 0))), (q17, .inl (cI, 200, .inl (fun _ => 0)))] := hD
  refine va_putF (D := D) (ci := 7) (v := .ref q17) (ty := .array .int) (C := R_GR) (T := T_GR) (N := 12) hx hb hT u_GR ty_GR tyok_GR nm_GR hown hK hP hD hS 0 rfl rfl 4 (by decide) (hT _ k_216) (fun _ h9 => h9) rfl hin rfl (by decide +kernel) rfl rfl (Nat.le_of_ble_eq_true rfl) d_GR_init_19 (fun H locs hP hD hS => ?_)
  have hP : va_P D vwCl [(a0, .inr (7, [.null, .null, .null, .ref q8, .ref q17, .null, .null, .null, .int 0, .null, .int 0, .long 0])), (q8, .inl (cI, 200, .inl (fun _ => 0))), (q17, .inl (cI, 200, .inl (fun _ => 0)))] H := hP
  have hD : va_D A [(a0, .inr (7, [.null, .null, .null, .ref q8, .ref q17, .null, .null, .null, .int 0, .null, .int 0, .long 0])), (q8, .inl (cI, 200, .inl (fun _ => 0))), (q17, .inl (cI, 200, .inl (fun _ => 0)))] := hD
  refine lv_aload_n hx hb d_GR_init_22 rfl (lv_at hl 0 rfl) ?_
  refine lv_sipush (v := 200) hx hb d_GR_init_23 (by decide) ?_
  refine va_newa (atype := .int) (a0 := (200, .inl (fun _ => 0))) hx hb (hT _ k_107) rfl hK hP hD hS hA (nz_i 200) (by decide) (by decide) (Nat.le_of_ble_eq_true rfl) (Nat.le_of_ble_eq_true rfl) (Nat.le_of_ble_eq_true rfl) d_GR_init_26 (fun q26 cA H hK9 hP hD hS => ?_)
  obtain rfl : cI = cA := Option.some.inj (((hK.2 1 _ rfl).2).symm.trans ((hK9.2 2 _ rfl).2))
  refine W.widen (k := 3) (n := 600) (Nat.le_refl _) (Nat.le_refl _) ?_
  have hP : va_P D vwCl [(a0, .inr (7, [.null, .null, .null, .ref q8, .ref q17, .null, .null, .null, .int 0, .null, .int 0, .long 0])), (q8, .inl (cI, 200, .inl (fun _ => 0))), (q17, .inl (cI, 200, .inl (fun _ => 0))), (q26, .inl (cI, 200, .inl (fun _ => 0)))] H := hP
  have hD : va_D A [(a0, .inr (7, [.null, .null, .null, .ref q8, .ref q17, .null, .null, .null, .int 0, .null, .int 0, .long 0])), (q8, .inl (cI, 200, .inl (fun _ => 0))), (q17, .inl (cI, 200, .inl (fun _ => 0))), (q26, .inl (cI, 200, .inl (fun _ => 0)))] := hD
  refine va_putF (D := D) (ci := 7) (v := .ref q26) (ty := .array .int) (C := R_GR) (T := T_GR) (N := 12) hx hb hT u_GR ty_GR tyok_GR nm_GR hown hK hP hD hS 0 rfl rfl 5 (by decide) (hT _ k_217) (fun _ h9 => h9) rfl hin rfl (by decide +kernel) rfl rfl (Nat.le_of_ble_eq_true rfl) d_GR_init_28 (fun H locs hP hD hS => ?_)
  have hP : va_P D vwCl [(a0, .inr (7, [.null, .null, .null, .ref q8, .ref q17, .ref q26, .null, .null, .int 0, .null, .int 0, .long 0])), (q8, .inl (cI, 200, .inl (fun _ => 0))), (q17, .inl (cI, 200, .inl (fun _ => 0))), (q26, .inl (cI, 200, .inl (fun _ => 0)))] H := hP
  have hD : va_D A [(a0, .inr (7, [.null, .null, .null, .ref q8, .ref q17, .ref q26, .null, .null, .int 0, .null, .int 0, .long 0])), (q8, .inl (cI, 200, .inl (fun _ => 0))), (q17, .inl (cI, 200, .inl (fun _ => 0))), (q26, .inl (cI, 200, .inl (fun _ => 0)))] := hD
  refine lv_aload_n hx hb d_GR_init_31 rfl (lv_at hl 0 rfl) ?_
  refine lv_sipush (v := 200) hx hb d_GR_init_32 (by decide) ?_
  refine va_newa (atype := .int) (a0 := (200, .inl (fun _ => 0))) hx hb (hT _ k_107) rfl hK hP hD hS hA (nz_i 200) (by decide) (by decide) (Nat.le_of_ble_eq_true rfl) (Nat.le_of_ble_eq_true rfl) (Nat.le_of_ble_eq_true rfl) d_GR_init_35 (fun q35 cA H hK9 hP hD hS => ?_)
  obtain rfl : cI = cA := Option.some.inj (((hK.2 1 _ rfl).2).symm.trans ((hK9.2 2 _ rfl).2))
  refine W.widen (k := 4) (n := 800) (Nat.le_refl _) (Nat.le_refl _) ?_
  have hP : va_P D vwCl [(a0, .inr (7, [.null, .null, .null, .ref q8, .ref q17, .ref q26, .null, .null, .int 0, .null, .int 0, .long 0])), (q8, .inl (cI, 200, .inl (fun _ => 0))), (q17, .inl (cI, 200, .inl (fun _ => 0))), (q26, .inl (cI, 200, .inl (fun _ => 0))), (q35, .inl (cI, 200, .inl (fun _ => 0)))] H := hP
  have hD : va_D A [(a0, .inr (7, [.null, .null, .null, .ref q8, .ref q17, .ref q26, .null, .null, .int 0, .null, .int 0, .long 0])), (q8, .inl (cI, 200, .inl (fun _ => 0))), (q17, .inl (cI, 200, .inl (fun _ => 0))), (q26, .inl (cI, 200, .inl (fun _ => 0))), (q35, .inl (cI, 200, .inl (fun _ => 0)))] := hD
  refine va_putF (D := D) (ci := 7) (v := .ref q35) (ty := .array .int) (C := R_GR) (T := T_GR) (N := 12) hx hb hT u_GR ty_GR tyok_GR nm_GR hown hK hP hD hS 0 rfl rfl 6 (by decide) (hT _ k_218) (fun _ h9 => h9) rfl hin rfl (by decide +kernel) rfl rfl (Nat.le_of_ble_eq_true rfl) d_GR_init_37 (fun H locs hP hD hS => ?_)
  have hP : va_P D vwCl [(a0, .inr (7, [.null, .null, .null, .ref q8, .ref q17, .ref q26, .ref q35, .null, .int 0, .null, .int 0, .long 0])), (q8, .inl (cI, 200, .inl (fun _ => 0))), (q17, .inl (cI, 200, .inl (fun _ => 0))), (q26, .inl (cI, 200, .inl (fun _ => 0))), (q35, .inl (cI, 200, .inl (fun _ => 0)))] H := hP
  have hD : va_D A [(a0, .inr (7, [.null, .null, .null, .ref q8, .ref q17, .ref q26, .ref q35, .null, .int 0, .null, .int 0, .long 0])), (q8, .inl (cI, 200, .inl (fun _ => 0))), (q17, .inl (cI, 200, .inl (fun _ => 0))), (q26, .inl (cI, 200, .inl (fun _ => 0))), (q35, .inl (cI, 200, .inl (fun _ => 0)))] := hD
  refine lv_aload_n hx hb d_GR_init_40 rfl (lv_at hl 0 rfl) ?_
  refine lv_sipush (v := 200) hx hb d_GR_init_41 (by decide) ?_
  refine va_newa (atype := .int) (a0 := (200, .inl (fun _ => 0))) hx hb (hT _ k_107) rfl hK hP hD hS hA (nz_i 200) (by decide) (by decide) (Nat.le_of_ble_eq_true rfl) (Nat.le_of_ble_eq_true rfl) (Nat.le_of_ble_eq_true rfl) d_GR_init_44 (fun q44 cA H hK9 hP hD hS => ?_)
  obtain rfl : cI = cA := Option.some.inj (((hK.2 1 _ rfl).2).symm.trans ((hK9.2 2 _ rfl).2))
  refine W.widen (k := 5) (n := 1000) (Nat.le_refl _) (Nat.le_refl _) ?_
  have hP : va_P D vwCl [(a0, .inr (7, [.null, .null, .null, .ref q8, .ref q17, .ref q26, .ref q35, .null, .int 0, .null, .int 0, .long 0])), (q8, .inl (cI, 200, .inl (fun _ => 0))), (q17, .inl (cI, 200, .inl (fun _ => 0))), (q26, .inl (cI, 200, .inl (fun _ => 0))), (q35, .inl (cI, 200, .inl (fun _ => 0))), (q44, .inl (cI, 200, .inl (fun _ => 0)))] H := hP
  have hD : va_D A [(a0, .inr (7, [.null, .null, .null, .ref q8, .ref q17, .ref q26, .ref q35, .null, .int 0, .null, .int 0, .long 0])), (q8, .inl (cI, 200, .inl (fun _ => 0))), (q17, .inl (cI, 200, .inl (fun _ => 0))), (q26, .inl (cI, 200, .inl (fun _ => 0))), (q35, .inl (cI, 200, .inl (fun _ => 0))), (q44, .inl (cI, 200, .inl (fun _ => 0)))] := hD
  refine va_putF (D := D) (ci := 7) (v := .ref q44) (ty := .array .int) (C := R_GR) (T := T_GR) (N := 12) hx hb hT u_GR ty_GR tyok_GR nm_GR hown hK hP hD hS 0 rfl rfl 7 (by decide) (hT _ k_219) (fun _ h9 => h9) rfl hin rfl (by decide +kernel) rfl rfl (Nat.le_of_ble_eq_true rfl) d_GR_init_46 (fun H locs hP hD hS => ?_)
  have hP : va_P D vwCl [(a0, .inr (7, [.null, .null, .null, .ref q8, .ref q17, .ref q26, .ref q35, .ref q44, .int 0, .null, .int 0, .long 0])), (q8, .inl (cI, 200, .inl (fun _ => 0))), (q17, .inl (cI, 200, .inl (fun _ => 0))), (q26, .inl (cI, 200, .inl (fun _ => 0))), (q35, .inl (cI, 200, .inl (fun _ => 0))), (q44, .inl (cI, 200, .inl (fun _ => 0)))] H := hP
  have hD : va_D A [(a0, .inr (7, [.null, .null, .null, .ref q8, .ref q17, .ref q26, .ref q35, .ref q44, .int 0, .null, .int 0, .long 0])), (q8, .inl (cI, 200, .inl (fun _ => 0))), (q17, .inl (cI, 200, .inl (fun _ => 0))), (q26, .inl (cI, 200, .inl (fun _ => 0))), (q35, .inl (cI, 200, .inl (fun _ => 0))), (q44, .inl (cI, 200, .inl (fun _ => 0)))] := hD
  refine lv_aload_n hx hb d_GR_init_49 rfl (lv_at hl 0 rfl) ?_
  refine lv_sipush (v := 200) hx hb d_GR_init_50 (by decide) ?_
  refine va_newa (atype := .int) (a0 := (200, .inl (fun _ => 0))) hx hb (hT _ k_107) rfl hK hP hD hS hA (nz_i 200) (by decide) (by decide) (Nat.le_of_ble_eq_true rfl) (Nat.le_of_ble_eq_true rfl) (Nat.le_of_ble_eq_true rfl) d_GR_init_53 (fun q53 cA H hK9 hP hD hS => ?_)
  obtain rfl : cI = cA := Option.some.inj (((hK.2 1 _ rfl).2).symm.trans ((hK9.2 2 _ rfl).2))
  refine W.widen (k := 6) (n := 1200) (Nat.le_refl _) (Nat.le_refl _) ?_
  have hP : va_P D vwCl [(a0, .inr (7, [.null, .null, .null, .ref q8, .ref q17, .ref q26, .ref q35, .ref q44, .int 0, .null, .int 0, .long 0])), (q8, .inl (cI, 200, .inl (fun _ => 0))), (q17, .inl (cI, 200, .inl (fun _ => 0))), (q26, .inl (cI, 200, .inl (fun _ => 0))), (q35, .inl (cI, 200, .inl (fun _ => 0))), (q44, .inl (cI, 200, .inl (fun _ => 0))), (q53, .inl (cI, 200, .inl (fun _ => 0)))] H := hP
  have hD : va_D A [(a0, .inr (7, [.null, .null, .null, .ref q8, .ref q17, .ref q26, .ref q35, .ref q44, .int 0, .null, .int 0, .long 0])), (q8, .inl (cI, 200, .inl (fun _ => 0))), (q17, .inl (cI, 200, .inl (fun _ => 0))), (q26, .inl (cI, 200, .inl (fun _ => 0))), (q35, .inl (cI, 200, .inl (fun _ => 0))), (q44, .inl (cI, 200, .inl (fun _ => 0))), (q53, .inl (cI, 200, .inl (fun _ => 0)))] := hD
  refine va_putF (D := D) (ci := 7) (v := .ref q53) (ty := .array .int) (C := R_GR) (T := T_GR) (N := 12) hx hb hT u_GR ty_GR tyok_GR nm_GR hown hK hP hD hS 0 rfl rfl 9 (by decide) (hT _ k_221) (fun _ h9 => h9) rfl hin rfl (by decide +kernel) rfl rfl (Nat.le_of_ble_eq_true rfl) d_GR_init_55 (fun H locs hP hD hS => ?_)
  have hP : va_P D vwCl [(a0, .inr (7, [.null, .null, .null, .ref q8, .ref q17, .ref q26, .ref q35, .ref q44, .int 0, .ref q53, .int 0, .long 0])), (q8, .inl (cI, 200, .inl (fun _ => 0))), (q17, .inl (cI, 200, .inl (fun _ => 0))), (q26, .inl (cI, 200, .inl (fun _ => 0))), (q35, .inl (cI, 200, .inl (fun _ => 0))), (q44, .inl (cI, 200, .inl (fun _ => 0))), (q53, .inl (cI, 200, .inl (fun _ => 0)))] H := hP
  have hD : va_D A [(a0, .inr (7, [.null, .null, .null, .ref q8, .ref q17, .ref q26, .ref q35, .ref q44, .int 0, .ref q53, .int 0, .long 0])), (q8, .inl (cI, 200, .inl (fun _ => 0))), (q17, .inl (cI, 200, .inl (fun _ => 0))), (q26, .inl (cI, 200, .inl (fun _ => 0))), (q35, .inl (cI, 200, .inl (fun _ => 0))), (q44, .inl (cI, 200, .inl (fun _ => 0))), (q53, .inl (cI, 200, .inl (fun _ => 0)))] := hD
  refine lv_aload_n hx hb d_GR_init_58 rfl (lv_at hl 0 rfl) ?_
  refine lv_aload_n hx hb d_GR_init_59 rfl (lv_at hl 1 rfl) ?_
  refine va_putF (D := D) (ci := 7) (v := .ref aS) (ty := .object "PipelineBelt$Store") (C := R_GR) (T := T_GR) (N := 12) hx hb hT u_GR ty_GR tyok_GR nm_GR hown hK hP hD hS 0 rfl rfl 0 (by decide) (hT _ k_212) (fun _ h9 => h9) rfl hin rfl (by decide +kernel) rfl rfl (Nat.le_of_ble_eq_true rfl) d_GR_init_60 (fun H locs hP hD hS => ?_)
  have hP : va_P D vwCl [(a0, .inr (7, [.ref aS, .null, .null, .ref q8, .ref q17, .ref q26, .ref q35, .ref q44, .int 0, .ref q53, .int 0, .long 0])), (q8, .inl (cI, 200, .inl (fun _ => 0))), (q17, .inl (cI, 200, .inl (fun _ => 0))), (q26, .inl (cI, 200, .inl (fun _ => 0))), (q35, .inl (cI, 200, .inl (fun _ => 0))), (q44, .inl (cI, 200, .inl (fun _ => 0))), (q53, .inl (cI, 200, .inl (fun _ => 0)))] H := hP
  have hD : va_D A [(a0, .inr (7, [.ref aS, .null, .null, .ref q8, .ref q17, .ref q26, .ref q35, .ref q44, .int 0, .ref q53, .int 0, .long 0])), (q8, .inl (cI, 200, .inl (fun _ => 0))), (q17, .inl (cI, 200, .inl (fun _ => 0))), (q26, .inl (cI, 200, .inl (fun _ => 0))), (q35, .inl (cI, 200, .inl (fun _ => 0))), (q44, .inl (cI, 200, .inl (fun _ => 0))), (q53, .inl (cI, 200, .inl (fun _ => 0)))] := hD
  refine lv_aload_n hx hb d_GR_init_63 rfl (lv_at hl 0 rfl) ?_
  refine lv_aload_n hx hb d_GR_init_64 rfl (lv_at hl 2 rfl) ?_
  refine va_putF (D := D) (ci := 7) (v := .ref aY) (ty := .object "PipelineBelt$Belts") (C := R_GR) (T := T_GR) (N := 12) hx hb hT u_GR ty_GR tyok_GR nm_GR hown hK hP hD hS 0 rfl rfl 1 (by decide) (hT _ k_213) (fun _ h9 => h9) rfl hin rfl (by decide +kernel) rfl rfl (Nat.le_of_ble_eq_true rfl) d_GR_init_65 (fun H locs hP hD hS => ?_)
  have hP : va_P D vwCl [(a0, .inr (7, [.ref aS, .ref aY, .null, .ref q8, .ref q17, .ref q26, .ref q35, .ref q44, .int 0, .ref q53, .int 0, .long 0])), (q8, .inl (cI, 200, .inl (fun _ => 0))), (q17, .inl (cI, 200, .inl (fun _ => 0))), (q26, .inl (cI, 200, .inl (fun _ => 0))), (q35, .inl (cI, 200, .inl (fun _ => 0))), (q44, .inl (cI, 200, .inl (fun _ => 0))), (q53, .inl (cI, 200, .inl (fun _ => 0)))] H := hP
  have hD : va_D A [(a0, .inr (7, [.ref aS, .ref aY, .null, .ref q8, .ref q17, .ref q26, .ref q35, .ref q44, .int 0, .ref q53, .int 0, .long 0])), (q8, .inl (cI, 200, .inl (fun _ => 0))), (q17, .inl (cI, 200, .inl (fun _ => 0))), (q26, .inl (cI, 200, .inl (fun _ => 0))), (q35, .inl (cI, 200, .inl (fun _ => 0))), (q44, .inl (cI, 200, .inl (fun _ => 0))), (q53, .inl (cI, 200, .inl (fun _ => 0)))] := hD
  refine lv_aload_n hx hb d_GR_init_68 rfl (lv_at hl 0 rfl) ?_
  refine lv_aload_n hx hb d_GR_init_69 rfl (lv_at hl 3 rfl) ?_
  refine va_putF (D := D) (ci := 7) (v := .ref aP) (ty := .object "PipelineBelt$Path") (C := R_GR) (T := T_GR) (N := 12) hx hb hT u_GR ty_GR tyok_GR nm_GR hown hK hP hD hS 0 rfl rfl 2 (by decide) (hT _ k_214) (fun _ h9 => h9) rfl hin rfl (by decide +kernel) rfl rfl (Nat.le_of_ble_eq_true rfl) d_GR_init_70 (fun H locs hP hD hS => ?_)
  have hP : va_P D vwCl [(a0, .inr (7, [.ref aS, .ref aY, .ref aP, .ref q8, .ref q17, .ref q26, .ref q35, .ref q44, .int 0, .ref q53, .int 0, .long 0])), (q8, .inl (cI, 200, .inl (fun _ => 0))), (q17, .inl (cI, 200, .inl (fun _ => 0))), (q26, .inl (cI, 200, .inl (fun _ => 0))), (q35, .inl (cI, 200, .inl (fun _ => 0))), (q44, .inl (cI, 200, .inl (fun _ => 0))), (q53, .inl (cI, 200, .inl (fun _ => 0)))] H := hP
  have hD : va_D A [(a0, .inr (7, [.ref aS, .ref aY, .ref aP, .ref q8, .ref q17, .ref q26, .ref q35, .ref q44, .int 0, .ref q53, .int 0, .long 0])), (q8, .inl (cI, 200, .inl (fun _ => 0))), (q17, .inl (cI, 200, .inl (fun _ => 0))), (q26, .inl (cI, 200, .inl (fun _ => 0))), (q35, .inl (cI, 200, .inl (fun _ => 0))), (q44, .inl (cI, 200, .inl (fun _ => 0))), (q53, .inl (cI, 200, .inl (fun _ => 0)))] := hD
  exact W.vret hx hb hr (fun t ht hW => ⟨⟨(), rfl, trivial, q8, q17, q26, q35, q44, q53, by rw [ht]; exact hP, hD⟩, hS.F ht⟩) hS.2.2 d_GR_init_73
set_option maxHeartbeats 4000000 in
set_option maxRecDepth 100000 in
theorem c_SO_init (l : Launch) (D : va_G) (cB cI : ClassId) (a0 : Nat) (aS : Nat) (aY : Nat) (aP : Nat) (sz : Nat) : Met l y_SO_init mw_SO_init { frames := 1, cells := 7, slots := 1008, locals := 12 } (va_Pc [.ref a0, .ref aS, .ref aY, .ref aP] (mt_I D cB cI [(a0, .inr (8, [.null, .null, .null, .null, .null, .null, .int 0]))] sz)) (va_Qv (fun (_ : Unit) => True) (fun _ t => ∃ (q9_0 q9_1 q9_2 q9_3 q9_4 q18 q27 : Nat), va_P D vwCl [(a0, .inr (8, [.ref aS, .ref aY, .ref aP, .ref q9_0, .ref q18, .ref q27, .int 0])), (q9_0, .inl ((D.1 100), 4, .inr (.inr (.inr (.inr (fun j => if j = 0 then some q9_1 else if j = 1 then some q9_2 else if j = 2 then some q9_3 else some q9_4)))))), (q9_1, .inl (cI, 200, .inl (fun _ => 0))), (q9_2, .inl (cI, 200, .inl (fun _ => 0))), (q9_3, .inl (cI, 200, .inl (fun _ => 0))), (q9_4, .inl (cI, 200, .inl (fun _ => 0))), (q18, .inl (cI, 4, .inl (fun _ => 0))), (q27, .inl (cI, 200, .inl (fun _ => 0)))] t.heap ∧ va_D (va_A [(a0, .inr (8, [.null, .null, .null, .null, .null, .null, .int 0]))] sz) [(a0, .inr (8, [.ref aS, .ref aY, .ref aP, .ref q9_0, .ref q18, .ref q27, .int 0])), (q9_0, .inl ((D.1 100), 4, .inr (.inr (.inr (.inr (fun j => if j = 0 then some q9_1 else if j = 1 then some q9_2 else if j = 2 then some q9_3 else some q9_4)))))), (q9_1, .inl (cI, 200, .inl (fun _ => 0))), (q9_2, .inl (cI, 200, .inl (fun _ => 0))), (q9_3, .inl (cI, 200, .inl (fun _ => 0))), (q9_4, .inl (cI, 200, .inl (fun _ => 0))), (q18, .inl (cI, 4, .inl (fun _ => 0))), (q27, .inl (cI, 200, .inl (fun _ => 0)))]) (va_A [(a0, .inr (8, [.null, .null, .null, .null, .null, .null, .int 0]))] sz)) 7 1008 (va_A [(a0, .inr (8, [.null, .null, .null, .null, .null, .null, .int 0]))] sz) := by
  refine Met.ofW (cc := b_SO_init) (maxL := 4) (ret := none) (by decide) rfl ?_
  intro p e s m args below meth c s₁ B0 hml hv
  obtain ⟨rfl, ⟨hsz, hP, hk, hD0⟩, hxk⟩ := hv
  have hK := hk.1
  have hx := B0.exec
  have hb := B0.bytes
  have hr := B0.returns
  have hT : ∀ w ∈ lw_g, w.before _ s = true := fun w h => atoms_spec (ws := mw_SO_init) B0.pre w (List.mem_cons_of_mem _ h)
  have hown : s.vm.findClass R_SO = some m.cls := findClass_of_methodNamed B0.named
  have hlocks := B0.notSynchronized
  have hin : meth.name = "<init>" := (name_of_methodNamed B0.named B0.method).1
  subst hsz
  have hD := hD0.self (sz := s.heap.size)
  generalize hAe : va_A [(a0, .inr (8, [.null, .null, .null, .null, .null, .null, .int 0]))] s.heap.size = A at hD ⊢
  have hA : ∀ q : Nat, s.heap.size ≤ q → A q := fun q h => by rw [← hAe]; exact Or.inr h
  have hS : va_S A s.heap s.heap [] := va_S.rf
  have hl := lv_entry ([.ref a0, .ref aS, .ref aY, .ref aP]) (n := 4) (Nat.le_of_ble_eq_true rfl)
  rw [lg_entry_eq]
  generalize (lg_sl ([.ref a0, .ref aS, .ref aY, .ref aP]) ++ List.replicate (4 - (lg_sl ([.ref a0, .ref aS, .ref aY, .ref aP])).length) Slot.unset).toArray = ls at hl ⊢
  have hl : lv_has ls 4 [(0, .ref a0), (1, .ref aS), (2, .ref aY), (3, .ref aP)] := hl
  refine lv_aload_n hx hb d_SO_init_0 rfl (lv_at hl 0 rfl) ?_
  refine W.objInit hx hb hown (hT _ k_254) (hT _ k_28) (hT _ kc_JO_init) rfl (by rw [hml]; exact hl.1) rfl d_SO_init_1 (Nat.le_of_ble_eq_true rfl) (Nat.le_of_ble_eq_true rfl) ?_
  refine W.eq (g2 := F0 m 4 ls []) rfl ?_
  refine lv_aload_n hx hb d_SO_init_4 rfl (lv_at hl 0 rfl) ?_
  refine lv_iconst (v := 4) hx hb d_SO_init_5 (by decide) ?_
  refine lv_sipush (v := 200) hx hb d_SO_init_6 (by decide) ?_
  refine va_mul (cJ := D.1 100) (cI := cI) hx hb hown (hT _ k_255) hxk.2.2 (hT _ k_107) hP hD hS hA hxk.2.1 ((hK.2 1 _ rfl).2) (Nat.le_of_ble_eq_true rfl) (Nat.le_of_ble_eq_true rfl) d_SO_init_9 (fun q9_0 q9_1 q9_2 q9_3 q9_4 H locs hP hD hS => ?_)
  refine W.widen (k := 5) (n := 804) (Nat.le_refl _) (Nat.le_refl _) ?_
  have hP : va_P D vwCl [(a0, .inr (8, [.null, .null, .null, .null, .null, .null, .int 0])), (q9_0, .inl ((D.1 100), 4, .inr (.inr (.inr (.inr (fun j => if j = 0 then some q9_1 else if j = 1 then some q9_2 else if j = 2 then some q9_3 else some q9_4)))))), (q9_1, .inl (cI, 200, .inl (fun _ => 0))), (q9_2, .inl (cI, 200, .inl (fun _ => 0))), (q9_3, .inl (cI, 200, .inl (fun _ => 0))), (q9_4, .inl (cI, 200, .inl (fun _ => 0)))] H := hP
  have hD : va_D A [(a0, .inr (8, [.null, .null, .null, .null, .null, .null, .int 0])), (q9_0, .inl ((D.1 100), 4, .inr (.inr (.inr (.inr (fun j => if j = 0 then some q9_1 else if j = 1 then some q9_2 else if j = 2 then some q9_3 else some q9_4)))))), (q9_1, .inl (cI, 200, .inl (fun _ => 0))), (q9_2, .inl (cI, 200, .inl (fun _ => 0))), (q9_3, .inl (cI, 200, .inl (fun _ => 0))), (q9_4, .inl (cI, 200, .inl (fun _ => 0)))] := hD
  refine va_putF (D := D) (ci := 8) (v := .ref q9_0) (ty := .array (.array .int)) (C := R_SO) (T := T_SO) (N := 7) hx hb hT u_SO ty_SO tyok_SO nm_SO hown hK hP hD hS 0 rfl rfl 3 (by decide) (hT _ k_260) (fun _ h9 => h9) rfl hin rfl (by decide +kernel) rfl rfl (Nat.le_of_ble_eq_true rfl) d_SO_init_13 (fun H locs hP hD hS => ?_)
  have hP : va_P D vwCl [(a0, .inr (8, [.null, .null, .null, .ref q9_0, .null, .null, .int 0])), (q9_0, .inl ((D.1 100), 4, .inr (.inr (.inr (.inr (fun j => if j = 0 then some q9_1 else if j = 1 then some q9_2 else if j = 2 then some q9_3 else some q9_4)))))), (q9_1, .inl (cI, 200, .inl (fun _ => 0))), (q9_2, .inl (cI, 200, .inl (fun _ => 0))), (q9_3, .inl (cI, 200, .inl (fun _ => 0))), (q9_4, .inl (cI, 200, .inl (fun _ => 0)))] H := hP
  have hD : va_D A [(a0, .inr (8, [.null, .null, .null, .ref q9_0, .null, .null, .int 0])), (q9_0, .inl ((D.1 100), 4, .inr (.inr (.inr (.inr (fun j => if j = 0 then some q9_1 else if j = 1 then some q9_2 else if j = 2 then some q9_3 else some q9_4)))))), (q9_1, .inl (cI, 200, .inl (fun _ => 0))), (q9_2, .inl (cI, 200, .inl (fun _ => 0))), (q9_3, .inl (cI, 200, .inl (fun _ => 0))), (q9_4, .inl (cI, 200, .inl (fun _ => 0)))] := hD
  refine lv_aload_n hx hb d_SO_init_16 rfl (lv_at hl 0 rfl) ?_
  refine lv_iconst (v := 4) hx hb d_SO_init_17 (by decide) ?_
  refine va_newa (atype := .int) (a0 := (4, .inl (fun _ => 0))) hx hb (hT _ k_107) rfl hK hP hD hS hA (nz_i 4) (by decide) (by decide) (Nat.le_of_ble_eq_true rfl) (Nat.le_of_ble_eq_true rfl) (Nat.le_of_ble_eq_true rfl) d_SO_init_18 (fun q18 cA H hK9 hP hD hS => ?_)
  obtain rfl : cI = cA := Option.some.inj (((hK.2 1 _ rfl).2).symm.trans ((hK9.2 2 _ rfl).2))
  refine W.widen (k := 6) (n := 808) (Nat.le_refl _) (Nat.le_refl _) ?_
  have hP : va_P D vwCl [(a0, .inr (8, [.null, .null, .null, .ref q9_0, .null, .null, .int 0])), (q9_0, .inl ((D.1 100), 4, .inr (.inr (.inr (.inr (fun j => if j = 0 then some q9_1 else if j = 1 then some q9_2 else if j = 2 then some q9_3 else some q9_4)))))), (q9_1, .inl (cI, 200, .inl (fun _ => 0))), (q9_2, .inl (cI, 200, .inl (fun _ => 0))), (q9_3, .inl (cI, 200, .inl (fun _ => 0))), (q9_4, .inl (cI, 200, .inl (fun _ => 0))), (q18, .inl (cI, 4, .inl (fun _ => 0)))] H := hP
  have hD : va_D A [(a0, .inr (8, [.null, .null, .null, .ref q9_0, .null, .null, .int 0])), (q9_0, .inl ((D.1 100), 4, .inr (.inr (.inr (.inr (fun j => if j = 0 then some q9_1 else if j = 1 then some q9_2 else if j = 2 then some q9_3 else some q9_4)))))), (q9_1, .inl (cI, 200, .inl (fun _ => 0))), (q9_2, .inl (cI, 200, .inl (fun _ => 0))), (q9_3, .inl (cI, 200, .inl (fun _ => 0))), (q9_4, .inl (cI, 200, .inl (fun _ => 0))), (q18, .inl (cI, 4, .inl (fun _ => 0)))] := hD
  refine va_putF (D := D) (ci := 8) (v := .ref q18) (ty := .array .int) (C := R_SO) (T := T_SO) (N := 7) hx hb hT u_SO ty_SO tyok_SO nm_SO hown hK hP hD hS 0 rfl rfl 4 (by decide) (hT _ k_261) (fun _ h9 => h9) rfl hin rfl (by decide +kernel) rfl rfl (Nat.le_of_ble_eq_true rfl) d_SO_init_20 (fun H locs hP hD hS => ?_)
  have hP : va_P D vwCl [(a0, .inr (8, [.null, .null, .null, .ref q9_0, .ref q18, .null, .int 0])), (q9_0, .inl ((D.1 100), 4, .inr (.inr (.inr (.inr (fun j => if j = 0 then some q9_1 else if j = 1 then some q9_2 else if j = 2 then some q9_3 else some q9_4)))))), (q9_1, .inl (cI, 200, .inl (fun _ => 0))), (q9_2, .inl (cI, 200, .inl (fun _ => 0))), (q9_3, .inl (cI, 200, .inl (fun _ => 0))), (q9_4, .inl (cI, 200, .inl (fun _ => 0))), (q18, .inl (cI, 4, .inl (fun _ => 0)))] H := hP
  have hD : va_D A [(a0, .inr (8, [.null, .null, .null, .ref q9_0, .ref q18, .null, .int 0])), (q9_0, .inl ((D.1 100), 4, .inr (.inr (.inr (.inr (fun j => if j = 0 then some q9_1 else if j = 1 then some q9_2 else if j = 2 then some q9_3 else some q9_4)))))), (q9_1, .inl (cI, 200, .inl (fun _ => 0))), (q9_2, .inl (cI, 200, .inl (fun _ => 0))), (q9_3, .inl (cI, 200, .inl (fun _ => 0))), (q9_4, .inl (cI, 200, .inl (fun _ => 0))), (q18, .inl (cI, 4, .inl (fun _ => 0)))] := hD
  refine lv_aload_n hx hb d_SO_init_23 rfl (lv_at hl 0 rfl) ?_
  refine lv_sipush (v := 200) hx hb d_SO_init_24 (by decide) ?_
  refine va_newa (atype := .int) (a0 := (200, .inl (fun _ => 0))) hx hb (hT _ k_107) rfl hK hP hD hS hA (nz_i 200) (by decide) (by decide) (Nat.le_of_ble_eq_true rfl) (Nat.le_of_ble_eq_true rfl) (Nat.le_of_ble_eq_true rfl) d_SO_init_27 (fun q27 cA H hK9 hP hD hS => ?_)
  obtain rfl : cI = cA := Option.some.inj (((hK.2 1 _ rfl).2).symm.trans ((hK9.2 2 _ rfl).2))
  refine W.widen (k := 7) (n := 1008) (Nat.le_refl _) (Nat.le_refl _) ?_
  have hP : va_P D vwCl [(a0, .inr (8, [.null, .null, .null, .ref q9_0, .ref q18, .null, .int 0])), (q9_0, .inl ((D.1 100), 4, .inr (.inr (.inr (.inr (fun j => if j = 0 then some q9_1 else if j = 1 then some q9_2 else if j = 2 then some q9_3 else some q9_4)))))), (q9_1, .inl (cI, 200, .inl (fun _ => 0))), (q9_2, .inl (cI, 200, .inl (fun _ => 0))), (q9_3, .inl (cI, 200, .inl (fun _ => 0))), (q9_4, .inl (cI, 200, .inl (fun _ => 0))), (q18, .inl (cI, 4, .inl (fun _ => 0))), (q27, .inl (cI, 200, .inl (fun _ => 0)))] H := hP
  have hD : va_D A [(a0, .inr (8, [.null, .null, .null, .ref q9_0, .ref q18, .null, .int 0])), (q9_0, .inl ((D.1 100), 4, .inr (.inr (.inr (.inr (fun j => if j = 0 then some q9_1 else if j = 1 then some q9_2 else if j = 2 then some q9_3 else some q9_4)))))), (q9_1, .inl (cI, 200, .inl (fun _ => 0))), (q9_2, .inl (cI, 200, .inl (fun _ => 0))), (q9_3, .inl (cI, 200, .inl (fun _ => 0))), (q9_4, .inl (cI, 200, .inl (fun _ => 0))), (q18, .inl (cI, 4, .inl (fun _ => 0))), (q27, .inl (cI, 200, .inl (fun _ => 0)))] := hD
  refine va_putF (D := D) (ci := 8) (v := .ref q27) (ty := .array .int) (C := R_SO) (T := T_SO) (N := 7) hx hb hT u_SO ty_SO tyok_SO nm_SO hown hK hP hD hS 0 rfl rfl 5 (by decide) (hT _ k_262) (fun _ h9 => h9) rfl hin rfl (by decide +kernel) rfl rfl (Nat.le_of_ble_eq_true rfl) d_SO_init_29 (fun H locs hP hD hS => ?_)
  have hP : va_P D vwCl [(a0, .inr (8, [.null, .null, .null, .ref q9_0, .ref q18, .ref q27, .int 0])), (q9_0, .inl ((D.1 100), 4, .inr (.inr (.inr (.inr (fun j => if j = 0 then some q9_1 else if j = 1 then some q9_2 else if j = 2 then some q9_3 else some q9_4)))))), (q9_1, .inl (cI, 200, .inl (fun _ => 0))), (q9_2, .inl (cI, 200, .inl (fun _ => 0))), (q9_3, .inl (cI, 200, .inl (fun _ => 0))), (q9_4, .inl (cI, 200, .inl (fun _ => 0))), (q18, .inl (cI, 4, .inl (fun _ => 0))), (q27, .inl (cI, 200, .inl (fun _ => 0)))] H := hP
  have hD : va_D A [(a0, .inr (8, [.null, .null, .null, .ref q9_0, .ref q18, .ref q27, .int 0])), (q9_0, .inl ((D.1 100), 4, .inr (.inr (.inr (.inr (fun j => if j = 0 then some q9_1 else if j = 1 then some q9_2 else if j = 2 then some q9_3 else some q9_4)))))), (q9_1, .inl (cI, 200, .inl (fun _ => 0))), (q9_2, .inl (cI, 200, .inl (fun _ => 0))), (q9_3, .inl (cI, 200, .inl (fun _ => 0))), (q9_4, .inl (cI, 200, .inl (fun _ => 0))), (q18, .inl (cI, 4, .inl (fun _ => 0))), (q27, .inl (cI, 200, .inl (fun _ => 0)))] := hD
  refine lv_aload_n hx hb d_SO_init_32 rfl (lv_at hl 0 rfl) ?_
  refine lv_aload_n hx hb d_SO_init_33 rfl (lv_at hl 1 rfl) ?_
  refine va_putF (D := D) (ci := 8) (v := .ref aS) (ty := .object "PipelineBelt$Store") (C := R_SO) (T := T_SO) (N := 7) hx hb hT u_SO ty_SO tyok_SO nm_SO hown hK hP hD hS 0 rfl rfl 0 (by decide) (hT _ k_257) (fun _ h9 => h9) rfl hin rfl (by decide +kernel) rfl rfl (Nat.le_of_ble_eq_true rfl) d_SO_init_34 (fun H locs hP hD hS => ?_)
  have hP : va_P D vwCl [(a0, .inr (8, [.ref aS, .null, .null, .ref q9_0, .ref q18, .ref q27, .int 0])), (q9_0, .inl ((D.1 100), 4, .inr (.inr (.inr (.inr (fun j => if j = 0 then some q9_1 else if j = 1 then some q9_2 else if j = 2 then some q9_3 else some q9_4)))))), (q9_1, .inl (cI, 200, .inl (fun _ => 0))), (q9_2, .inl (cI, 200, .inl (fun _ => 0))), (q9_3, .inl (cI, 200, .inl (fun _ => 0))), (q9_4, .inl (cI, 200, .inl (fun _ => 0))), (q18, .inl (cI, 4, .inl (fun _ => 0))), (q27, .inl (cI, 200, .inl (fun _ => 0)))] H := hP
  have hD : va_D A [(a0, .inr (8, [.ref aS, .null, .null, .ref q9_0, .ref q18, .ref q27, .int 0])), (q9_0, .inl ((D.1 100), 4, .inr (.inr (.inr (.inr (fun j => if j = 0 then some q9_1 else if j = 1 then some q9_2 else if j = 2 then some q9_3 else some q9_4)))))), (q9_1, .inl (cI, 200, .inl (fun _ => 0))), (q9_2, .inl (cI, 200, .inl (fun _ => 0))), (q9_3, .inl (cI, 200, .inl (fun _ => 0))), (q9_4, .inl (cI, 200, .inl (fun _ => 0))), (q18, .inl (cI, 4, .inl (fun _ => 0))), (q27, .inl (cI, 200, .inl (fun _ => 0)))] := hD
  refine lv_aload_n hx hb d_SO_init_37 rfl (lv_at hl 0 rfl) ?_
  refine lv_aload_n hx hb d_SO_init_38 rfl (lv_at hl 2 rfl) ?_
  refine va_putF (D := D) (ci := 8) (v := .ref aY) (ty := .object "PipelineBelt$Belts") (C := R_SO) (T := T_SO) (N := 7) hx hb hT u_SO ty_SO tyok_SO nm_SO hown hK hP hD hS 0 rfl rfl 1 (by decide) (hT _ k_258) (fun _ h9 => h9) rfl hin rfl (by decide +kernel) rfl rfl (Nat.le_of_ble_eq_true rfl) d_SO_init_39 (fun H locs hP hD hS => ?_)
  have hP : va_P D vwCl [(a0, .inr (8, [.ref aS, .ref aY, .null, .ref q9_0, .ref q18, .ref q27, .int 0])), (q9_0, .inl ((D.1 100), 4, .inr (.inr (.inr (.inr (fun j => if j = 0 then some q9_1 else if j = 1 then some q9_2 else if j = 2 then some q9_3 else some q9_4)))))), (q9_1, .inl (cI, 200, .inl (fun _ => 0))), (q9_2, .inl (cI, 200, .inl (fun _ => 0))), (q9_3, .inl (cI, 200, .inl (fun _ => 0))), (q9_4, .inl (cI, 200, .inl (fun _ => 0))), (q18, .inl (cI, 4, .inl (fun _ => 0))), (q27, .inl (cI, 200, .inl (fun _ => 0)))] H := hP
  have hD : va_D A [(a0, .inr (8, [.ref aS, .ref aY, .null, .ref q9_0, .ref q18, .ref q27, .int 0])), (q9_0, .inl ((D.1 100), 4, .inr (.inr (.inr (.inr (fun j => if j = 0 then some q9_1 else if j = 1 then some q9_2 else if j = 2 then some q9_3 else some q9_4)))))), (q9_1, .inl (cI, 200, .inl (fun _ => 0))), (q9_2, .inl (cI, 200, .inl (fun _ => 0))), (q9_3, .inl (cI, 200, .inl (fun _ => 0))), (q9_4, .inl (cI, 200, .inl (fun _ => 0))), (q18, .inl (cI, 4, .inl (fun _ => 0))), (q27, .inl (cI, 200, .inl (fun _ => 0)))] := hD
  refine lv_aload_n hx hb d_SO_init_42 rfl (lv_at hl 0 rfl) ?_
  refine lv_aload_n hx hb d_SO_init_43 rfl (lv_at hl 3 rfl) ?_
  refine va_putF (D := D) (ci := 8) (v := .ref aP) (ty := .object "PipelineBelt$Path") (C := R_SO) (T := T_SO) (N := 7) hx hb hT u_SO ty_SO tyok_SO nm_SO hown hK hP hD hS 0 rfl rfl 2 (by decide) (hT _ k_259) (fun _ h9 => h9) rfl hin rfl (by decide +kernel) rfl rfl (Nat.le_of_ble_eq_true rfl) d_SO_init_44 (fun H locs hP hD hS => ?_)
  have hP : va_P D vwCl [(a0, .inr (8, [.ref aS, .ref aY, .ref aP, .ref q9_0, .ref q18, .ref q27, .int 0])), (q9_0, .inl ((D.1 100), 4, .inr (.inr (.inr (.inr (fun j => if j = 0 then some q9_1 else if j = 1 then some q9_2 else if j = 2 then some q9_3 else some q9_4)))))), (q9_1, .inl (cI, 200, .inl (fun _ => 0))), (q9_2, .inl (cI, 200, .inl (fun _ => 0))), (q9_3, .inl (cI, 200, .inl (fun _ => 0))), (q9_4, .inl (cI, 200, .inl (fun _ => 0))), (q18, .inl (cI, 4, .inl (fun _ => 0))), (q27, .inl (cI, 200, .inl (fun _ => 0)))] H := hP
  have hD : va_D A [(a0, .inr (8, [.ref aS, .ref aY, .ref aP, .ref q9_0, .ref q18, .ref q27, .int 0])), (q9_0, .inl ((D.1 100), 4, .inr (.inr (.inr (.inr (fun j => if j = 0 then some q9_1 else if j = 1 then some q9_2 else if j = 2 then some q9_3 else some q9_4)))))), (q9_1, .inl (cI, 200, .inl (fun _ => 0))), (q9_2, .inl (cI, 200, .inl (fun _ => 0))), (q9_3, .inl (cI, 200, .inl (fun _ => 0))), (q9_4, .inl (cI, 200, .inl (fun _ => 0))), (q18, .inl (cI, 4, .inl (fun _ => 0))), (q27, .inl (cI, 200, .inl (fun _ => 0)))] := hD
  exact W.vret hx hb hr (fun t ht hW => ⟨⟨(), rfl, trivial, q9_0, q9_1, q9_2, q9_3, q9_4, q18, q27, by rw [ht]; exact hP, hD⟩, hS.F ht⟩) hS.2.2 d_SO_init_47
set_option maxHeartbeats 4000000 in
set_option maxRecDepth 100000 in
theorem c_FI_init (l : Launch) (D : va_G) (cB cI : ClassId) (a0 : Nat) (aS : Nat) (aY : Nat) (aP : Nat) (sz : Nat) : Met l y_FI_init mw_FI_init { frames := 1, cells := 6, slots := 55356, locals := 12 } (va_Pc [.ref a0, .ref aS, .ref aY, .ref aP] (mt_I D cB cI [(a0, .inr (9, [.null, .null, .null, .null, .null, .null, .null, .null, .int 0, .null]))] sz)) (va_Qv (fun (_ : Unit) => True) (fun _ t => ∃ (q8 q17 q26 q35 q44 q53 : Nat), va_P D vwCl [(a0, .inr (9, [.ref aS, .ref aY, .ref aP, .ref q8, .ref q17, .ref q26, .ref q35, .ref q44, .int 0, .ref q53])), (q8, .inl (cI, 1024, .inl (fun _ => 0))), (q17, .inl (cI, 13533, .inl (fun _ => 0))), (q26, .inl (cI, 13533, .inl (fun _ => 0))), (q35, .inl (cI, 13533, .inl (fun _ => 0))), (q44, .inl (cI, 13533, .inl (fun _ => 0))), (q53, .inl (cI, 200, .inl (fun _ => 0)))] t.heap ∧ va_D (va_A [(a0, .inr (9, [.null, .null, .null, .null, .null, .null, .null, .null, .int 0, .null]))] sz) [(a0, .inr (9, [.ref aS, .ref aY, .ref aP, .ref q8, .ref q17, .ref q26, .ref q35, .ref q44, .int 0, .ref q53])), (q8, .inl (cI, 1024, .inl (fun _ => 0))), (q17, .inl (cI, 13533, .inl (fun _ => 0))), (q26, .inl (cI, 13533, .inl (fun _ => 0))), (q35, .inl (cI, 13533, .inl (fun _ => 0))), (q44, .inl (cI, 13533, .inl (fun _ => 0))), (q53, .inl (cI, 200, .inl (fun _ => 0)))]) (va_A [(a0, .inr (9, [.null, .null, .null, .null, .null, .null, .null, .null, .int 0, .null]))] sz)) 6 55356 (va_A [(a0, .inr (9, [.null, .null, .null, .null, .null, .null, .null, .null, .int 0, .null]))] sz) := by
  refine Met.ofW (cc := b_FI_init) (maxL := 4) (ret := none) (by decide) rfl ?_
  intro p e s m args below meth c s₁ B0 hml hv
  obtain ⟨rfl, ⟨hsz, hP, hk, hD0⟩, hxk⟩ := hv
  have hK := hk.1
  have hx := B0.exec
  have hb := B0.bytes
  have hr := B0.returns
  have hT : ∀ w ∈ lw_g, w.before _ s = true := fun w h => atoms_spec (ws := mw_FI_init) B0.pre w (List.mem_cons_of_mem _ h)
  have hown : s.vm.findClass R_FI = some m.cls := findClass_of_methodNamed B0.named
  have hlocks := B0.notSynchronized
  have hin : meth.name = "<init>" := (name_of_methodNamed B0.named B0.method).1
  subst hsz
  have hD := hD0.self (sz := s.heap.size)
  generalize hAe : va_A [(a0, .inr (9, [.null, .null, .null, .null, .null, .null, .null, .null, .int 0, .null]))] s.heap.size = A at hD ⊢
  have hA : ∀ q : Nat, s.heap.size ≤ q → A q := fun q h => by rw [← hAe]; exact Or.inr h
  have hS : va_S A s.heap s.heap [] := va_S.rf
  have hl := lv_entry ([.ref a0, .ref aS, .ref aY, .ref aP]) (n := 4) (Nat.le_of_ble_eq_true rfl)
  rw [lg_entry_eq]
  generalize (lg_sl ([.ref a0, .ref aS, .ref aY, .ref aP]) ++ List.replicate (4 - (lg_sl ([.ref a0, .ref aS, .ref aY, .ref aP])).length) Slot.unset).toArray = ls at hl ⊢
  have hl : lv_has ls 4 [(0, .ref a0), (1, .ref aS), (2, .ref aY), (3, .ref aP)] := hl
  refine lv_aload_n hx hb d_FI_init_0 rfl (lv_at hl 0 rfl) ?_
  refine W.objInit hx hb hown (hT _ k_284) (hT _ k_28) (hT _ kc_JO_init) rfl (by rw [hml]; exact hl.1) rfl d_FI_init_1 (Nat.le_of_ble_eq_true rfl) (Nat.le_of_ble_eq_true rfl) ?_
  refine W.eq (g2 := F0 m 4 ls []) rfl ?_
  refine lv_aload_n hx hb d_FI_init_4 rfl (lv_at hl 0 rfl) ?_
  refine lv_sipush (v := 1024) hx hb d_FI_init_5 (by decide) ?_
  refine va_newa (atype := .int) (a0 := (1024, .inl (fun _ => 0))) hx hb (hT _ k_107) rfl hK hP hD hS hA (nz_i 1024) (by decide) (by decide) (Nat.le_of_ble_eq_true rfl) (Nat.le_of_ble_eq_true rfl) (Nat.le_of_ble_eq_true rfl) d_FI_init_8 (fun q8 cA H hK9 hP hD hS => ?_)
  obtain rfl : cI = cA := Option.some.inj (((hK.2 1 _ rfl).2).symm.trans ((hK9.2 2 _ rfl).2))
  refine W.widen (k := 1) (n := 1024) (Nat.le_refl _) (Nat.le_refl _) ?_
  have hP : va_P D vwCl [(a0, .inr (9, [.null, .null, .null, .null, .null, .null, .null, .null, .int 0, .null])), (q8, .inl (cI, 1024, .inl (fun _ => 0)))] H := hP
  have hD : va_D A [(a0, .inr (9, [.null, .null, .null, .null, .null, .null, .null, .null, .int 0, .null])), (q8, .inl (cI, 1024, .inl (fun _ => 0)))] := hD
  refine va_putF (D := D) (ci := 9) (v := .ref q8) (ty := .array .int) (C := R_FI) (T := T_FI) (N := 10) hx hb hT u_FI ty_FI tyok_FI nm_FI hown hK hP hD hS 0 rfl rfl 3 (by decide) (hT _ k_288) (fun _ h9 => h9) rfl hin rfl (by decide +kernel) rfl rfl (Nat.le_of_ble_eq_true rfl) d_FI_init_10 (fun H locs hP hD hS => ?_)
  have hP : va_P D vwCl [(a0, .inr (9, [.null, .null, .null, .ref q8, .null, .null, .null, .null, .int 0, .null])), (q8, .inl (cI, 1024, .inl (fun _ => 0)))] H := hP
  have hD : va_D A [(a0, .inr (9, [.null, .null, .null, .ref q8, .null, .null, .null, .null, .int 0, .null])), (q8, .inl (cI, 1024, .inl (fun _ => 0)))] := hD
  refine lv_aload_n hx hb d_FI_init_13 rfl (lv_at hl 0 rfl) ?_
  refine lv_sipush (v := 13533) hx hb d_FI_init_14 (by decide) ?_
  refine va_newa (atype := .int) (a0 := (13533, .inl (fun _ => 0))) hx hb (hT _ k_107) rfl hK hP hD hS hA (nz_i 13533) (by decide) (by decide) (Nat.le_of_ble_eq_true rfl) (Nat.le_of_ble_eq_true rfl) (Nat.le_of_ble_eq_true rfl) d_FI_init_17 (fun q17 cA H hK9 hP hD hS => ?_)
  obtain rfl : cI = cA := Option.some.inj (((hK.2 1 _ rfl).2).symm.trans ((hK9.2 2 _ rfl).2))
  refine W.widen (k := 2) (n := 14557) (Nat.le_refl _) (Nat.le_refl _) ?_
  have hP : va_P D vwCl [(a0, .inr (9, [.null, .null, .null, .ref q8, .null, .null, .null, .null, .int 0, .null])), (q8, .inl (cI, 1024, .inl (fun _ => 0))), (q17, .inl (cI, 13533, .inl (fun _ => 0)))] H := hP
  have hD : va_D A [(a0, .inr (9, [.null, .null, .null, .ref q8, .null, .null, .null, .null, .int 0, .null])), (q8, .inl (cI, 1024, .inl (fun _ => 0))), (q17, .inl (cI, 13533, .inl (fun _ => 0)))] := hD
  refine va_putF (D := D) (ci := 9) (v := .ref q17) (ty := .array .int) (C := R_FI) (T := T_FI) (N := 10) hx hb hT u_FI ty_FI tyok_FI nm_FI hown hK hP hD hS 0 rfl rfl 4 (by decide) (hT _ k_289) (fun _ h9 => h9) rfl hin rfl (by decide +kernel) rfl rfl (Nat.le_of_ble_eq_true rfl) d_FI_init_19 (fun H locs hP hD hS => ?_)
  have hP : va_P D vwCl [(a0, .inr (9, [.null, .null, .null, .ref q8, .ref q17, .null, .null, .null, .int 0, .null])), (q8, .inl (cI, 1024, .inl (fun _ => 0))), (q17, .inl (cI, 13533, .inl (fun _ => 0)))] H := hP
  have hD : va_D A [(a0, .inr (9, [.null, .null, .null, .ref q8, .ref q17, .null, .null, .null, .int 0, .null])), (q8, .inl (cI, 1024, .inl (fun _ => 0))), (q17, .inl (cI, 13533, .inl (fun _ => 0)))] := hD
  refine lv_aload_n hx hb d_FI_init_22 rfl (lv_at hl 0 rfl) ?_
  refine lv_sipush (v := 13533) hx hb d_FI_init_23 (by decide) ?_
  refine va_newa (atype := .int) (a0 := (13533, .inl (fun _ => 0))) hx hb (hT _ k_107) rfl hK hP hD hS hA (nz_i 13533) (by decide) (by decide) (Nat.le_of_ble_eq_true rfl) (Nat.le_of_ble_eq_true rfl) (Nat.le_of_ble_eq_true rfl) d_FI_init_26 (fun q26 cA H hK9 hP hD hS => ?_)
  obtain rfl : cI = cA := Option.some.inj (((hK.2 1 _ rfl).2).symm.trans ((hK9.2 2 _ rfl).2))
  refine W.widen (k := 3) (n := 28090) (Nat.le_refl _) (Nat.le_refl _) ?_
  have hP : va_P D vwCl [(a0, .inr (9, [.null, .null, .null, .ref q8, .ref q17, .null, .null, .null, .int 0, .null])), (q8, .inl (cI, 1024, .inl (fun _ => 0))), (q17, .inl (cI, 13533, .inl (fun _ => 0))), (q26, .inl (cI, 13533, .inl (fun _ => 0)))] H := hP
  have hD : va_D A [(a0, .inr (9, [.null, .null, .null, .ref q8, .ref q17, .null, .null, .null, .int 0, .null])), (q8, .inl (cI, 1024, .inl (fun _ => 0))), (q17, .inl (cI, 13533, .inl (fun _ => 0))), (q26, .inl (cI, 13533, .inl (fun _ => 0)))] := hD
  refine va_putF (D := D) (ci := 9) (v := .ref q26) (ty := .array .int) (C := R_FI) (T := T_FI) (N := 10) hx hb hT u_FI ty_FI tyok_FI nm_FI hown hK hP hD hS 0 rfl rfl 5 (by decide) (hT _ k_290) (fun _ h9 => h9) rfl hin rfl (by decide +kernel) rfl rfl (Nat.le_of_ble_eq_true rfl) d_FI_init_28 (fun H locs hP hD hS => ?_)
  have hP : va_P D vwCl [(a0, .inr (9, [.null, .null, .null, .ref q8, .ref q17, .ref q26, .null, .null, .int 0, .null])), (q8, .inl (cI, 1024, .inl (fun _ => 0))), (q17, .inl (cI, 13533, .inl (fun _ => 0))), (q26, .inl (cI, 13533, .inl (fun _ => 0)))] H := hP
  have hD : va_D A [(a0, .inr (9, [.null, .null, .null, .ref q8, .ref q17, .ref q26, .null, .null, .int 0, .null])), (q8, .inl (cI, 1024, .inl (fun _ => 0))), (q17, .inl (cI, 13533, .inl (fun _ => 0))), (q26, .inl (cI, 13533, .inl (fun _ => 0)))] := hD
  refine lv_aload_n hx hb d_FI_init_31 rfl (lv_at hl 0 rfl) ?_
  refine lv_sipush (v := 13533) hx hb d_FI_init_32 (by decide) ?_
  refine va_newa (atype := .int) (a0 := (13533, .inl (fun _ => 0))) hx hb (hT _ k_107) rfl hK hP hD hS hA (nz_i 13533) (by decide) (by decide) (Nat.le_of_ble_eq_true rfl) (Nat.le_of_ble_eq_true rfl) (Nat.le_of_ble_eq_true rfl) d_FI_init_35 (fun q35 cA H hK9 hP hD hS => ?_)
  obtain rfl : cI = cA := Option.some.inj (((hK.2 1 _ rfl).2).symm.trans ((hK9.2 2 _ rfl).2))
  refine W.widen (k := 4) (n := 41623) (Nat.le_refl _) (Nat.le_refl _) ?_
  have hP : va_P D vwCl [(a0, .inr (9, [.null, .null, .null, .ref q8, .ref q17, .ref q26, .null, .null, .int 0, .null])), (q8, .inl (cI, 1024, .inl (fun _ => 0))), (q17, .inl (cI, 13533, .inl (fun _ => 0))), (q26, .inl (cI, 13533, .inl (fun _ => 0))), (q35, .inl (cI, 13533, .inl (fun _ => 0)))] H := hP
  have hD : va_D A [(a0, .inr (9, [.null, .null, .null, .ref q8, .ref q17, .ref q26, .null, .null, .int 0, .null])), (q8, .inl (cI, 1024, .inl (fun _ => 0))), (q17, .inl (cI, 13533, .inl (fun _ => 0))), (q26, .inl (cI, 13533, .inl (fun _ => 0))), (q35, .inl (cI, 13533, .inl (fun _ => 0)))] := hD
  refine va_putF (D := D) (ci := 9) (v := .ref q35) (ty := .array .int) (C := R_FI) (T := T_FI) (N := 10) hx hb hT u_FI ty_FI tyok_FI nm_FI hown hK hP hD hS 0 rfl rfl 6 (by decide) (hT _ k_291) (fun _ h9 => h9) rfl hin rfl (by decide +kernel) rfl rfl (Nat.le_of_ble_eq_true rfl) d_FI_init_37 (fun H locs hP hD hS => ?_)
  have hP : va_P D vwCl [(a0, .inr (9, [.null, .null, .null, .ref q8, .ref q17, .ref q26, .ref q35, .null, .int 0, .null])), (q8, .inl (cI, 1024, .inl (fun _ => 0))), (q17, .inl (cI, 13533, .inl (fun _ => 0))), (q26, .inl (cI, 13533, .inl (fun _ => 0))), (q35, .inl (cI, 13533, .inl (fun _ => 0)))] H := hP
  have hD : va_D A [(a0, .inr (9, [.null, .null, .null, .ref q8, .ref q17, .ref q26, .ref q35, .null, .int 0, .null])), (q8, .inl (cI, 1024, .inl (fun _ => 0))), (q17, .inl (cI, 13533, .inl (fun _ => 0))), (q26, .inl (cI, 13533, .inl (fun _ => 0))), (q35, .inl (cI, 13533, .inl (fun _ => 0)))] := hD
  refine lv_aload_n hx hb d_FI_init_40 rfl (lv_at hl 0 rfl) ?_
  refine lv_sipush (v := 13533) hx hb d_FI_init_41 (by decide) ?_
  refine va_newa (atype := .int) (a0 := (13533, .inl (fun _ => 0))) hx hb (hT _ k_107) rfl hK hP hD hS hA (nz_i 13533) (by decide) (by decide) (Nat.le_of_ble_eq_true rfl) (Nat.le_of_ble_eq_true rfl) (Nat.le_of_ble_eq_true rfl) d_FI_init_44 (fun q44 cA H hK9 hP hD hS => ?_)
  obtain rfl : cI = cA := Option.some.inj (((hK.2 1 _ rfl).2).symm.trans ((hK9.2 2 _ rfl).2))
  refine W.widen (k := 5) (n := 55156) (Nat.le_refl _) (Nat.le_refl _) ?_
  have hP : va_P D vwCl [(a0, .inr (9, [.null, .null, .null, .ref q8, .ref q17, .ref q26, .ref q35, .null, .int 0, .null])), (q8, .inl (cI, 1024, .inl (fun _ => 0))), (q17, .inl (cI, 13533, .inl (fun _ => 0))), (q26, .inl (cI, 13533, .inl (fun _ => 0))), (q35, .inl (cI, 13533, .inl (fun _ => 0))), (q44, .inl (cI, 13533, .inl (fun _ => 0)))] H := hP
  have hD : va_D A [(a0, .inr (9, [.null, .null, .null, .ref q8, .ref q17, .ref q26, .ref q35, .null, .int 0, .null])), (q8, .inl (cI, 1024, .inl (fun _ => 0))), (q17, .inl (cI, 13533, .inl (fun _ => 0))), (q26, .inl (cI, 13533, .inl (fun _ => 0))), (q35, .inl (cI, 13533, .inl (fun _ => 0))), (q44, .inl (cI, 13533, .inl (fun _ => 0)))] := hD
  refine va_putF (D := D) (ci := 9) (v := .ref q44) (ty := .array .int) (C := R_FI) (T := T_FI) (N := 10) hx hb hT u_FI ty_FI tyok_FI nm_FI hown hK hP hD hS 0 rfl rfl 7 (by decide) (hT _ k_292) (fun _ h9 => h9) rfl hin rfl (by decide +kernel) rfl rfl (Nat.le_of_ble_eq_true rfl) d_FI_init_46 (fun H locs hP hD hS => ?_)
  have hP : va_P D vwCl [(a0, .inr (9, [.null, .null, .null, .ref q8, .ref q17, .ref q26, .ref q35, .ref q44, .int 0, .null])), (q8, .inl (cI, 1024, .inl (fun _ => 0))), (q17, .inl (cI, 13533, .inl (fun _ => 0))), (q26, .inl (cI, 13533, .inl (fun _ => 0))), (q35, .inl (cI, 13533, .inl (fun _ => 0))), (q44, .inl (cI, 13533, .inl (fun _ => 0)))] H := hP
  have hD : va_D A [(a0, .inr (9, [.null, .null, .null, .ref q8, .ref q17, .ref q26, .ref q35, .ref q44, .int 0, .null])), (q8, .inl (cI, 1024, .inl (fun _ => 0))), (q17, .inl (cI, 13533, .inl (fun _ => 0))), (q26, .inl (cI, 13533, .inl (fun _ => 0))), (q35, .inl (cI, 13533, .inl (fun _ => 0))), (q44, .inl (cI, 13533, .inl (fun _ => 0)))] := hD
  refine lv_aload_n hx hb d_FI_init_49 rfl (lv_at hl 0 rfl) ?_
  refine lv_sipush (v := 200) hx hb d_FI_init_50 (by decide) ?_
  refine va_newa (atype := .int) (a0 := (200, .inl (fun _ => 0))) hx hb (hT _ k_107) rfl hK hP hD hS hA (nz_i 200) (by decide) (by decide) (Nat.le_of_ble_eq_true rfl) (Nat.le_of_ble_eq_true rfl) (Nat.le_of_ble_eq_true rfl) d_FI_init_53 (fun q53 cA H hK9 hP hD hS => ?_)
  obtain rfl : cI = cA := Option.some.inj (((hK.2 1 _ rfl).2).symm.trans ((hK9.2 2 _ rfl).2))
  refine W.widen (k := 6) (n := 55356) (Nat.le_refl _) (Nat.le_refl _) ?_
  have hP : va_P D vwCl [(a0, .inr (9, [.null, .null, .null, .ref q8, .ref q17, .ref q26, .ref q35, .ref q44, .int 0, .null])), (q8, .inl (cI, 1024, .inl (fun _ => 0))), (q17, .inl (cI, 13533, .inl (fun _ => 0))), (q26, .inl (cI, 13533, .inl (fun _ => 0))), (q35, .inl (cI, 13533, .inl (fun _ => 0))), (q44, .inl (cI, 13533, .inl (fun _ => 0))), (q53, .inl (cI, 200, .inl (fun _ => 0)))] H := hP
  have hD : va_D A [(a0, .inr (9, [.null, .null, .null, .ref q8, .ref q17, .ref q26, .ref q35, .ref q44, .int 0, .null])), (q8, .inl (cI, 1024, .inl (fun _ => 0))), (q17, .inl (cI, 13533, .inl (fun _ => 0))), (q26, .inl (cI, 13533, .inl (fun _ => 0))), (q35, .inl (cI, 13533, .inl (fun _ => 0))), (q44, .inl (cI, 13533, .inl (fun _ => 0))), (q53, .inl (cI, 200, .inl (fun _ => 0)))] := hD
  refine va_putF (D := D) (ci := 9) (v := .ref q53) (ty := .array .int) (C := R_FI) (T := T_FI) (N := 10) hx hb hT u_FI ty_FI tyok_FI nm_FI hown hK hP hD hS 0 rfl rfl 9 (by decide) (hT _ k_294) (fun _ h9 => h9) rfl hin rfl (by decide +kernel) rfl rfl (Nat.le_of_ble_eq_true rfl) d_FI_init_55 (fun H locs hP hD hS => ?_)
  have hP : va_P D vwCl [(a0, .inr (9, [.null, .null, .null, .ref q8, .ref q17, .ref q26, .ref q35, .ref q44, .int 0, .ref q53])), (q8, .inl (cI, 1024, .inl (fun _ => 0))), (q17, .inl (cI, 13533, .inl (fun _ => 0))), (q26, .inl (cI, 13533, .inl (fun _ => 0))), (q35, .inl (cI, 13533, .inl (fun _ => 0))), (q44, .inl (cI, 13533, .inl (fun _ => 0))), (q53, .inl (cI, 200, .inl (fun _ => 0)))] H := hP
  have hD : va_D A [(a0, .inr (9, [.null, .null, .null, .ref q8, .ref q17, .ref q26, .ref q35, .ref q44, .int 0, .ref q53])), (q8, .inl (cI, 1024, .inl (fun _ => 0))), (q17, .inl (cI, 13533, .inl (fun _ => 0))), (q26, .inl (cI, 13533, .inl (fun _ => 0))), (q35, .inl (cI, 13533, .inl (fun _ => 0))), (q44, .inl (cI, 13533, .inl (fun _ => 0))), (q53, .inl (cI, 200, .inl (fun _ => 0)))] := hD
  refine lv_aload_n hx hb d_FI_init_58 rfl (lv_at hl 0 rfl) ?_
  refine lv_aload_n hx hb d_FI_init_59 rfl (lv_at hl 1 rfl) ?_
  refine va_putF (D := D) (ci := 9) (v := .ref aS) (ty := .object "PipelineBelt$Store") (C := R_FI) (T := T_FI) (N := 10) hx hb hT u_FI ty_FI tyok_FI nm_FI hown hK hP hD hS 0 rfl rfl 0 (by decide) (hT _ k_285) (fun _ h9 => h9) rfl hin rfl (by decide +kernel) rfl rfl (Nat.le_of_ble_eq_true rfl) d_FI_init_60 (fun H locs hP hD hS => ?_)
  have hP : va_P D vwCl [(a0, .inr (9, [.ref aS, .null, .null, .ref q8, .ref q17, .ref q26, .ref q35, .ref q44, .int 0, .ref q53])), (q8, .inl (cI, 1024, .inl (fun _ => 0))), (q17, .inl (cI, 13533, .inl (fun _ => 0))), (q26, .inl (cI, 13533, .inl (fun _ => 0))), (q35, .inl (cI, 13533, .inl (fun _ => 0))), (q44, .inl (cI, 13533, .inl (fun _ => 0))), (q53, .inl (cI, 200, .inl (fun _ => 0)))] H := hP
  have hD : va_D A [(a0, .inr (9, [.ref aS, .null, .null, .ref q8, .ref q17, .ref q26, .ref q35, .ref q44, .int 0, .ref q53])), (q8, .inl (cI, 1024, .inl (fun _ => 0))), (q17, .inl (cI, 13533, .inl (fun _ => 0))), (q26, .inl (cI, 13533, .inl (fun _ => 0))), (q35, .inl (cI, 13533, .inl (fun _ => 0))), (q44, .inl (cI, 13533, .inl (fun _ => 0))), (q53, .inl (cI, 200, .inl (fun _ => 0)))] := hD
  refine lv_aload_n hx hb d_FI_init_63 rfl (lv_at hl 0 rfl) ?_
  refine lv_aload_n hx hb d_FI_init_64 rfl (lv_at hl 2 rfl) ?_
  refine va_putF (D := D) (ci := 9) (v := .ref aY) (ty := .object "PipelineBelt$Belts") (C := R_FI) (T := T_FI) (N := 10) hx hb hT u_FI ty_FI tyok_FI nm_FI hown hK hP hD hS 0 rfl rfl 1 (by decide) (hT _ k_286) (fun _ h9 => h9) rfl hin rfl (by decide +kernel) rfl rfl (Nat.le_of_ble_eq_true rfl) d_FI_init_65 (fun H locs hP hD hS => ?_)
  have hP : va_P D vwCl [(a0, .inr (9, [.ref aS, .ref aY, .null, .ref q8, .ref q17, .ref q26, .ref q35, .ref q44, .int 0, .ref q53])), (q8, .inl (cI, 1024, .inl (fun _ => 0))), (q17, .inl (cI, 13533, .inl (fun _ => 0))), (q26, .inl (cI, 13533, .inl (fun _ => 0))), (q35, .inl (cI, 13533, .inl (fun _ => 0))), (q44, .inl (cI, 13533, .inl (fun _ => 0))), (q53, .inl (cI, 200, .inl (fun _ => 0)))] H := hP
  have hD : va_D A [(a0, .inr (9, [.ref aS, .ref aY, .null, .ref q8, .ref q17, .ref q26, .ref q35, .ref q44, .int 0, .ref q53])), (q8, .inl (cI, 1024, .inl (fun _ => 0))), (q17, .inl (cI, 13533, .inl (fun _ => 0))), (q26, .inl (cI, 13533, .inl (fun _ => 0))), (q35, .inl (cI, 13533, .inl (fun _ => 0))), (q44, .inl (cI, 13533, .inl (fun _ => 0))), (q53, .inl (cI, 200, .inl (fun _ => 0)))] := hD
  refine lv_aload_n hx hb d_FI_init_68 rfl (lv_at hl 0 rfl) ?_
  refine lv_aload_n hx hb d_FI_init_69 rfl (lv_at hl 3 rfl) ?_
  refine va_putF (D := D) (ci := 9) (v := .ref aP) (ty := .object "PipelineBelt$Path") (C := R_FI) (T := T_FI) (N := 10) hx hb hT u_FI ty_FI tyok_FI nm_FI hown hK hP hD hS 0 rfl rfl 2 (by decide) (hT _ k_287) (fun _ h9 => h9) rfl hin rfl (by decide +kernel) rfl rfl (Nat.le_of_ble_eq_true rfl) d_FI_init_70 (fun H locs hP hD hS => ?_)
  have hP : va_P D vwCl [(a0, .inr (9, [.ref aS, .ref aY, .ref aP, .ref q8, .ref q17, .ref q26, .ref q35, .ref q44, .int 0, .ref q53])), (q8, .inl (cI, 1024, .inl (fun _ => 0))), (q17, .inl (cI, 13533, .inl (fun _ => 0))), (q26, .inl (cI, 13533, .inl (fun _ => 0))), (q35, .inl (cI, 13533, .inl (fun _ => 0))), (q44, .inl (cI, 13533, .inl (fun _ => 0))), (q53, .inl (cI, 200, .inl (fun _ => 0)))] H := hP
  have hD : va_D A [(a0, .inr (9, [.ref aS, .ref aY, .ref aP, .ref q8, .ref q17, .ref q26, .ref q35, .ref q44, .int 0, .ref q53])), (q8, .inl (cI, 1024, .inl (fun _ => 0))), (q17, .inl (cI, 13533, .inl (fun _ => 0))), (q26, .inl (cI, 13533, .inl (fun _ => 0))), (q35, .inl (cI, 13533, .inl (fun _ => 0))), (q44, .inl (cI, 13533, .inl (fun _ => 0))), (q53, .inl (cI, 200, .inl (fun _ => 0)))] := hD
  exact W.vret hx hb hr (fun t ht hW => ⟨⟨(), rfl, trivial, q8, q17, q26, q35, q44, q53, by rw [ht]; exact hP, hD⟩, hS.F ht⟩) hS.2.2 d_FI_init_73
set_option maxHeartbeats 4000000 in
set_option maxRecDepth 100000 in
theorem c_PB_init (l : Launch) (D : va_G) (cB cI : ClassId) (a0 : Nat) (sz : Nat) : Met l y_PB_init mw_PB_init { frames := 3, cells := 42, slots := 263271, locals := 54 } (va_Pc [.ref a0] (mt_I D cB cI [(a0, .inr (10, [.null, .null, .null, .null, .null, .null, .null, .int 0]))] sz)) (va_Qv (fun (_ : Unit) => True) (fun _ t => ∃ (q5 q7_9 q16 q31 q10_39 q22_39 q8_29_39 q36_39 q8_42_39 q49_39 q8_55_39 q45 q7_53 q15_53 q23_53 q31_53 q40_53 q49_53 q60_53 q58 q78 q8_91 q17_91 q26_91 q35_91 q44_91 q53_91 q98 q9_0_111 q9_1_111 q9_2_111 q9_3_111 q9_4_111 q18_111 q27_111 q118 q8_131 q17_131 q26_131 q35_131 q44_131 q53_131 : Nat), va_P D vwCl [(a0, .inr (10, [.ref q5, .ref q16, .ref q31, .ref q58, .ref q78, .ref q98, .ref q118, .int 0])), (q5, .inr (0, [.ref q7_9])), (q7_9, .inl (cB, 202000, .inl (by_ (fun _ => 0)))), (q16, .inr (4, [.ref q5])), (q31, .inr (3, [.ref q5, .ref q10_39, .ref q22_39, .ref q36_39, .ref q49_39])), (q10_39, .inr (1, [.ref q5, .int 0, .int 0, .int 0])), (q22_39, .inr (2, [.int 2000, .ref q8_29_39, .int 0])), (q8_29_39, .inl (cI, 201, .inl (upd (fun _ => 0) (0 : Int32).toNatClampNeg 2000))), (q36_39, .inr (2, [.int 42000, .ref q8_42_39, .int 0])), (q8_42_39, .inl (cI, 201, .inl (upd (fun _ => 0) (0 : Int32).toNatClampNeg 42000))), (q49_39, .inr (2, [.int 82000, .ref q8_55_39, .int 0])), (q8_55_39, .inl (cI, 201, .inl (upd (fun _ => 0) (0 : Int32).toNatClampNeg 82000))), (q45, .inr (5, [.ref q5, .ref q60_53, .ref q7_53, .ref q15_53, .ref q23_53, .ref q31_53, .int 0, .int 0, .int 0, .ref q40_53, .ref q49_53, .int 0, .int 0, .int 0, .int 0])), (q7_53, .inl (cI, 8, .inl (fun _ => 0))), (q15_53, .inl (cI, 8, .inl (fun _ => 0))), (q23_53, .inl (cI, 8, .inl (fun _ => 0))), (q31_53, .inl (cI, 8, .inl (fun _ => 0))), (q40_53, .inl (cI, 1001, .inl (fun _ => 0))), (q49_53, .inl (cI, 2000, .inl (fun _ => 0))), (q60_53, .inr (1, [.ref q5, .int 0, .int 0, .int 0])), (q58, .inr (6, [.ref q5, .ref q31, .ref q45])), (q78, .inr (7, [.ref q5, .ref q31, .ref q45, .ref q8_91, .ref q17_91, .ref q26_91, .ref q35_91, .ref q44_91, .int 0, .ref q53_91, .int 0, .long 0])), (q8_91, .inl (cI, 200, .inl (fun _ => 0))), (q17_91, .inl (cI, 200, .inl (fun _ => 0))), (q26_91, .inl (cI, 200, .inl (fun _ => 0))), (q35_91, .inl (cI, 200, .inl (fun _ => 0))), (q44_91, .inl (cI, 200, .inl (fun _ => 0))), (q53_91, .inl (cI, 200, .inl (fun _ => 0))), (q98, .inr (8, [.ref q5, .ref q31, .ref q45, .ref q9_0_111, .ref q18_111, .ref q27_111, .int 0])), (q9_0_111, .inl ((D.1 100), 4, .inr (.inr (.inr (.inr (fun j => if j = 0 then some q9_1_111 else if j = 1 then some q9_2_111 else if j = 2 then some q9_3_111 else some q9_4_111)))))), (q9_1_111, .inl (cI, 200, .inl (fun _ => 0))), (q9_2_111, .inl (cI, 200, .inl (fun _ => 0))), (q9_3_111, .inl (cI, 200, .inl (fun _ => 0))), (q9_4_111, .inl (cI, 200, .inl (fun _ => 0))), (q18_111, .inl (cI, 4, .inl (fun _ => 0))), (q27_111, .inl (cI, 200, .inl (fun _ => 0))), (q118, .inr (9, [.ref q5, .ref q31, .ref q45, .ref q8_131, .ref q17_131, .ref q26_131, .ref q35_131, .ref q44_131, .int 0, .ref q53_131])), (q8_131, .inl (cI, 1024, .inl (fun _ => 0))), (q17_131, .inl (cI, 13533, .inl (fun _ => 0))), (q26_131, .inl (cI, 13533, .inl (fun _ => 0))), (q35_131, .inl (cI, 13533, .inl (fun _ => 0))), (q44_131, .inl (cI, 13533, .inl (fun _ => 0))), (q53_131, .inl (cI, 200, .inl (fun _ => 0)))] t.heap ∧ va_D (va_A [(a0, .inr (10, [.null, .null, .null, .null, .null, .null, .null, .int 0]))] sz) [(a0, .inr (10, [.ref q5, .ref q16, .ref q31, .ref q58, .ref q78, .ref q98, .ref q118, .int 0])), (q5, .inr (0, [.ref q7_9])), (q7_9, .inl (cB, 202000, .inl (by_ (fun _ => 0)))), (q16, .inr (4, [.ref q5])), (q31, .inr (3, [.ref q5, .ref q10_39, .ref q22_39, .ref q36_39, .ref q49_39])), (q10_39, .inr (1, [.ref q5, .int 0, .int 0, .int 0])), (q22_39, .inr (2, [.int 2000, .ref q8_29_39, .int 0])), (q8_29_39, .inl (cI, 201, .inl (upd (fun _ => 0) (0 : Int32).toNatClampNeg 2000))), (q36_39, .inr (2, [.int 42000, .ref q8_42_39, .int 0])), (q8_42_39, .inl (cI, 201, .inl (upd (fun _ => 0) (0 : Int32).toNatClampNeg 42000))), (q49_39, .inr (2, [.int 82000, .ref q8_55_39, .int 0])), (q8_55_39, .inl (cI, 201, .inl (upd (fun _ => 0) (0 : Int32).toNatClampNeg 82000))), (q45, .inr (5, [.ref q5, .ref q60_53, .ref q7_53, .ref q15_53, .ref q23_53, .ref q31_53, .int 0, .int 0, .int 0, .ref q40_53, .ref q49_53, .int 0, .int 0, .int 0, .int 0])), (q7_53, .inl (cI, 8, .inl (fun _ => 0))), (q15_53, .inl (cI, 8, .inl (fun _ => 0))), (q23_53, .inl (cI, 8, .inl (fun _ => 0))), (q31_53, .inl (cI, 8, .inl (fun _ => 0))), (q40_53, .inl (cI, 1001, .inl (fun _ => 0))), (q49_53, .inl (cI, 2000, .inl (fun _ => 0))), (q60_53, .inr (1, [.ref q5, .int 0, .int 0, .int 0])), (q58, .inr (6, [.ref q5, .ref q31, .ref q45])), (q78, .inr (7, [.ref q5, .ref q31, .ref q45, .ref q8_91, .ref q17_91, .ref q26_91, .ref q35_91, .ref q44_91, .int 0, .ref q53_91, .int 0, .long 0])), (q8_91, .inl (cI, 200, .inl (fun _ => 0))), (q17_91, .inl (cI, 200, .inl (fun _ => 0))), (q26_91, .inl (cI, 200, .inl (fun _ => 0))), (q35_91, .inl (cI, 200, .inl (fun _ => 0))), (q44_91, .inl (cI, 200, .inl (fun _ => 0))), (q53_91, .inl (cI, 200, .inl (fun _ => 0))), (q98, .inr (8, [.ref q5, .ref q31, .ref q45, .ref q9_0_111, .ref q18_111, .ref q27_111, .int 0])), (q9_0_111, .inl ((D.1 100), 4, .inr (.inr (.inr (.inr (fun j => if j = 0 then some q9_1_111 else if j = 1 then some q9_2_111 else if j = 2 then some q9_3_111 else some q9_4_111)))))), (q9_1_111, .inl (cI, 200, .inl (fun _ => 0))), (q9_2_111, .inl (cI, 200, .inl (fun _ => 0))), (q9_3_111, .inl (cI, 200, .inl (fun _ => 0))), (q9_4_111, .inl (cI, 200, .inl (fun _ => 0))), (q18_111, .inl (cI, 4, .inl (fun _ => 0))), (q27_111, .inl (cI, 200, .inl (fun _ => 0))), (q118, .inr (9, [.ref q5, .ref q31, .ref q45, .ref q8_131, .ref q17_131, .ref q26_131, .ref q35_131, .ref q44_131, .int 0, .ref q53_131])), (q8_131, .inl (cI, 1024, .inl (fun _ => 0))), (q17_131, .inl (cI, 13533, .inl (fun _ => 0))), (q26_131, .inl (cI, 13533, .inl (fun _ => 0))), (q35_131, .inl (cI, 13533, .inl (fun _ => 0))), (q44_131, .inl (cI, 13533, .inl (fun _ => 0))), (q53_131, .inl (cI, 200, .inl (fun _ => 0)))]) (va_A [(a0, .inr (10, [.null, .null, .null, .null, .null, .null, .null, .int 0]))] sz)) 42 263271 (va_A [(a0, .inr (10, [.null, .null, .null, .null, .null, .null, .null, .int 0]))] sz) := by
  refine Met.ofW (cc := b_PB_init) (maxL := 2) (ret := none) (by decide) rfl ?_
  intro p e s m args below meth c s₁ B0 hml hv
  obtain ⟨rfl, ⟨hsz, hP, hk, hD0⟩, hxk⟩ := hv
  have hK := hk.1
  have hx := B0.exec
  have hb := B0.bytes
  have hr := B0.returns
  have hT : ∀ w ∈ lw_g, w.before _ s = true := fun w h => atoms_spec (ws := mw_PB_init) B0.pre w (List.mem_cons_of_mem _ h)
  have hown : s.vm.findClass R_PB = some m.cls := findClass_of_methodNamed B0.named
  have hlocks := B0.notSynchronized
  have hin : meth.name = "<init>" := (name_of_methodNamed B0.named B0.method).1
  subst hsz
  have hD := hD0.self (sz := s.heap.size)
  generalize hAe : va_A [(a0, .inr (10, [.null, .null, .null, .null, .null, .null, .null, .int 0]))] s.heap.size = A at hD ⊢
  have hA : ∀ q : Nat, s.heap.size ≤ q → A q := fun q h => by rw [← hAe]; exact Or.inr h
  have hS : va_S A s.heap s.heap [] := va_S.rf
  have hl := lv_entry ([.ref a0]) (n := 2) (Nat.le_of_ble_eq_true rfl)
  rw [lg_entry_eq]
  generalize (lg_sl ([.ref a0]) ++ List.replicate (2 - (lg_sl ([.ref a0])).length) Slot.unset).toArray = ls at hl ⊢
  have hl : lv_has ls 2 [(0, .ref a0)] := hl
  refine lv_aload_n hx hb d_PB_init_0 rfl (lv_at hl 0 rfl) ?_
  refine W.objInit hx hb hown (hT _ k_27) (hT _ k_28) (hT _ kc_JO_init) rfl (by rw [hml]; exact hl.1) rfl d_PB_init_1 (Nat.le_of_ble_eq_true rfl) (Nat.le_of_ble_eq_true rfl) ?_
  refine W.eq (g2 := F0 m 4 ls []) rfl ?_
  refine lv_aload_n hx hb d_PB_init_4 rfl (lv_at hl 0 rfl) ?_
  refine va_new (ci := 0) (fs := [.null]) (C := R_ST) (T := T_ST) (N := 1) hx hb hT u_ST ty_ST tyok_ST hown (hT _ k_30) (hT _ k_31) (hT _ k_2) hK hP hD hS hA rfl (fun j hj => by rcases (show j = 0 by omega) with rfl <;> rfl) (Nat.le_of_ble_eq_true rfl) (Nat.le_of_ble_eq_true rfl) d_PB_init_5 (fun q5 H hP hD hS => ?_)
  refine W.widen (k := 1) (n := 1) (Nat.le_refl _) (Nat.le_refl _) ?_
  have hP : va_P D vwCl [(a0, .inr (10, [.null, .null, .null, .null, .null, .null, .null, .int 0])), (q5, .inr (0, [.null]))] H := hP
  have hD : va_D A [(a0, .inr (10, [.null, .null, .null, .null, .null, .null, .null, .int 0])), (q5, .inr (0, [.null]))] := hD
  refine lv_dup hx hb d_PB_init_8 rfl ?_
  have hPc := hP.sub (ws' := [(q5, .inr (0, [.null]))]) [1] rfl
  have hDc := hD.sub (ws' := [(q5, .inr (0, [.null]))]) [1] (by decide) rfl
  have hFc := va_free (wc := [(q5, .inr (0, [.null]))]) hD hS hA [1] rfl
  refine va_callv (va_runIN (As := []) (rest := [.ref q5, .ref a0]) ⟨hx, hb, hml, hown, hT⟩ (c_ST_init l D cB cI q5 H.size) ⟨va_cnB 0 hT (gC_of kc_ST_init) rfl rfl rfl hxk.1 (hT _ k_2) hd_ST_init.2 ⟨(Nat.le_of_ble_eq_true rfl), (Nat.le_of_ble_eq_true rfl)⟩, rfl, hT _ k_33⟩ ⟨mi_blind, mi_pre hk hxk hPc hDc⟩ rfl rfl hl.1 rfl (lv_room (Nat.le_of_ble_eq_true rfl)) d_PB_init_9 ⟨(Nat.le_of_ble_eq_true rfl), (Nat.le_of_ble_eq_true rfl)⟩) hS (fun q _ h => hFc q h) hFc (fun u t H1 locs ht hvm hw hB hz1 hk1 hS => ?_)
  obtain ⟨q7_9, hP1, hD1⟩ := hB
  rw [ht] at hP1
  obtain ⟨hP, hD⟩ := va_join (wr := [(a0, .inr (10, [.null, .null, .null, .null, .null, .null, .null, .int 0]))]) (w1 := [(q5, .inr (0, [.ref q7_9])), (q7_9, .inl (cB, 202000, .inl (by_ (fun _ => 0))))]) hP hD [1] [0] rfl rfl (by decide) (by decide) hk1 hFc hP1 hD1
  generalize H1 = H at hP hS ⊢
  refine W.widen (k := 2) (n := 202001) (Nat.le_refl _) (Nat.le_refl _) ?_
  have hP : va_P D vwCl [(a0, .inr (10, [.null, .null, .null, .null, .null, .null, .null, .int 0])), (q5, .inr (0, [.ref q7_9])), (q7_9, .inl (cB, 202000, .inl (by_ (fun _ => 0))))] H := hP
  have hD : va_D A [(a0, .inr (10, [.null, .null, .null, .null, .null, .null, .null, .int 0])), (q5, .inr (0, [.ref q7_9])), (q7_9, .inl (cB, 202000, .inl (by_ (fun _ => 0))))] := hD
  refine va_putF (D := D) (ci := 10) (v := .ref q5) (ty := .object "PipelineBelt$Store") (C := R_PB) (T := T_PB) (N := 8) hx hb hT u_PB ty_PB tyok_PB nm_PB hown hK hP hD hS 0 rfl rfl 0 (by decide) (hT _ k_316) (fun _ h9 => h9) rfl hin rfl (by decide +kernel) rfl rfl (Nat.le_of_ble_eq_true rfl) d_PB_init_12 (fun H locs hP hD hS => ?_)
  have hP : va_P D vwCl [(a0, .inr (10, [.ref q5, .null, .null, .null, .null, .null, .null, .int 0])), (q5, .inr (0, [.ref q7_9])), (q7_9, .inl (cB, 202000, .inl (by_ (fun _ => 0))))] H := hP
  have hD : va_D A [(a0, .inr (10, [.ref q5, .null, .null, .null, .null, .null, .null, .int 0])), (q5, .inr (0, [.ref q7_9])), (q7_9, .inl (cB, 202000, .inl (by_ (fun _ => 0))))] := hD
  refine lv_aload_n hx hb d_PB_init_15 rfl (lv_at hl 0 rfl) ?_
  refine va_new (ci := 4) (fs := [.null]) (C := R_CH) (T := T_CH) (N := 1) hx hb hT u_CH ty_CH tyok_CH hown (hT _ k_43) (hT _ k_44) (hT _ k_3) hK hP hD hS hA rfl (fun j hj => by rcases (show j = 0 by omega) with rfl <;> rfl) (Nat.le_of_ble_eq_true rfl) (Nat.le_of_ble_eq_true rfl) d_PB_init_16 (fun q16 H hP hD hS => ?_)
  refine W.widen (k := 3) (n := 202002) (Nat.le_refl _) (Nat.le_refl _) ?_
  have hP : va_P D vwCl [(a0, .inr (10, [.ref q5, .null, .null, .null, .null, .null, .null, .int 0])), (q5, .inr (0, [.ref q7_9])), (q7_9, .inl (cB, 202000, .inl (by_ (fun _ => 0)))), (q16, .inr (4, [.null]))] H := hP
  have hD : va_D A [(a0, .inr (10, [.ref q5, .null, .null, .null, .null, .null, .null, .int 0])), (q5, .inr (0, [.ref q7_9])), (q7_9, .inl (cB, 202000, .inl (by_ (fun _ => 0)))), (q16, .inr (4, [.null]))] := hD
  refine lv_dup hx hb d_PB_init_19 rfl ?_
  refine lv_aload_n hx hb d_PB_init_20 rfl (lv_at hl 0 rfl) ?_
  refine va_get (D := D) (ci := 10) (v := .ref q5) (C := R_PB) (T := T_PB) (N := 8) hx hb hT u_PB hown hK hP 0 rfl rfl 0 (by decide) (hT _ k_316) (fun _ h9 => h9) rfl d_PB_init_21 ?_
  have hPc := hP.sub (ws' := [(q16, .inr (4, [.null]))]) [3] rfl
  have hDc := hD.sub (ws' := [(q16, .inr (4, [.null]))]) [3] (by decide) rfl
  have hFc := va_free (wc := [(q16, .inr (4, [.null]))]) hD hS hA [3] rfl
  refine va_callv (va_runI (As := [.ref q5]) (rest := [.ref q16, .ref a0]) ⟨hx, hb, hml, hown, hT⟩ (c_CH_init l D cB cI q16 q5 H.size) (cwI 1 hT (gC_of kc_CH_init) rfl rfl rfl (hT _ k_3) (hT _ k_45) (hT _ k_46) rfl hd_CH_init.2 ⟨(Nat.le_of_ble_eq_true rfl), (Nat.le_of_ble_eq_true rfl)⟩) ⟨mi_blind, mi_pre hk hxk hPc hDc⟩ rfl rfl hl.1 rfl (lv_room (Nat.le_of_ble_eq_true rfl)) d_PB_init_24 ⟨(Nat.le_of_ble_eq_true rfl), (Nat.le_of_ble_eq_true rfl)⟩) hS (fun q _ h => hFc q h) hFc (fun u t H1 locs ht hvm hw hB hz1 hk1 hS => ?_)
  obtain ⟨hP1, hD1⟩ := hB
  rw [ht] at hP1
  obtain ⟨hP, hD⟩ := va_join (wr := [(a0, .inr (10, [.ref q5, .null, .null, .null, .null, .null, .null, .int 0])), (q5, .inr (0, [.ref q7_9])), (q7_9, .inl (cB, 202000, .inl (by_ (fun _ => 0))))]) (w1 := [(q16, .inr (4, [.ref q5]))]) hP hD [3] [0, 1, 2] rfl rfl (by decide) (by decide) hk1 hFc hP1 hD1
  generalize H1 = H at hP hS ⊢
  refine W.widen (k := 3) (n := 202002) (Nat.le_refl _) (Nat.le_refl _) ?_
  have hP : va_P D vwCl [(a0, .inr (10, [.ref q5, .null, .null, .null, .null, .null, .null, .int 0])), (q5, .inr (0, [.ref q7_9])), (q7_9, .inl (cB, 202000, .inl (by_ (fun _ => 0)))), (q16, .inr (4, [.ref q5]))] H := hP
  have hD : va_D A [(a0, .inr (10, [.ref q5, .null, .null, .null, .null, .null, .null, .int 0])), (q5, .inr (0, [.ref q7_9])), (q7_9, .inl (cB, 202000, .inl (by_ (fun _ => 0)))), (q16, .inr (4, [.ref q5]))] := hD
  refine va_putF (D := D) (ci := 10) (v := .ref q16) (ty := .object "PipelineBelt$Checker") (C := R_PB) (T := T_PB) (N := 8) hx hb hT u_PB ty_PB tyok_PB nm_PB hown hK hP hD hS 0 rfl rfl 1 (by decide) (hT _ k_317) (fun _ h9 => h9) rfl hin rfl (by decide +kernel) rfl rfl (Nat.le_of_ble_eq_true rfl) d_PB_init_27 (fun H locs hP hD hS => ?_)
  have hP : va_P D vwCl [(a0, .inr (10, [.ref q5, .ref q16, .null, .null, .null, .null, .null, .int 0])), (q5, .inr (0, [.ref q7_9])), (q7_9, .inl (cB, 202000, .inl (by_ (fun _ => 0)))), (q16, .inr (4, [.ref q5]))] H := hP
  have hD : va_D A [(a0, .inr (10, [.ref q5, .ref q16, .null, .null, .null, .null, .null, .int 0])), (q5, .inr (0, [.ref q7_9])), (q7_9, .inl (cB, 202000, .inl (by_ (fun _ => 0)))), (q16, .inr (4, [.ref q5]))] := hD
  refine lv_aload_n hx hb d_PB_init_30 rfl (lv_at hl 0 rfl) ?_
  refine va_new (ci := 3) (fs := [.null, .null, .null, .null, .null]) (C := R_BS) (T := T_BS) (N := 5) hx hb hT u_BS ty_BS tyok_BS hown (hT _ k_53) (hT _ k_54) (hT _ k_4) hK hP hD hS hA rfl (fun j hj => by rcases (show j = 0 ∨ j = 1 ∨ j = 2 ∨ j = 3 ∨ j = 4 by omega) with rfl | rfl | rfl | rfl | rfl <;> rfl) (Nat.le_of_ble_eq_true rfl) (Nat.le_of_ble_eq_true rfl) d_PB_init_31 (fun q31 H hP hD hS => ?_)
  refine W.widen (k := 4) (n := 202007) (Nat.le_refl _) (Nat.le_refl _) ?_
  have hP : va_P D vwCl [(a0, .inr (10, [.ref q5, .ref q16, .null, .null, .null, .null, .null, .int 0])), (q5, .inr (0, [.ref q7_9])), (q7_9, .inl (cB, 202000, .inl (by_ (fun _ => 0)))), (q16, .inr (4, [.ref q5])), (q31, .inr (3, [.null, .null, .null, .null, .null]))] H := hP
  have hD : va_D A [(a0, .inr (10, [.ref q5, .ref q16, .null, .null, .null, .null, .null, .int 0])), (q5, .inr (0, [.ref q7_9])), (q7_9, .inl (cB, 202000, .inl (by_ (fun _ => 0)))), (q16, .inr (4, [.ref q5])), (q31, .inr (3, [.null, .null, .null, .null, .null]))] := hD
  refine lv_dup hx hb d_PB_init_34 rfl ?_
  refine lv_aload_n hx hb d_PB_init_35 rfl (lv_at hl 0 rfl) ?_
  refine va_get (D := D) (ci := 10) (v := .ref q5) (C := R_PB) (T := T_PB) (N := 8) hx hb hT u_PB hown hK hP 0 rfl rfl 0 (by decide) (hT _ k_316) (fun _ h9 => h9) rfl d_PB_init_36 ?_
  have hPc := hP.sub (ws' := [(q31, .inr (3, [.null, .null, .null, .null, .null]))]) [4] rfl
  have hDc := hD.sub (ws' := [(q31, .inr (3, [.null, .null, .null, .null, .null]))]) [4] (by decide) rfl
  have hFc := va_free (wc := [(q31, .inr (3, [.null, .null, .null, .null, .null]))]) hD hS hA [4] rfl
  refine va_callv (va_runI (As := [.ref q5]) (rest := [.ref q31, .ref a0]) ⟨hx, hb, hml, hown, hT⟩ (c_BS_init l D cB cI q31 q5 H.size) (cwI 1 hT (gC_of kc_BS_init) rfl rfl rfl (hT _ k_4) (hT _ k_55) (hT _ k_56) rfl hd_BS_init.2 ⟨(Nat.le_of_ble_eq_true rfl), (Nat.le_of_ble_eq_true rfl)⟩) ⟨mi_blind, mi_pre hk hxk hPc hDc⟩ rfl rfl hl.1 rfl (lv_room (Nat.le_of_ble_eq_true rfl)) d_PB_init_39 ⟨(Nat.le_of_ble_eq_true rfl), (Nat.le_of_ble_eq_true rfl)⟩) hS (fun q _ h => hFc q h) hFc (fun u t H1 locs ht hvm hw hB hz1 hk1 hS => ?_)
  obtain ⟨q10_39, q22_39, q8_29_39, q36_39, q8_42_39, q49_39, q8_55_39, hP1, hD1⟩ := hB
  rw [ht] at hP1
  obtain ⟨hP, hD⟩ := va_join (wr := [(a0, .inr (10, [.ref q5, .ref q16, .null, .null, .null, .null, .null, .int 0])), (q5, .inr (0, [.ref q7_9])), (q7_9, .inl (cB, 202000, .inl (by_ (fun _ => 0)))), (q16, .inr (4, [.ref q5]))]) (w1 := [(q31, .inr (3, [.ref q5, .ref q10_39, .ref q22_39, .ref q36_39, .ref q49_39])), (q10_39, .inr (1, [.ref q5, .int 0, .int 0, .int 0])), (q22_39, .inr (2, [.int 2000, .ref q8_29_39, .int 0])), (q8_29_39, .inl (cI, 201, .inl (upd (fun _ => 0) (0 : Int32).toNatClampNeg 2000))), (q36_39, .inr (2, [.int 42000, .ref q8_42_39, .int 0])), (q8_42_39, .inl (cI, 201, .inl (upd (fun _ => 0) (0 : Int32).toNatClampNeg 42000))), (q49_39, .inr (2, [.int 82000, .ref q8_55_39, .int 0])), (q8_55_39, .inl (cI, 201, .inl (upd (fun _ => 0) (0 : Int32).toNatClampNeg 82000)))]) hP hD [4] [0, 1, 2, 3] rfl rfl (by decide) (by decide) hk1 hFc hP1 hD1
  generalize H1 = H at hP hS ⊢
  refine W.widen (k := 11) (n := 202623) (Nat.le_refl _) (Nat.le_refl _) ?_
  have hP : va_P D vwCl [(a0, .inr (10, [.ref q5, .ref q16, .null, .null, .null, .null, .null, .int 0])), (q5, .inr (0, [.ref q7_9])), (q7_9, .inl (cB, 202000, .inl (by_ (fun _ => 0)))), (q16, .inr (4, [.ref q5])), (q31, .inr (3, [.ref q5, .ref q10_39, .ref q22_39, .ref q36_39, .ref q49_39])), (q10_39, .inr (1, [.ref q5, .int 0, .int 0, .int 0])), (q22_39, .inr (2, [.int 2000, .ref q8_29_39, .int 0])), (q8_29_39, .inl (cI, 201, .inl (upd (fun _ => 0) (0 : Int32).toNatClampNeg 2000))), (q36_39, .inr (2, [.int 42000, .ref q8_42_39, .int 0])), (q8_42_39, .inl (cI, 201, .inl (upd (fun _ => 0) (0 : Int32).toNatClampNeg 42000))), (q49_39, .inr (2, [.int 82000, .ref q8_55_39, .int 0])), (q8_55_39, .inl (cI, 201, .inl (upd (fun _ => 0) (0 : Int32).toNatClampNeg 82000)))] H := hP
  have hD : va_D A [(a0, .inr (10, [.ref q5, .ref q16, .null, .null, .null, .null, .null, .int 0])), (q5, .inr (0, [.ref q7_9])), (q7_9, .inl (cB, 202000, .inl (by_ (fun _ => 0)))), (q16, .inr (4, [.ref q5])), (q31, .inr (3, [.ref q5, .ref q10_39, .ref q22_39, .ref q36_39, .ref q49_39])), (q10_39, .inr (1, [.ref q5, .int 0, .int 0, .int 0])), (q22_39, .inr (2, [.int 2000, .ref q8_29_39, .int 0])), (q8_29_39, .inl (cI, 201, .inl (upd (fun _ => 0) (0 : Int32).toNatClampNeg 2000))), (q36_39, .inr (2, [.int 42000, .ref q8_42_39, .int 0])), (q8_42_39, .inl (cI, 201, .inl (upd (fun _ => 0) (0 : Int32).toNatClampNeg 42000))), (q49_39, .inr (2, [.int 82000, .ref q8_55_39, .int 0])), (q8_55_39, .inl (cI, 201, .inl (upd (fun _ => 0) (0 : Int32).toNatClampNeg 82000)))] := hD
  refine va_putF (D := D) (ci := 10) (v := .ref q31) (ty := .object "PipelineBelt$Belts") (C := R_PB) (T := T_PB) (N := 8) hx hb hT u_PB ty_PB tyok_PB nm_PB hown hK hP hD hS 0 rfl rfl 2 (by decide) (hT _ k_318) (fun _ h9 => h9) rfl hin rfl (by decide +kernel) rfl rfl (Nat.le_of_ble_eq_true rfl) d_PB_init_42 (fun H locs hP hD hS => ?_)
  have hP : va_P D vwCl [(a0, .inr (10, [.ref q5, .ref q16, .ref q31, .null, .null, .null, .null, .int 0])), (q5, .inr (0, [.ref q7_9])), (q7_9, .inl (cB, 202000, .inl (by_ (fun _ => 0)))), (q16, .inr (4, [.ref q5])), (q31, .inr (3, [.ref q5, .ref q10_39, .ref q22_39, .ref q36_39, .ref q49_39])), (q10_39, .inr (1, [.ref q5, .int 0, .int 0, .int 0])), (q22_39, .inr (2, [.int 2000, .ref q8_29_39, .int 0])), (q8_29_39, .inl (cI, 201, .inl (upd (fun _ => 0) (0 : Int32).toNatClampNeg 2000))), (q36_39, .inr (2, [.int 42000, .ref q8_42_39, .int 0])), (q8_42_39, .inl (cI, 201, .inl (upd (fun _ => 0) (0 : Int32).toNatClampNeg 42000))), (q49_39, .inr (2, [.int 82000, .ref q8_55_39, .int 0])), (q8_55_39, .inl (cI, 201, .inl (upd (fun _ => 0) (0 : Int32).toNatClampNeg 82000)))] H := hP
  have hD : va_D A [(a0, .inr (10, [.ref q5, .ref q16, .ref q31, .null, .null, .null, .null, .int 0])), (q5, .inr (0, [.ref q7_9])), (q7_9, .inl (cB, 202000, .inl (by_ (fun _ => 0)))), (q16, .inr (4, [.ref q5])), (q31, .inr (3, [.ref q5, .ref q10_39, .ref q22_39, .ref q36_39, .ref q49_39])), (q10_39, .inr (1, [.ref q5, .int 0, .int 0, .int 0])), (q22_39, .inr (2, [.int 2000, .ref q8_29_39, .int 0])), (q8_29_39, .inl (cI, 201, .inl (upd (fun _ => 0) (0 : Int32).toNatClampNeg 2000))), (q36_39, .inr (2, [.int 42000, .ref q8_42_39, .int 0])), (q8_42_39, .inl (cI, 201, .inl (upd (fun _ => 0) (0 : Int32).toNatClampNeg 42000))), (q49_39, .inr (2, [.int 82000, .ref q8_55_39, .int 0])), (q8_55_39, .inl (cI, 201, .inl (upd (fun _ => 0) (0 : Int32).toNatClampNeg 82000)))] := hD
  refine va_new (ci := 5) (fs := [.null, .null, .null, .null, .null, .null, .int 0, .int 0, .int 0, .null, .null, .int 0, .int 0, .int 0, .int 0]) (C := R_PA) (T := T_PA) (N := 15) hx hb hT u_PA ty_PA tyok_PA hown (hT _ k_132) (hT _ k_133) (hT _ k_7) hK hP hD hS hA rfl (fun j hj => by rcases (show j = 0 ∨ j = 1 ∨ j = 2 ∨ j = 3 ∨ j = 4 ∨ j = 5 ∨ j = 6 ∨ j = 7 ∨ j = 8 ∨ j = 9 ∨ j = 10 ∨ j = 11 ∨ j = 12 ∨ j = 13 ∨ j = 14 by omega) with rfl | rfl | rfl | rfl | rfl | rfl | rfl | rfl | rfl | rfl | rfl | rfl | rfl | rfl | rfl <;> rfl) (Nat.le_of_ble_eq_true rfl) (Nat.le_of_ble_eq_true rfl) d_PB_init_45 (fun q45 H hP hD hS => ?_)
  refine W.widen (k := 12) (n := 202638) (Nat.le_refl _) (Nat.le_refl _) ?_
  have hP : va_P D vwCl [(a0, .inr (10, [.ref q5, .ref q16, .ref q31, .null, .null, .null, .null, .int 0])), (q5, .inr (0, [.ref q7_9])), (q7_9, .inl (cB, 202000, .inl (by_ (fun _ => 0)))), (q16, .inr (4, [.ref q5])), (q31, .inr (3, [.ref q5, .ref q10_39, .ref q22_39, .ref q36_39, .ref q49_39])), (q10_39, .inr (1, [.ref q5, .int 0, .int 0, .int 0])), (q22_39, .inr (2, [.int 2000, .ref q8_29_39, .int 0])), (q8_29_39, .inl (cI, 201, .inl (upd (fun _ => 0) (0 : Int32).toNatClampNeg 2000))), (q36_39, .inr (2, [.int 42000, .ref q8_42_39, .int 0])), (q8_42_39, .inl (cI, 201, .inl (upd (fun _ => 0) (0 : Int32).toNatClampNeg 42000))), (q49_39, .inr (2, [.int 82000, .ref q8_55_39, .int 0])), (q8_55_39, .inl (cI, 201, .inl (upd (fun _ => 0) (0 : Int32).toNatClampNeg 82000))), (q45, .inr (5, [.null, .null, .null, .null, .null, .null, .int 0, .int 0, .int 0, .null, .null, .int 0, .int 0, .int 0, .int 0]))] H := hP
  have hD : va_D A [(a0, .inr (10, [.ref q5, .ref q16, .ref q31, .null, .null, .null, .null, .int 0])), (q5, .inr (0, [.ref q7_9])), (q7_9, .inl (cB, 202000, .inl (by_ (fun _ => 0)))), (q16, .inr (4, [.ref q5])), (q31, .inr (3, [.ref q5, .ref q10_39, .ref q22_39, .ref q36_39, .ref q49_39])), (q10_39, .inr (1, [.ref q5, .int 0, .int 0, .int 0])), (q22_39, .inr (2, [.int 2000, .ref q8_29_39, .int 0])), (q8_29_39, .inl (cI, 201, .inl (upd (fun _ => 0) (0 : Int32).toNatClampNeg 2000))), (q36_39, .inr (2, [.int 42000, .ref q8_42_39, .int 0])), (q8_42_39, .inl (cI, 201, .inl (upd (fun _ => 0) (0 : Int32).toNatClampNeg 42000))), (q49_39, .inr (2, [.int 82000, .ref q8_55_39, .int 0])), (q8_55_39, .inl (cI, 201, .inl (upd (fun _ => 0) (0 : Int32).toNatClampNeg 82000))), (q45, .inr (5, [.null, .null, .null, .null, .null, .null, .int 0, .int 0, .int 0, .null, .null, .int 0, .int 0, .int 0, .int 0]))] := hD
  refine lv_dup hx hb d_PB_init_48 rfl ?_
  refine lv_aload_n hx hb d_PB_init_49 rfl (lv_at hl 0 rfl) ?_
  refine va_get (D := D) (ci := 10) (v := .ref q5) (C := R_PB) (T := T_PB) (N := 8) hx hb hT u_PB hown hK hP 0 rfl rfl 0 (by decide) (hT _ k_316) (fun _ h9 => h9) rfl d_PB_init_50 ?_
  have hPc := hP.sub (ws' := [(q45, .inr (5, [.null, .null, .null, .null, .null, .null, .int 0, .int 0, .int 0, .null, .null, .int 0, .int 0, .int 0, .int 0]))]) [12] rfl
  have hDc := hD.sub (ws' := [(q45, .inr (5, [.null, .null, .null, .null, .null, .null, .int 0, .int 0, .int 0, .null, .null, .int 0, .int 0, .int 0, .int 0]))]) [12] (by decide) rfl
  have hFc := va_free (wc := [(q45, .inr (5, [.null, .null, .null, .null, .null, .null, .int 0, .int 0, .int 0, .null, .null, .int 0, .int 0, .int 0, .int 0]))]) hD hS hA [12] rfl
  refine va_callv (va_runI (As := [.ref q5]) (rest := [.ref q45]) ⟨hx, hb, hml, hown, hT⟩ (c_PA_init l D cB cI q45 q5 H.size) (cwI 1 hT (gC_of kc_PA_init) rfl rfl rfl (hT _ k_7) (hT _ k_134) (hT _ k_135) rfl hd_PA_init.2 ⟨(Nat.le_of_ble_eq_true rfl), (Nat.le_of_ble_eq_true rfl)⟩) ⟨mi_blind, mi_pre hk hxk hPc hDc⟩ rfl rfl hl.1 rfl (lv_room (Nat.le_of_ble_eq_true rfl)) d_PB_init_53 ⟨(Nat.le_of_ble_eq_true rfl), (Nat.le_of_ble_eq_true rfl)⟩) hS (fun q _ h => hFc q h) hFc (fun u t H1 locs ht hvm hw hB hz1 hk1 hS => ?_)
  obtain ⟨q7_53, q15_53, q23_53, q31_53, q40_53, q49_53, q60_53, hP1, hD1⟩ := hB
  rw [ht] at hP1
  obtain ⟨hP, hD⟩ := va_join (wr := [(a0, .inr (10, [.ref q5, .ref q16, .ref q31, .null, .null, .null, .null, .int 0])), (q5, .inr (0, [.ref q7_9])), (q7_9, .inl (cB, 202000, .inl (by_ (fun _ => 0)))), (q16, .inr (4, [.ref q5])), (q31, .inr (3, [.ref q5, .ref q10_39, .ref q22_39, .ref q36_39, .ref q49_39])), (q10_39, .inr (1, [.ref q5, .int 0, .int 0, .int 0])), (q22_39, .inr (2, [.int 2000, .ref q8_29_39, .int 0])), (q8_29_39, .inl (cI, 201, .inl (upd (fun _ => 0) (0 : Int32).toNatClampNeg 2000))), (q36_39, .inr (2, [.int 42000, .ref q8_42_39, .int 0])), (q8_42_39, .inl (cI, 201, .inl (upd (fun _ => 0) (0 : Int32).toNatClampNeg 42000))), (q49_39, .inr (2, [.int 82000, .ref q8_55_39, .int 0])), (q8_55_39, .inl (cI, 201, .inl (upd (fun _ => 0) (0 : Int32).toNatClampNeg 82000)))]) (w1 := [(q45, .inr (5, [.ref q5, .ref q60_53, .ref q7_53, .ref q15_53, .ref q23_53, .ref q31_53, .int 0, .int 0, .int 0, .ref q40_53, .ref q49_53, .int 0, .int 0, .int 0, .int 0])), (q7_53, .inl (cI, 8, .inl (fun _ => 0))), (q15_53, .inl (cI, 8, .inl (fun _ => 0))), (q23_53, .inl (cI, 8, .inl (fun _ => 0))), (q31_53, .inl (cI, 8, .inl (fun _ => 0))), (q40_53, .inl (cI, 1001, .inl (fun _ => 0))), (q49_53, .inl (cI, 2000, .inl (fun _ => 0))), (q60_53, .inr (1, [.ref q5, .int 0, .int 0, .int 0]))]) hP hD [12] [0, 1, 2, 3, 4, 5, 6, 7, 8, 9, 10, 11] rfl rfl (by decide) (by decide) hk1 hFc hP1 hD1
  generalize H1 = H at hP hS ⊢
  refine W.widen (k := 19) (n := 205675) (Nat.le_refl _) (Nat.le_refl _) ?_
  have hP : va_P D vwCl [(a0, .inr (10, [.ref q5, .ref q16, .ref q31, .null, .null, .null, .null, .int 0])), (q5, .inr (0, [.ref q7_9])), (q7_9, .inl (cB, 202000, .inl (by_ (fun _ => 0)))), (q16, .inr (4, [.ref q5])), (q31, .inr (3, [.ref q5, .ref q10_39, .ref q22_39, .ref q36_39, .ref q49_39])), (q10_39, .inr (1, [.ref q5, .int 0, .int 0, .int 0])), (q22_39, .inr (2, [.int 2000, .ref q8_29_39, .int 0])), (q8_29_39, .inl (cI, 201, .inl (upd (fun _ => 0) (0 : Int32).toNatClampNeg 2000))), (q36_39, .inr (2, [.int 42000, .ref q8_42_39, .int 0])), (q8_42_39, .inl (cI, 201, .inl (upd (fun _ => 0) (0 : Int32).toNatClampNeg 42000))), (q49_39, .inr (2, [.int 82000, .ref q8_55_39, .int 0])), (q8_55_39, .inl (cI, 201, .inl (upd (fun _ => 0) (0 : Int32).toNatClampNeg 82000))), (q45, .inr (5, [.ref q5, .ref q60_53, .ref q7_53, .ref q15_53, .ref q23_53, .ref q31_53, .int 0, .int 0, .int 0, .ref q40_53, .ref q49_53, .int 0, .int 0, .int 0, .int 0])), (q7_53, .inl (cI, 8, .inl (fun _ => 0))), (q15_53, .inl (cI, 8, .inl (fun _ => 0))), (q23_53, .inl (cI, 8, .inl (fun _ => 0))), (q31_53, .inl (cI, 8, .inl (fun _ => 0))), (q40_53, .inl (cI, 1001, .inl (fun _ => 0))), (q49_53, .inl (cI, 2000, .inl (fun _ => 0))), (q60_53, .inr (1, [.ref q5, .int 0, .int 0, .int 0]))] H := hP
  have hD : va_D A [(a0, .inr (10, [.ref q5, .ref q16, .ref q31, .null, .null, .null, .null, .int 0])), (q5, .inr (0, [.ref q7_9])), (q7_9, .inl (cB, 202000, .inl (by_ (fun _ => 0)))), (q16, .inr (4, [.ref q5])), (q31, .inr (3, [.ref q5, .ref q10_39, .ref q22_39, .ref q36_39, .ref q49_39])), (q10_39, .inr (1, [.ref q5, .int 0, .int 0, .int 0])), (q22_39, .inr (2, [.int 2000, .ref q8_29_39, .int 0])), (q8_29_39, .inl (cI, 201, .inl (upd (fun _ => 0) (0 : Int32).toNatClampNeg 2000))), (q36_39, .inr (2, [.int 42000, .ref q8_42_39, .int 0])), (q8_42_39, .inl (cI, 201, .inl (upd (fun _ => 0) (0 : Int32).toNatClampNeg 42000))), (q49_39, .inr (2, [.int 82000, .ref q8_55_39, .int 0])), (q8_55_39, .inl (cI, 201, .inl (upd (fun _ => 0) (0 : Int32).toNatClampNeg 82000))), (q45, .inr (5, [.ref q5, .ref q60_53, .ref q7_53, .ref q15_53, .ref q23_53, .ref q31_53, .int 0, .int 0, .int 0, .ref q40_53, .ref q49_53, .int 0, .int 0, .int 0, .int 0])), (q7_53, .inl (cI, 8, .inl (fun _ => 0))), (q15_53, .inl (cI, 8, .inl (fun _ => 0))), (q23_53, .inl (cI, 8, .inl (fun _ => 0))), (q31_53, .inl (cI, 8, .inl (fun _ => 0))), (q40_53, .inl (cI, 1001, .inl (fun _ => 0))), (q49_53, .inl (cI, 2000, .inl (fun _ => 0))), (q60_53, .inr (1, [.ref q5, .int 0, .int 0, .int 0]))] := hD
  refine lv_astore_n (lv' := [(1, .ref q45), (0, .ref a0)]) hx hb d_PB_init_56 rfl hl (by decide) rfl (fun ls hl => ?_)
  refine lv_aload_n hx hb d_PB_init_57 rfl (lv_at hl 1 rfl) ?_
  refine va_new (ci := 6) (fs := [.null, .null, .null]) (C := R_SH) (T := T_SH) (N := 3) hx hb hT u_SH ty_SH tyok_SH hown (hT _ k_190) (hT _ k_191) (hT _ k_8) hK hP hD hS hA rfl (fun j hj => by rcases (show j = 0 ∨ j = 1 ∨ j = 2 by omega) with rfl | rfl | rfl <;> rfl) (Nat.le_of_ble_eq_true rfl) (Nat.le_of_ble_eq_true rfl) d_PB_init_58 (fun q58 H hP hD hS => ?_)
  refine W.widen (k := 20) (n := 205678) (Nat.le_refl _) (Nat.le_refl _) ?_
  have hP : va_P D vwCl [(a0, .inr (10, [.ref q5, .ref q16, .ref q31, .null, .null, .null, .null, .int 0])), (q5, .inr (0, [.ref q7_9])), (q7_9, .inl (cB, 202000, .inl (by_ (fun _ => 0)))), (q16, .inr (4, [.ref q5])), (q31, .inr (3, [.ref q5, .ref q10_39, .ref q22_39, .ref q36_39, .ref q49_39])), (q10_39, .inr (1, [.ref q5, .int 0, .int 0, .int 0])), (q22_39, .inr (2, [.int 2000, .ref q8_29_39, .int 0])), (q8_29_39, .inl (cI, 201, .inl (upd (fun _ => 0) (0 : Int32).toNatClampNeg 2000))), (q36_39, .inr (2, [.int 42000, .ref q8_42_39, .int 0])), (q8_42_39, .inl (cI, 201, .inl (upd (fun _ => 0) (0 : Int32).toNatClampNeg 42000))), (q49_39, .inr (2, [.int 82000, .ref q8_55_39, .int 0])), (q8_55_39, .inl (cI, 201, .inl (upd (fun _ => 0) (0 : Int32).toNatClampNeg 82000))), (q45, .inr (5, [.ref q5, .ref q60_53, .ref q7_53, .ref q15_53, .ref q23_53, .ref q31_53, .int 0, .int 0, .int 0, .ref q40_53, .ref q49_53, .int 0, .int 0, .int 0, .int 0])), (q7_53, .inl (cI, 8, .inl (fun _ => 0))), (q15_53, .inl (cI, 8, .inl (fun _ => 0))), (q23_53, .inl (cI, 8, .inl (fun _ => 0))), (q31_53, .inl (cI, 8, .inl (fun _ => 0))), (q40_53, .inl (cI, 1001, .inl (fun _ => 0))), (q49_53, .inl (cI, 2000, .inl (fun _ => 0))), (q60_53, .inr (1, [.ref q5, .int 0, .int 0, .int 0])), (q58, .inr (6, [.null, .null, .null]))] H := hP
  have hD : va_D A [(a0, .inr (10, [.ref q5, .ref q16, .ref q31, .null, .null, .null, .null, .int 0])), (q5, .inr (0, [.ref q7_9])), (q7_9, .inl (cB, 202000, .inl (by_ (fun _ => 0)))), (q16, .inr (4, [.ref q5])), (q31, .inr (3, [.ref q5, .ref q10_39, .ref q22_39, .ref q36_39, .ref q49_39])), (q10_39, .inr (1, [.ref q5, .int 0, .int 0, .int 0])), (q22_39, .inr (2, [.int 2000, .ref q8_29_39, .int 0])), (q8_29_39, .inl (cI, 201, .inl (upd (fun _ => 0) (0 : Int32).toNatClampNeg 2000))), (q36_39, .inr (2, [.int 42000, .ref q8_42_39, .int 0])), (q8_42_39, .inl (cI, 201, .inl (upd (fun _ => 0) (0 : Int32).toNatClampNeg 42000))), (q49_39, .inr (2, [.int 82000, .ref q8_55_39, .int 0])), (q8_55_39, .inl (cI, 201, .inl (upd (fun _ => 0) (0 : Int32).toNatClampNeg 82000))), (q45, .inr (5, [.ref q5, .ref q60_53, .ref q7_53, .ref q15_53, .ref q23_53, .ref q31_53, .int 0, .int 0, .int 0, .ref q40_53, .ref q49_53, .int 0, .int 0, .int 0, .int 0])), (q7_53, .inl (cI, 8, .inl (fun _ => 0))), (q15_53, .inl (cI, 8, .inl (fun _ => 0))), (q23_53, .inl (cI, 8, .inl (fun _ => 0))), (q31_53, .inl (cI, 8, .inl (fun _ => 0))), (q40_53, .inl (cI, 1001, .inl (fun _ => 0))), (q49_53, .inl (cI, 2000, .inl (fun _ => 0))), (q60_53, .inr (1, [.ref q5, .int 0, .int 0, .int 0])), (q58, .inr (6, [.null, .null, .null]))] := hD
  refine lv_dup hx hb d_PB_init_61 rfl ?_
  refine lv_aload_n hx hb d_PB_init_62 rfl (lv_at hl 1 rfl) ?_
  refine va_get (D := D) (ci := 10) (v := .ref q5) (C := R_PB) (T := T_PB) (N := 8) hx hb hT u_PB hown hK hP 0 rfl rfl 0 (by decide) (hT _ k_316) (fun _ h9 => h9) rfl d_PB_init_63 ?_
  refine lv_aload_n hx hb d_PB_init_66 rfl (lv_at hl 1 rfl) ?_
  refine va_get (D := D) (ci := 10) (v := .ref q31) (C := R_PB) (T := T_PB) (N := 8) hx hb hT u_PB hown hK hP 0 rfl rfl 2 (by decide) (hT _ k_318) (fun _ h9 => h9) rfl d_PB_init_67 ?_
  refine lv_aload_n hx hb d_PB_init_70 rfl (lv_at hl 0 rfl) ?_
  have hPc := hP.sub (ws' := [(q58, .inr (6, [.null, .null, .null]))]) [20] rfl
  have hDc := hD.sub (ws' := [(q58, .inr (6, [.null, .null, .null]))]) [20] (by decide) rfl
  have hFc := va_free (wc := [(q58, .inr (6, [.null, .null, .null]))]) hD hS hA [20] rfl
  refine va_callv (va_runI (As := [.ref q5, .ref q31, .ref q45]) (rest := [.ref q58, .ref a0]) ⟨hx, hb, hml, hown, hT⟩ (c_SH_init l D cB cI q58 q5 q31 q45 H.size) (cwI 3 hT (gC_of kc_SH_init) rfl rfl rfl (hT _ k_8) (hT _ k_192) (hT _ k_193) rfl hd_SH_init.2 ⟨(Nat.le_of_ble_eq_true rfl), (Nat.le_of_ble_eq_true rfl)⟩) ⟨mi_blind, mi_pre hk hxk hPc hDc⟩ rfl rfl hl.1 rfl (lv_room (Nat.le_of_ble_eq_true rfl)) d_PB_init_71 ⟨(Nat.le_of_ble_eq_true rfl), (Nat.le_of_ble_eq_true rfl)⟩) hS (fun q _ h => hFc q h) hFc (fun u t H1 locs ht hvm hw hB hz1 hk1 hS => ?_)
  obtain ⟨hP1, hD1⟩ := hB
  rw [ht] at hP1
  obtain ⟨hP, hD⟩ := va_join (wr := [(a0, .inr (10, [.ref q5, .ref q16, .ref q31, .null, .null, .null, .null, .int 0])), (q5, .inr (0, [.ref q7_9])), (q7_9, .inl (cB, 202000, .inl (by_ (fun _ => 0)))), (q16, .inr (4, [.ref q5])), (q31, .inr (3, [.ref q5, .ref q10_39, .ref q22_39, .ref q36_39, .ref q49_39])), (q10_39, .inr (1, [.ref q5, .int 0, .int 0, .int 0])), (q22_39, .inr (2, [.int 2000, .ref q8_29_39, .int 0])), (q8_29_39, .inl (cI, 201, .inl (upd (fun _ => 0) (0 : Int32).toNatClampNeg 2000))), (q36_39, .inr (2, [.int 42000, .ref q8_42_39, .int 0])), (q8_42_39, .inl (cI, 201, .inl (upd (fun _ => 0) (0 : Int32).toNatClampNeg 42000))), (q49_39, .inr (2, [.int 82000, .ref q8_55_39, .int 0])), (q8_55_39, .inl (cI, 201, .inl (upd (fun _ => 0) (0 : Int32).toNatClampNeg 82000))), (q45, .inr (5, [.ref q5, .ref q60_53, .ref q7_53, .ref q15_53, .ref q23_53, .ref q31_53, .int 0, .int 0, .int 0, .ref q40_53, .ref q49_53, .int 0, .int 0, .int 0, .int 0])), (q7_53, .inl (cI, 8, .inl (fun _ => 0))), (q15_53, .inl (cI, 8, .inl (fun _ => 0))), (q23_53, .inl (cI, 8, .inl (fun _ => 0))), (q31_53, .inl (cI, 8, .inl (fun _ => 0))), (q40_53, .inl (cI, 1001, .inl (fun _ => 0))), (q49_53, .inl (cI, 2000, .inl (fun _ => 0))), (q60_53, .inr (1, [.ref q5, .int 0, .int 0, .int 0]))]) (w1 := [(q58, .inr (6, [.ref q5, .ref q31, .ref q45]))]) hP hD [20] [0, 1, 2, 3, 4, 5, 6, 7, 8, 9, 10, 11, 12, 13, 14, 15, 16, 17, 18, 19] rfl rfl (by decide) (by decide) hk1 hFc hP1 hD1
  generalize H1 = H at hP hS ⊢
  refine W.widen (k := 20) (n := 205678) (Nat.le_refl _) (Nat.le_refl _) ?_
  have hP : va_P D vwCl [(a0, .inr (10, [.ref q5, .ref q16, .ref q31, .null, .null, .null, .null, .int 0])), (q5, .inr (0, [.ref q7_9])), (q7_9, .inl (cB, 202000, .inl (by_ (fun _ => 0)))), (q16, .inr (4, [.ref q5])), (q31, .inr (3, [.ref q5, .ref q10_39, .ref q22_39, .ref q36_39, .ref q49_39])), (q10_39, .inr (1, [.ref q5, .int 0, .int 0, .int 0])), (q22_39, .inr (2, [.int 2000, .ref q8_29_39, .int 0])), (q8_29_39, .inl (cI, 201, .inl (upd (fun _ => 0) (0 : Int32).toNatClampNeg 2000))), (q36_39, .inr (2, [.int 42000, .ref q8_42_39, .int 0])), (q8_42_39, .inl (cI, 201, .inl (upd (fun _ => 0) (0 : Int32).toNatClampNeg 42000))), (q49_39, .inr (2, [.int 82000, .ref q8_55_39, .int 0])), (q8_55_39, .inl (cI, 201, .inl (upd (fun _ => 0) (0 : Int32).toNatClampNeg 82000))), (q45, .inr (5, [.ref q5, .ref q60_53, .ref q7_53, .ref q15_53, .ref q23_53, .ref q31_53, .int 0, .int 0, .int 0, .ref q40_53, .ref q49_53, .int 0, .int 0, .int 0, .int 0])), (q7_53, .inl (cI, 8, .inl (fun _ => 0))), (q15_53, .inl (cI, 8, .inl (fun _ => 0))), (q23_53, .inl (cI, 8, .inl (fun _ => 0))), (q31_53, .inl (cI, 8, .inl (fun _ => 0))), (q40_53, .inl (cI, 1001, .inl (fun _ => 0))), (q49_53, .inl (cI, 2000, .inl (fun _ => 0))), (q60_53, .inr (1, [.ref q5, .int 0, .int 0, .int 0])), (q58, .inr (6, [.ref q5, .ref q31, .ref q45]))] H := hP
  have hD : va_D A [(a0, .inr (10, [.ref q5, .ref q16, .ref q31, .null, .null, .null, .null, .int 0])), (q5, .inr (0, [.ref q7_9])), (q7_9, .inl (cB, 202000, .inl (by_ (fun _ => 0)))), (q16, .inr (4, [.ref q5])), (q31, .inr (3, [.ref q5, .ref q10_39, .ref q22_39, .ref q36_39, .ref q49_39])), (q10_39, .inr (1, [.ref q5, .int 0, .int 0, .int 0])), (q22_39, .inr (2, [.int 2000, .ref q8_29_39, .int 0])), (q8_29_39, .inl (cI, 201, .inl (upd (fun _ => 0) (0 : Int32).toNatClampNeg 2000))), (q36_39, .inr (2, [.int 42000, .ref q8_42_39, .int 0])), (q8_42_39, .inl (cI, 201, .inl (upd (fun _ => 0) (0 : Int32).toNatClampNeg 42000))), (q49_39, .inr (2, [.int 82000, .ref q8_55_39, .int 0])), (q8_55_39, .inl (cI, 201, .inl (upd (fun _ => 0) (0 : Int32).toNatClampNeg 82000))), (q45, .inr (5, [.ref q5, .ref q60_53, .ref q7_53, .ref q15_53, .ref q23_53, .ref q31_53, .int 0, .int 0, .int 0, .ref q40_53, .ref q49_53, .int 0, .int 0, .int 0, .int 0])), (q7_53, .inl (cI, 8, .inl (fun _ => 0))), (q15_53, .inl (cI, 8, .inl (fun _ => 0))), (q23_53, .inl (cI, 8, .inl (fun _ => 0))), (q31_53, .inl (cI, 8, .inl (fun _ => 0))), (q40_53, .inl (cI, 1001, .inl (fun _ => 0))), (q49_53, .inl (cI, 2000, .inl (fun _ => 0))), (q60_53, .inr (1, [.ref q5, .int 0, .int 0, .int 0])), (q58, .inr (6, [.ref q5, .ref q31, .ref q45]))] := hD
  refine va_putF (D := D) (ci := 10) (v := .ref q58) (ty := .object "PipelineBelt$Shaper") (C := R_PB) (T := T_PB) (N := 8) hx hb hT u_PB ty_PB tyok_PB nm_PB hown hK hP hD hS 0 rfl rfl 3 (by decide) (hT _ k_319) (fun _ h9 => h9) rfl hin rfl (by decide +kernel) rfl rfl (Nat.le_of_ble_eq_true rfl) d_PB_init_74 (fun H locs hP hD hS => ?_)
  have hP : va_P D vwCl [(a0, .inr (10, [.ref q5, .ref q16, .ref q31, .ref q58, .null, .null, .null, .int 0])), (q5, .inr (0, [.ref q7_9])), (q7_9, .inl (cB, 202000, .inl (by_ (fun _ => 0)))), (q16, .inr (4, [.ref q5])), (q31, .inr (3, [.ref q5, .ref q10_39, .ref q22_39, .ref q36_39, .ref q49_39])), (q10_39, .inr (1, [.ref q5, .int 0, .int 0, .int 0])), (q22_39, .inr (2, [.int 2000, .ref q8_29_39, .int 0])), (q8_29_39, .inl (cI, 201, .inl (upd (fun _ => 0) (0 : Int32).toNatClampNeg 2000))), (q36_39, .inr (2, [.int 42000, .ref q8_42_39, .int 0])), (q8_42_39, .inl (cI, 201, .inl (upd (fun _ => 0) (0 : Int32).toNatClampNeg 42000))), (q49_39, .inr (2, [.int 82000, .ref q8_55_39, .int 0])), (q8_55_39, .inl (cI, 201, .inl (upd (fun _ => 0) (0 : Int32).toNatClampNeg 82000))), (q45, .inr (5, [.ref q5, .ref q60_53, .ref q7_53, .ref q15_53, .ref q23_53, .ref q31_53, .int 0, .int 0, .int 0, .ref q40_53, .ref q49_53, .int 0, .int 0, .int 0, .int 0])), (q7_53, .inl (cI, 8, .inl (fun _ => 0))), (q15_53, .inl (cI, 8, .inl (fun _ => 0))), (q23_53, .inl (cI, 8, .inl (fun _ => 0))), (q31_53, .inl (cI, 8, .inl (fun _ => 0))), (q40_53, .inl (cI, 1001, .inl (fun _ => 0))), (q49_53, .inl (cI, 2000, .inl (fun _ => 0))), (q60_53, .inr (1, [.ref q5, .int 0, .int 0, .int 0])), (q58, .inr (6, [.ref q5, .ref q31, .ref q45]))] H := hP
  have hD : va_D A [(a0, .inr (10, [.ref q5, .ref q16, .ref q31, .ref q58, .null, .null, .null, .int 0])), (q5, .inr (0, [.ref q7_9])), (q7_9, .inl (cB, 202000, .inl (by_ (fun _ => 0)))), (q16, .inr (4, [.ref q5])), (q31, .inr (3, [.ref q5, .ref q10_39, .ref q22_39, .ref q36_39, .ref q49_39])), (q10_39, .inr (1, [.ref q5, .int 0, .int 0, .int 0])), (q22_39, .inr (2, [.int 2000, .ref q8_29_39, .int 0])), (q8_29_39, .inl (cI, 201, .inl (upd (fun _ => 0) (0 : Int32).toNatClampNeg 2000))), (q36_39, .inr (2, [.int 42000, .ref q8_42_39, .int 0])), (q8_42_39, .inl (cI, 201, .inl (upd (fun _ => 0) (0 : Int32).toNatClampNeg 42000))), (q49_39, .inr (2, [.int 82000, .ref q8_55_39, .int 0])), (q8_55_39, .inl (cI, 201, .inl (upd (fun _ => 0) (0 : Int32).toNatClampNeg 82000))), (q45, .inr (5, [.ref q5, .ref q60_53, .ref q7_53, .ref q15_53, .ref q23_53, .ref q31_53, .int 0, .int 0, .int 0, .ref q40_53, .ref q49_53, .int 0, .int 0, .int 0, .int 0])), (q7_53, .inl (cI, 8, .inl (fun _ => 0))), (q15_53, .inl (cI, 8, .inl (fun _ => 0))), (q23_53, .inl (cI, 8, .inl (fun _ => 0))), (q31_53, .inl (cI, 8, .inl (fun _ => 0))), (q40_53, .inl (cI, 1001, .inl (fun _ => 0))), (q49_53, .inl (cI, 2000, .inl (fun _ => 0))), (q60_53, .inr (1, [.ref q5, .int 0, .int 0, .int 0])), (q58, .inr (6, [.ref q5, .ref q31, .ref q45]))] := hD
  refine lv_aload_n hx hb d_PB_init_77 rfl (lv_at hl 1 rfl) ?_
  refine va_new (ci := 7) (fs := [.null, .null, .null, .null, .null, .null, .null, .null, .int 0, .null, .int 0, .long 0]) (C := R_GR) (T := T_GR) (N := 12) hx hb hT u_GR ty_GR tyok_GR hown (hT _ k_206) (hT _ k_207) (hT _ k_9) hK hP hD hS hA rfl (fun j hj => by rcases (show j = 0 ∨ j = 1 ∨ j = 2 ∨ j = 3 ∨ j = 4 ∨ j = 5 ∨ j = 6 ∨ j = 7 ∨ j = 8 ∨ j = 9 ∨ j = 10 ∨ j = 11 by omega) with rfl | rfl | rfl | rfl | rfl | rfl | rfl | rfl | rfl | rfl | rfl | rfl <;> rfl) (Nat.le_of_ble_eq_true rfl) (Nat.le_of_ble_eq_true rfl) d_PB_init_78 (fun q78 H hP hD hS => ?_)
  refine W.widen (k := 21) (n := 205690) (Nat.le_refl _) (Nat.le_refl _) ?_
  have hP : va_P D vwCl [(a0, .inr (10, [.ref q5, .ref q16, .ref q31, .ref q58, .null, .null, .null, .int 0])), (q5, .inr (0, [.ref q7_9])), (q7_9, .inl (cB, 202000, .inl (by_ (fun _ => 0)))), (q16, .inr (4, [.ref q5])), (q31, .inr (3, [.ref q5, .ref q10_39, .ref q22_39, .ref q36_39, .ref q49_39])), (q10_39, .inr (1, [.ref q5, .int 0, .int 0, .int 0])), (q22_39, .inr (2, [.int 2000, .ref q8_29_39, .int 0])), (q8_29_39, .inl (cI, 201, .inl (upd (fun _ => 0) (0 : Int32).toNatClampNeg 2000))), (q36_39, .inr (2, [.int 42000, .ref q8_42_39, .int 0])), (q8_42_39, .inl (cI, 201, .inl (upd (fun _ => 0) (0 : Int32).toNatClampNeg 42000))), (q49_39, .inr (2, [.int 82000, .ref q8_55_39, .int 0])), (q8_55_39, .inl (cI, 201, .inl (upd (fun _ => 0) (0 : Int32).toNatClampNeg 82000))), (q45, .inr (5, [.ref q5, .ref q60_53, .ref q7_53, .ref q15_53, .ref q23_53, .ref q31_53, .int 0, .int 0, .int 0, .ref q40_53, .ref q49_53, .int 0, .int 0, .int 0, .int 0])), (q7_53, .inl (cI, 8, .inl (fun _ => 0))), (q15_53, .inl (cI, 8, .inl (fun _ => 0))), (q23_53, .inl (cI, 8, .inl (fun _ => 0))), (q31_53, .inl (cI, 8, .inl (fun _ => 0))), (q40_53, .inl (cI, 1001, .inl (fun _ => 0))), (q49_53, .inl (cI, 2000, .inl (fun _ => 0))), (q60_53, .inr (1, [.ref q5, .int 0, .int 0, .int 0])), (q58, .inr (6, [.ref q5, .ref q31, .ref q45])), (q78, .inr (7, [.null, .null, .null, .null, .null, .null, .null, .null, .int 0, .null, .int 0, .long 0]))] H := hP
  have hD : va_D A [(a0, .inr (10, [.ref q5, .ref q16, .ref q31, .ref q58, .null, .null, .null, .int 0])), (q5, .inr (0, [.ref q7_9])), (q7_9, .inl (cB, 202000, .inl (by_ (fun _ => 0)))), (q16, .inr (4, [.ref q5])), (q31, .inr (3, [.ref q5, .ref q10_39, .ref q22_39, .ref q36_39, .ref q49_39])), (q10_39, .inr (1, [.ref q5, .int 0, .int 0, .int 0])), (q22_39, .inr (2, [.int 2000, .ref q8_29_39, .int 0])), (q8_29_39, .inl (cI, 201, .inl (upd (fun _ => 0) (0 : Int32).toNatClampNeg 2000))), (q36_39, .inr (2, [.int 42000, .ref q8_42_39, .int 0])), (q8_42_39, .inl (cI, 201, .inl (upd (fun _ => 0) (0 : Int32).toNatClampNeg 42000))), (q49_39, .inr (2, [.int 82000, .ref q8_55_39, .int 0])), (q8_55_39, .inl (cI, 201, .inl (upd (fun _ => 0) (0 : Int32).toNatClampNeg 82000))), (q45, .inr (5, [.ref q5, .ref q60_53, .ref q7_53, .ref q15_53, .ref q23_53, .ref q31_53, .int 0, .int 0, .int 0, .ref q40_53, .ref q49_53, .int 0, .int 0, .int 0, .int 0])), (q7_53, .inl (cI, 8, .inl (fun _ => 0))), (q15_53, .inl (cI, 8, .inl (fun _ => 0))), (q23_53, .inl (cI, 8, .inl (fun _ => 0))), (q31_53, .inl (cI, 8, .inl (fun _ => 0))), (q40_53, .inl (cI, 1001, .inl (fun _ => 0))), (q49_53, .inl (cI, 2000, .inl (fun _ => 0))), (q60_53, .inr (1, [.ref q5, .int 0, .int 0, .int 0])), (q58, .inr (6, [.ref q5, .ref q31, .ref q45])), (q78, .inr (7, [.null, .null, .null, .null, .null, .null, .null, .null, .int 0, .null, .int 0, .long 0]))] := hD
  refine lv_dup hx hb d_PB_init_81 rfl ?_
  refine lv_aload_n hx hb d_PB_init_82 rfl (lv_at hl 1 rfl) ?_
  refine va_get (D := D) (ci := 10) (v := .ref q5) (C := R_PB) (T := T_PB) (N := 8) hx hb hT u_PB hown hK hP 0 rfl rfl 0 (by decide) (hT _ k_316) (fun _ h9 => h9) rfl d_PB_init_83 ?_
  refine lv_aload_n hx hb d_PB_init_86 rfl (lv_at hl 1 rfl) ?_
  refine va_get (D := D) (ci := 10) (v := .ref q31) (C := R_PB) (T := T_PB) (N := 8) hx hb hT u_PB hown hK hP 0 rfl rfl 2 (by decide) (hT _ k_318) (fun _ h9 => h9) rfl d_PB_init_87 ?_
  refine lv_aload_n hx hb d_PB_init_90 rfl (lv_at hl 0 rfl) ?_
  have hPc := hP.sub (ws' := [(q78, .inr (7, [.null, .null, .null, .null, .null, .null, .null, .null, .int 0, .null, .int 0, .long 0]))]) [21] rfl
  have hDc := hD.sub (ws' := [(q78, .inr (7, [.null, .null, .null, .null, .null, .null, .null, .null, .int 0, .null, .int 0, .long 0]))]) [21] (by decide) rfl
  have hFc := va_free (wc := [(q78, .inr (7, [.null, .null, .null, .null, .null, .null, .null, .null, .int 0, .null, .int 0, .long 0]))]) hD hS hA [21] rfl
  refine va_callv (va_runI (As := [.ref q5, .ref q31, .ref q45]) (rest := [.ref q78, .ref a0]) ⟨hx, hb, hml, hown, hT⟩ (c_GR_init l D cB cI q78 q5 q31 q45 H.size) (cwI 3 hT (gC_of kc_GR_init) rfl rfl rfl (hT _ k_9) (hT _ k_208) (hT _ k_209) rfl hd_GR_init.2 ⟨(Nat.le_of_ble_eq_true rfl), (Nat.le_of_ble_eq_true rfl)⟩) ⟨mi_blind, mi_pre hk hxk hPc hDc⟩ rfl rfl hl.1 rfl (lv_room (Nat.le_of_ble_eq_true rfl)) d_PB_init_91 ⟨(Nat.le_of_ble_eq_true rfl), (Nat.le_of_ble_eq_true rfl)⟩) hS (fun q _ h => hFc q h) hFc (fun u t H1 locs ht hvm hw hB hz1 hk1 hS => ?_)
  obtain ⟨q8_91, q17_91, q26_91, q35_91, q44_91, q53_91, hP1, hD1⟩ := hB
  rw [ht] at hP1
  obtain ⟨hP, hD⟩ := va_join (wr := [(a0, .inr (10, [.ref q5, .ref q16, .ref q31, .ref q58, .null, .null, .null, .int 0])), (q5, .inr (0, [.ref q7_9])), (q7_9, .inl (cB, 202000, .inl (by_ (fun _ => 0)))), (q16, .inr (4, [.ref q5])), (q31, .inr (3, [.ref q5, .ref q10_39, .ref q22_39, .ref q36_39, .ref q49_39])), (q10_39, .inr (1, [.ref q5, .int 0, .int 0, .int 0])), (q22_39, .inr (2, [.int 2000, .ref q8_29_39, .int 0])), (q8_29_39, .inl (cI, 201, .inl (upd (fun _ => 0) (0 : Int32).toNatClampNeg 2000))), (q36_39, .inr (2, [.int 42000, .ref q8_42_39, .int 0])), (q8_42_39, .inl (cI, 201, .inl (upd (fun _ => 0) (0 : Int32).toNatClampNeg 42000))), (q49_39, .inr (2, [.int 82000, .ref q8_55_39, .int 0])), (q8_55_39, .inl (cI, 201, .inl (upd (fun _ => 0) (0 : Int32).toNatClampNeg 82000))), (q45, .inr (5, [.ref q5, .ref q60_53, .ref q7_53, .ref q15_53, .ref q23_53, .ref q31_53, .int 0, .int 0, .int 0, .ref q40_53, .ref q49_53, .int 0, .int 0, .int 0, .int 0])), (q7_53, .inl (cI, 8, .inl (fun _ => 0))), (q15_53, .inl (cI, 8, .inl (fun _ => 0))), (q23_53, .inl (cI, 8, .inl (fun _ => 0))), (q31_53, .inl (cI, 8, .inl (fun _ => 0))), (q40_53, .inl (cI, 1001, .inl (fun _ => 0))), (q49_53, .inl (cI, 2000, .inl (fun _ => 0))), (q60_53, .inr (1, [.ref q5, .int 0, .int 0, .int 0])), (q58, .inr (6, [.ref q5, .ref q31, .ref q45]))]) (w1 := [(q78, .inr (7, [.ref q5, .ref q31, .ref q45, .ref q8_91, .ref q17_91, .ref q26_91, .ref q35_91, .ref q44_91, .int 0, .ref q53_91, .int 0, .long 0])), (q8_91, .inl (cI, 200, .inl (fun _ => 0))), (q17_91, .inl (cI, 200, .inl (fun _ => 0))), (q26_91, .inl (cI, 200, .inl (fun _ => 0))), (q35_91, .inl (cI, 200, .inl (fun _ => 0))), (q44_91, .inl (cI, 200, .inl (fun _ => 0))), (q53_91, .inl (cI, 200, .inl (fun _ => 0)))]) hP hD [21] [0, 1, 2, 3, 4, 5, 6, 7, 8, 9, 10, 11, 12, 13, 14, 15, 16, 17, 18, 19, 20] rfl rfl (by decide) (by decide) hk1 hFc hP1 hD1
  generalize H1 = H at hP hS ⊢
  refine W.widen (k := 27) (n := 206890) (Nat.le_refl _) (Nat.le_refl _) ?_
  have hP : va_P D vwCl [(a0, .inr (10, [.ref q5, .ref q16, .ref q31, .ref q58, .null, .null, .null, .int 0])), (q5, .inr (0, [.ref q7_9])), (q7_9, .inl (cB, 202000, .inl (by_ (fun _ => 0)))), (q16, .inr (4, [.ref q5])), (q31, .inr (3, [.ref q5, .ref q10_39, .ref q22_39, .ref q36_39, .ref q49_39])), (q10_39, .inr (1, [.ref q5, .int 0, .int 0, .int 0])), (q22_39, .inr (2, [.int 2000, .ref q8_29_39, .int 0])), (q8_29_39, .inl (cI, 201, .inl (upd (fun _ => 0) (0 : Int32).toNatClampNeg 2000))), (q36_39, .inr (2, [.int 42000, .ref q8_42_39, .int 0])), (q8_42_39, .inl (cI, 201, .inl (upd (fun _ => 0) (0 : Int32).toNatClampNeg 42000))), (q49_39, .inr (2, [.int 82000, .ref q8_55_39, .int 0])), (q8_55_39, .inl (cI, 201, .inl (upd (fun _ => 0) (0 : Int32).toNatClampNeg 82000))), (q45, .inr (5, [.ref q5, .ref q60_53, .ref q7_53, .ref q15_53, .ref q23_53, .ref q31_53, .int 0, .int 0, .int 0, .ref q40_53, .ref q49_53, .int 0, .int 0, .int 0, .int 0])), (q7_53, .inl (cI, 8, .inl (fun _ => 0))), (q15_53, .inl (cI, 8, .inl (fun _ => 0))), (q23_53, .inl (cI, 8, .inl (fun _ => 0))), (q31_53, .inl (cI, 8, .inl (fun _ => 0))), (q40_53, .inl (cI, 1001, .inl (fun _ => 0))), (q49_53, .inl (cI, 2000, .inl (fun _ => 0))), (q60_53, .inr (1, [.ref q5, .int 0, .int 0, .int 0])), (q58, .inr (6, [.ref q5, .ref q31, .ref q45])), (q78, .inr (7, [.ref q5, .ref q31, .ref q45, .ref q8_91, .ref q17_91, .ref q26_91, .ref q35_91, .ref q44_91, .int 0, .ref q53_91, .int 0, .long 0])), (q8_91, .inl (cI, 200, .inl (fun _ => 0))), (q17_91, .inl (cI, 200, .inl (fun _ => 0))), (q26_91, .inl (cI, 200, .inl (fun _ => 0))), (q35_91, .inl (cI, 200, .inl (fun _ => 0))), (q44_91, .inl (cI, 200, .inl (fun _ => 0))), (q53_91, .inl (cI, 200, .inl (fun _ => 0)))] H := hP
  have hD : va_D A [(a0, .inr (10, [.ref q5, .ref q16, .ref q31, .ref q58, .null, .null, .null, .int 0])), (q5, .inr (0, [.ref q7_9])), (q7_9, .inl (cB, 202000, .inl (by_ (fun _ => 0)))), (q16, .inr (4, [.ref q5])), (q31, .inr (3, [.ref q5, .ref q10_39, .ref q22_39, .ref q36_39, .ref q49_39])), (q10_39, .inr (1, [.ref q5, .int 0, .int 0, .int 0])), (q22_39, .inr (2, [.int 2000, .ref q8_29_39, .int 0])), (q8_29_39, .inl (cI, 201, .inl (upd (fun _ => 0) (0 : Int32).toNatClampNeg 2000))), (q36_39, .inr (2, [.int 42000, .ref q8_42_39, .int 0])), (q8_42_39, .inl (cI, 201, .inl (upd (fun _ => 0) (0 : Int32).toNatClampNeg 42000))), (q49_39, .inr (2, [.int 82000, .ref q8_55_39, .int 0])), (q8_55_39, .inl (cI, 201, .inl (upd (fun _ => 0) (0 : Int32).toNatClampNeg 82000))), (q45, .inr (5, [.ref q5, .ref q60_53, .ref q7_53, .ref q15_53, .ref q23_53, .ref q31_53, .int 0, .int 0, .int 0, .ref q40_53, .ref q49_53, .int 0, .int 0, .int 0, .int 0])), (q7_53, .inl (cI, 8, .inl (fun _ => 0))), (q15_53, .inl (cI, 8, .inl (fun _ => 0))), (q23_53, .inl (cI, 8, .inl (fun _ => 0))), (q31_53, .inl (cI, 8, .inl (fun _ => 0))), (q40_53, .inl (cI, 1001, .inl (fun _ => 0))), (q49_53, .inl (cI, 2000, .inl (fun _ => 0))), (q60_53, .inr (1, [.ref q5, .int 0, .int 0, .int 0])), (q58, .inr (6, [.ref q5, .ref q31, .ref q45])), (q78, .inr (7, [.ref q5, .ref q31, .ref q45, .ref q8_91, .ref q17_91, .ref q26_91, .ref q35_91, .ref q44_91, .int 0, .ref q53_91, .int 0, .long 0])), (q8_91, .inl (cI, 200, .inl (fun _ => 0))), (q17_91, .inl (cI, 200, .inl (fun _ => 0))), (q26_91, .inl (cI, 200, .inl (fun _ => 0))), (q35_91, .inl (cI, 200, .inl (fun _ => 0))), (q44_91, .inl (cI, 200, .inl (fun _ => 0))), (q53_91, .inl (cI, 200, .inl (fun _ => 0)))] := hD
  refine va_putF (D := D) (ci := 10) (v := .ref q78) (ty := .object "PipelineBelt$Grouper") (C := R_PB) (T := T_PB) (N := 8) hx hb hT u_PB ty_PB tyok_PB nm_PB hown hK hP hD hS 0 rfl rfl 4 (by decide) (hT _ k_320) (fun _ h9 => h9) rfl hin rfl (by decide +kernel) rfl rfl (Nat.le_of_ble_eq_true rfl) d_PB_init_94 (fun H locs hP hD hS => ?_)
  have hP : va_P D vwCl [(a0, .inr (10, [.ref q5, .ref q16, .ref q31, .ref q58, .ref q78, .null, .null, .int 0])), (q5, .inr (0, [.ref q7_9])), (q7_9, .inl (cB, 202000, .inl (by_ (fun _ => 0)))), (q16, .inr (4, [.ref q5])), (q31, .inr (3, [.ref q5, .ref q10_39, .ref q22_39, .ref q36_39, .ref q49_39])), (q10_39, .inr (1, [.ref q5, .int 0, .int 0, .int 0])), (q22_39, .inr (2, [.int 2000, .ref q8_29_39, .int 0])), (q8_29_39, .inl (cI, 201, .inl (upd (fun _ => 0) (0 : Int32).toNatClampNeg 2000))), (q36_39, .inr (2, [.int 42000, .ref q8_42_39, .int 0])), (q8_42_39, .inl (cI, 201, .inl (upd (fun _ => 0) (0 : Int32).toNatClampNeg 42000))), (q49_39, .inr (2, [.int 82000, .ref q8_55_39, .int 0])), (q8_55_39, .inl (cI, 201, .inl (upd (fun _ => 0) (0 : Int32).toNatClampNeg 82000))), (q45, .inr (5, [.ref q5, .ref q60_53, .ref q7_53, .ref q15_53, .ref q23_53, .ref q31_53, .int 0, .int 0, .int 0, .ref q40_53, .ref q49_53, .int 0, .int 0, .int 0, .int 0])), (q7_53, .inl (cI, 8, .inl (fun _ => 0))), (q15_53, .inl (cI, 8, .inl (fun _ => 0))), (q23_53, .inl (cI, 8, .inl (fun _ => 0))), (q31_53, .inl (cI, 8, .inl (fun _ => 0))), (q40_53, .inl (cI, 1001, .inl (fun _ => 0))), (q49_53, .inl (cI, 2000, .inl (fun _ => 0))), (q60_53, .inr (1, [.ref q5, .int 0, .int 0, .int 0])), (q58, .inr (6, [.ref q5, .ref q31, .ref q45])), (q78, .inr (7, [.ref q5, .ref q31, .ref q45, .ref q8_91, .ref q17_91, .ref q26_91, .ref q35_91, .ref q44_91, .int 0, .ref q53_91, .int 0, .long 0])), (q8_91, .inl (cI, 200, .inl (fun _ => 0))), (q17_91, .inl (cI, 200, .inl (fun _ => 0))), (q26_91, .inl (cI, 200, .inl (fun _ => 0))), (q35_91, .inl (cI, 200, .inl (fun _ => 0))), (q44_91, .inl (cI, 200, .inl (fun _ => 0))), (q53_91, .inl (cI, 200, .inl (fun _ => 0)))] H := hP
  have hD : va_D A [(a0, .inr (10, [.ref q5, .ref q16, .ref q31, .ref q58, .ref q78, .null, .null, .int 0])), (q5, .inr (0, [.ref q7_9])), (q7_9, .inl (cB, 202000, .inl (by_ (fun _ => 0)))), (q16, .inr (4, [.ref q5])), (q31, .inr (3, [.ref q5, .ref q10_39, .ref q22_39, .ref q36_39, .ref q49_39])), (q10_39, .inr (1, [.ref q5, .int 0, .int 0, .int 0])), (q22_39, .inr (2, [.int 2000, .ref q8_29_39, .int 0])), (q8_29_39, .inl (cI, 201, .inl (upd (fun _ => 0) (0 : Int32).toNatClampNeg 2000))), (q36_39, .inr (2, [.int 42000, .ref q8_42_39, .int 0])), (q8_42_39, .inl (cI, 201, .inl (upd (fun _ => 0) (0 : Int32).toNatClampNeg 42000))), (q49_39, .inr (2, [.int 82000, .ref q8_55_39, .int 0])), (q8_55_39, .inl (cI, 201, .inl (upd (fun _ => 0) (0 : Int32).toNatClampNeg 82000))), (q45, .inr (5, [.ref q5, .ref q60_53, .ref q7_53, .ref q15_53, .ref q23_53, .ref q31_53, .int 0, .int 0, .int 0, .ref q40_53, .ref q49_53, .int 0, .int 0, .int 0, .int 0])), (q7_53, .inl (cI, 8, .inl (fun _ => 0))), (q15_53, .inl (cI, 8, .inl (fun _ => 0))), (q23_53, .inl (cI, 8, .inl (fun _ => 0))), (q31_53, .inl (cI, 8, .inl (fun _ => 0))), (q40_53, .inl (cI, 1001, .inl (fun _ => 0))), (q49_53, .inl (cI, 2000, .inl (fun _ => 0))), (q60_53, .inr (1, [.ref q5, .int 0, .int 0, .int 0])), (q58, .inr (6, [.ref q5, .ref q31, .ref q45])), (q78, .inr (7, [.ref q5, .ref q31, .ref q45, .ref q8_91, .ref q17_91, .ref q26_91, .ref q35_91, .ref q44_91, .int 0, .ref q53_91, .int 0, .long 0])), (q8_91, .inl (cI, 200, .inl (fun _ => 0))), (q17_91, .inl (cI, 200, .inl (fun _ => 0))), (q26_91, .inl (cI, 200, .inl (fun _ => 0))), (q35_91, .inl (cI, 200, .inl (fun _ => 0))), (q44_91, .inl (cI, 200, .inl (fun _ => 0))), (q53_91, .inl (cI, 200, .inl (fun _ => 0)))] := hD
  refine lv_aload_n hx hb d_PB_init_97 rfl (lv_at hl 1 rfl) ?_
  refine va_new (ci := 8) (fs := [.null, .null, .null, .null, .null, .null, .int 0]) (C := R_SO) (T := T_SO) (N := 7) hx hb hT u_SO ty_SO tyok_SO hown (hT _ k_249) (hT _ k_250) (hT _ k_10) hK hP hD hS hA rfl (fun j hj => by rcases (show j = 0 ∨ j = 1 ∨ j = 2 ∨ j = 3 ∨ j = 4 ∨ j = 5 ∨ j = 6 by omega) with rfl | rfl | rfl | rfl | rfl | rfl | rfl <;> rfl) (Nat.le_of_ble_eq_true rfl) (Nat.le_of_ble_eq_true rfl) d_PB_init_98 (fun q98 H hP hD hS => ?_)
  refine W.widen (k := 28) (n := 206897) (Nat.le_refl _) (Nat.le_refl _) ?_
  have hP : va_P D vwCl [(a0, .inr (10, [.ref q5, .ref q16, .ref q31, .ref q58, .ref q78, .null, .null, .int 0])), (q5, .inr (0, [.ref q7_9])), (q7_9, .inl (cB, 202000, .inl (by_ (fun _ => 0)))), (q16, .inr (4, [.ref q5])), (q31, .inr (3, [.ref q5, .ref q10_39, .ref q22_39, .ref q36_39, .ref q49_39])), (q10_39, .inr (1, [.ref q5, .int 0, .int 0, .int 0])), (q22_39, .inr (2, [.int 2000, .ref q8_29_39, .int 0])), (q8_29_39, .inl (cI, 201, .inl (upd (fun _ => 0) (0 : Int32).toNatClampNeg 2000))), (q36_39, .inr (2, [.int 42000, .ref q8_42_39, .int 0])), (q8_42_39, .inl (cI, 201, .inl (upd (fun _ => 0) (0 : Int32).toNatClampNeg 42000))), (q49_39, .inr (2, [.int 82000, .ref q8_55_39, .int 0])), (q8_55_39, .inl (cI, 201, .inl (upd (fun _ => 0) (0 : Int32).toNatClampNeg 82000))), (q45, .inr (5, [.ref q5, .ref q60_53, .ref q7_53, .ref q15_53, .ref q23_53, .ref q31_53, .int 0, .int 0, .int 0, .ref q40_53, .ref q49_53, .int 0, .int 0, .int 0, .int 0])), (q7_53, .inl (cI, 8, .inl (fun _ => 0))), (q15_53, .inl (cI, 8, .inl (fun _ => 0))), (q23_53, .inl (cI, 8, .inl (fun _ => 0))), (q31_53, .inl (cI, 8, .inl (fun _ => 0))), (q40_53, .inl (cI, 1001, .inl (fun _ => 0))), (q49_53, .inl (cI, 2000, .inl (fun _ => 0))), (q60_53, .inr (1, [.ref q5, .int 0, .int 0, .int 0])), (q58, .inr (6, [.ref q5, .ref q31, .ref q45])), (q78, .inr (7, [.ref q5, .ref q31, .ref q45, .ref q8_91, .ref q17_91, .ref q26_91, .ref q35_91, .ref q44_91, .int 0, .ref q53_91, .int 0, .long 0])), (q8_91, .inl (cI, 200, .inl (fun _ => 0))), (q17_91, .inl (cI, 200, .inl (fun _ => 0))), (q26_91, .inl (cI, 200, .inl (fun _ => 0))), (q35_91, .inl (cI, 200, .inl (fun _ => 0))), (q44_91, .inl (cI, 200, .inl (fun _ => 0))), (q53_91, .inl (cI, 200, .inl (fun _ => 0))), (q98, .inr (8, [.null, .null, .null, .null, .null, .null, .int 0]))] H := hP
  have hD : va_D A [(a0, .inr (10, [.ref q5, .ref q16, .ref q31, .ref q58, .ref q78, .null, .null, .int 0])), (q5, .inr (0, [.ref q7_9])), (q7_9, .inl (cB, 202000, .inl (by_ (fun _ => 0)))), (q16, .inr (4, [.ref q5])), (q31, .inr (3, [.ref q5, .ref q10_39, .ref q22_39, .ref q36_39, .ref q49_39])), (q10_39, .inr (1, [.ref q5, .int 0, .int 0, .int 0])), (q22_39, .inr (2, [.int 2000, .ref q8_29_39, .int 0])), (q8_29_39, .inl (cI, 201, .inl (upd (fun _ => 0) (0 : Int32).toNatClampNeg 2000))), (q36_39, .inr (2, [.int 42000, .ref q8_42_39, .int 0])), (q8_42_39, .inl (cI, 201, .inl (upd (fun _ => 0) (0 : Int32).toNatClampNeg 42000))), (q49_39, .inr (2, [.int 82000, .ref q8_55_39, .int 0])), (q8_55_39, .inl (cI, 201, .inl (upd (fun _ => 0) (0 : Int32).toNatClampNeg 82000))), (q45, .inr (5, [.ref q5, .ref q60_53, .ref q7_53, .ref q15_53, .ref q23_53, .ref q31_53, .int 0, .int 0, .int 0, .ref q40_53, .ref q49_53, .int 0, .int 0, .int 0, .int 0])), (q7_53, .inl (cI, 8, .inl (fun _ => 0))), (q15_53, .inl (cI, 8, .inl (fun _ => 0))), (q23_53, .inl (cI, 8, .inl (fun _ => 0))), (q31_53, .inl (cI, 8, .inl (fun _ => 0))), (q40_53, .inl (cI, 1001, .inl (fun _ => 0))), (q49_53, .inl (cI, 2000, .inl (fun _ => 0))), (q60_53, .inr (1, [.ref q5, .int 0, .int 0, .int 0])), (q58, .inr (6, [.ref q5, .ref q31, .ref q45])), (q78, .inr (7, [.ref q5, .ref q31, .ref q45, .ref q8_91, .ref q17_91, .ref q26_91, .ref q35_91, .ref q44_91, .int 0, .ref q53_91, .int 0, .long 0])), (q8_91, .inl (cI, 200, .inl (fun _ => 0))), (q17_91, .inl (cI, 200, .inl (fun _ => 0))), (q26_91, .inl (cI, 200, .inl (fun _ => 0))), (q35_91, .inl (cI, 200, .inl (fun _ => 0))), (q44_91, .inl (cI, 200, .inl (fun _ => 0))), (q53_91, .inl (cI, 200, .inl (fun _ => 0))), (q98, .inr (8, [.null, .null, .null, .null, .null, .null, .int 0]))] := hD
  refine lv_dup hx hb d_PB_init_101 rfl ?_
  refine lv_aload_n hx hb d_PB_init_102 rfl (lv_at hl 1 rfl) ?_
  refine va_get (D := D) (ci := 10) (v := .ref q5) (C := R_PB) (T := T_PB) (N := 8) hx hb hT u_PB hown hK hP 0 rfl rfl 0 (by decide) (hT _ k_316) (fun _ h9 => h9) rfl d_PB_init_103 ?_
  refine lv_aload_n hx hb d_PB_init_106 rfl (lv_at hl 1 rfl) ?_
  refine va_get (D := D) (ci := 10) (v := .ref q31) (C := R_PB) (T := T_PB) (N := 8) hx hb hT u_PB hown hK hP 0 rfl rfl 2 (by decide) (hT _ k_318) (fun _ h9 => h9) rfl d_PB_init_107 ?_
  refine lv_aload_n hx hb d_PB_init_110 rfl (lv_at hl 0 rfl) ?_
  have hPc := hP.sub (ws' := [(q98, .inr (8, [.null, .null, .null, .null, .null, .null, .int 0]))]) [28] rfl
  have hDc := hD.sub (ws' := [(q98, .inr (8, [.null, .null, .null, .null, .null, .null, .int 0]))]) [28] (by decide) rfl
  have hFc := va_free (wc := [(q98, .inr (8, [.null, .null, .null, .null, .null, .null, .int 0]))]) hD hS hA [28] rfl
  refine va_callv (va_runI (As := [.ref q5, .ref q31, .ref q45]) (rest := [.ref q98, .ref a0]) ⟨hx, hb, hml, hown, hT⟩ (c_SO_init l D cB cI q98 q5 q31 q45 H.size) (cwI 3 hT (gC_of kc_SO_init) rfl rfl rfl (hT _ k_10) (hT _ k_251) (hT _ k_252) rfl hd_SO_init.2 ⟨(Nat.le_of_ble_eq_true rfl), (Nat.le_of_ble_eq_true rfl)⟩) ⟨mi_blind, mi_pre hk hxk hPc hDc⟩ rfl rfl hl.1 rfl (lv_room (Nat.le_of_ble_eq_true rfl)) d_PB_init_111 ⟨(Nat.le_of_ble_eq_true rfl), (Nat.le_of_ble_eq_true rfl)⟩) hS (fun q _ h => hFc q h) hFc (fun u t H1 locs ht hvm hw hB hz1 hk1 hS => ?_)
  obtain ⟨q9_0_111, q9_1_111, q9_2_111, q9_3_111, q9_4_111, q18_111, q27_111, hP1, hD1⟩ := hB
  rw [ht] at hP1
  obtain ⟨hP, hD⟩ := va_join (wr := [(a0, .inr (10, [.ref q5, .ref q16, .ref q31, .ref q58, .ref q78, .null, .null, .int 0])), (q5, .inr (0, [.ref q7_9])), (q7_9, .inl (cB, 202000, .inl (by_ (fun _ => 0)))), (q16, .inr (4, [.ref q5])), (q31, .inr (3, [.ref q5, .ref q10_39, .ref q22_39, .ref q36_39, .ref q49_39])), (q10_39, .inr (1, [.ref q5, .int 0, .int 0, .int 0])), (q22_39, .inr (2, [.int 2000, .ref q8_29_39, .int 0])), (q8_29_39, .inl (cI, 201, .inl (upd (fun _ => 0) (0 : Int32).toNatClampNeg 2000))), (q36_39, .inr (2, [.int 42000, .ref q8_42_39, .int 0])), (q8_42_39, .inl (cI, 201, .inl (upd (fun _ => 0) (0 : Int32).toNatClampNeg 42000))), (q49_39, .inr (2, [.int 82000, .ref q8_55_39, .int 0])), (q8_55_39, .inl (cI, 201, .inl (upd (fun _ => 0) (0 : Int32).toNatClampNeg 82000))), (q45, .inr (5, [.ref q5, .ref q60_53, .ref q7_53, .ref q15_53, .ref q23_53, .ref q31_53, .int 0, .int 0, .int 0, .ref q40_53, .ref q49_53, .int 0, .int 0, .int 0, .int 0])), (q7_53, .inl (cI, 8, .inl (fun _ => 0))), (q15_53, .inl (cI, 8, .inl (fun _ => 0))), (q23_53, .inl (cI, 8, .inl (fun _ => 0))), (q31_53, .inl (cI, 8, .inl (fun _ => 0))), (q40_53, .inl (cI, 1001, .inl (fun _ => 0))), (q49_53, .inl (cI, 2000, .inl (fun _ => 0))), (q60_53, .inr (1, [.ref q5, .int 0, .int 0, .int 0])), (q58, .inr (6, [.ref q5, .ref q31, .ref q45])), (q78, .inr (7, [.ref q5, .ref q31, .ref q45, .ref q8_91, .ref q17_91, .ref q26_91, .ref q35_91, .ref q44_91, .int 0, .ref q53_91, .int 0, .long 0])), (q8_91, .inl (cI, 200, .inl (fun _ => 0))), (q17_91, .inl (cI, 200, .inl (fun _ => 0))), (q26_91, .inl (cI, 200, .inl (fun _ => 0))), (q35_91, .inl (cI, 200, .inl (fun _ => 0))), (q44_91, .inl (cI, 200, .inl (fun _ => 0))), (q53_91, .inl (cI, 200, .inl (fun _ => 0)))]) (w1 := [(q98, .inr (8, [.ref q5, .ref q31, .ref q45, .ref q9_0_111, .ref q18_111, .ref q27_111, .int 0])), (q9_0_111, .inl ((D.1 100), 4, .inr (.inr (.inr (.inr (fun j => if j = 0 then some q9_1_111 else if j = 1 then some q9_2_111 else if j = 2 then some q9_3_111 else some q9_4_111)))))), (q9_1_111, .inl (cI, 200, .inl (fun _ => 0))), (q9_2_111, .inl (cI, 200, .inl (fun _ => 0))), (q9_3_111, .inl (cI, 200, .inl (fun _ => 0))), (q9_4_111, .inl (cI, 200, .inl (fun _ => 0))), (q18_111, .inl (cI, 4, .inl (fun _ => 0))), (q27_111, .inl (cI, 200, .inl (fun _ => 0)))]) hP hD [28] [0, 1, 2, 3, 4, 5, 6, 7, 8, 9, 10, 11, 12, 13, 14, 15, 16, 17, 18, 19, 20, 21, 22, 23, 24, 25, 26, 27] rfl rfl (by decide) (by decide) hk1 hFc hP1 hD1
  generalize H1 = H at hP hS ⊢
  refine W.widen (k := 35) (n := 207905) (Nat.le_refl _) (Nat.le_refl _) ?_
  have hP : va_P D vwCl [(a0, .inr (10, [.ref q5, .ref q16, .ref q31, .ref q58, .ref q78, .null, .null, .int 0])), (q5, .inr (0, [.ref q7_9])), (q7_9, .inl (cB, 202000, .inl (by_ (fun _ => 0)))), (q16, .inr (4, [.ref q5])), (q31, .inr (3, [.ref q5, .ref q10_39, .ref q22_39, .ref q36_39, .ref q49_39])), (q10_39, .inr (1, [.ref q5, .int 0, .int 0, .int 0])), (q22_39, .inr (2, [.int 2000, .ref q8_29_39, .int 0])), (q8_29_39, .inl (cI, 201, .inl (upd (fun _ => 0) (0 : Int32).toNatClampNeg 2000))), (q36_39, .inr (2, [.int 42000, .ref q8_42_39, .int 0])), (q8_42_39, .inl (cI, 201, .inl (upd (fun _ => 0) (0 : Int32).toNatClampNeg 42000))), (q49_39, .inr (2, [.int 82000, .ref q8_55_39, .int 0])), (q8_55_39, .inl (cI, 201, .inl (upd (fun _ => 0) (0 : Int32).toNatClampNeg 82000))), (q45, .inr (5, [.ref q5, .ref q60_53, .ref q7_53, .ref q15_53, .ref q23_53, .ref q31_53, .int 0, .int 0, .int 0, .ref q40_53, .ref q49_53, .int 0, .int 0, .int 0, .int 0])), (q7_53, .inl (cI, 8, .inl (fun _ => 0))), (q15_53, .inl (cI, 8, .inl (fun _ => 0))), (q23_53, .inl (cI, 8, .inl (fun _ => 0))), (q31_53, .inl (cI, 8, .inl (fun _ => 0))), (q40_53, .inl (cI, 1001, .inl (fun _ => 0))), (q49_53, .inl (cI, 2000, .inl (fun _ => 0))), (q60_53, .inr (1, [.ref q5, .int 0, .int 0, .int 0])), (q58, .inr (6, [.ref q5, .ref q31, .ref q45])), (q78, .inr (7, [.ref q5, .ref q31, .ref q45, .ref q8_91, .ref q17_91, .ref q26_91, .ref q35_91, .ref q44_91, .int 0, .ref q53_91, .int 0, .long 0])), (q8_91, .inl (cI, 200, .inl (fun _ => 0))), (q17_91, .inl (cI, 200, .inl (fun _ => 0))), (q26_91, .inl (cI, 200, .inl (fun _ => 0))), (q35_91, .inl (cI, 200, .inl (fun _ => 0))), (q44_91, .inl (cI, 200, .inl (fun _ => 0))), (q53_91, .inl (cI, 200, .inl (fun _ => 0))), (q98, .inr (8, [.ref q5, .ref q31, .ref q45, .ref q9_0_111, .ref q18_111, .ref q27_111, .int 0])), (q9_0_111, .inl ((D.1 100), 4, .inr (.inr (.inr (.inr (fun j => if j = 0 then some q9_1_111 else if j = 1 then some q9_2_111 else if j = 2 then some q9_3_111 else some q9_4_111)))))), (q9_1_111, .inl (cI, 200, .inl (fun _ => 0))), (q9_2_111, .inl (cI, 200, .inl (fun _ => 0))), (q9_3_111, .inl (cI, 200, .inl (fun _ => 0))), (q9_4_111, .inl (cI, 200, .inl (fun _ => 0))), (q18_111, .inl (cI, 4, .inl (fun _ => 0))), (q27_111, .inl (cI, 200, .inl (fun _ => 0)))] H := hP
  have hD : va_D A [(a0, .inr (10, [.ref q5, .ref q16, .ref q31, .ref q58, .ref q78, .null, .null, .int 0])), (q5, .inr (0, [.ref q7_9])), (q7_9, .inl (cB, 202000, .inl (by_ (fun _ => 0)))), (q16, .inr (4, [.ref q5])), (q31, .inr (3, [.ref q5, .ref q10_39, .ref q22_39, .ref q36_39, .ref q49_39])), (q10_39, .inr (1, [.ref q5, .int 0, .int 0, .int 0])), (q22_39, .inr (2, [.int 2000, .ref q8_29_39, .int 0])), (q8_29_39, .inl (cI, 201, .inl (upd (fun _ => 0) (0 : Int32).toNatClampNeg 2000))), (q36_39, .inr (2, [.int 42000, .ref q8_42_39, .int 0])), (q8_42_39, .inl (cI, 201, .inl (upd (fun _ => 0) (0 : Int32).toNatClampNeg 42000))), (q49_39, .inr (2, [.int 82000, .ref q8_55_39, .int 0])), (q8_55_39, .inl (cI, 201, .inl (upd (fun _ => 0) (0 : Int32).toNatClampNeg 82000))), (q45, .inr (5, [.ref q5, .ref q60_53, .ref q7_53, .ref q15_53, .ref q23_53, .ref q31_53, .int 0, .int 0, .int 0, .ref q40_53, .ref q49_53, .int 0, .int 0, .int 0, .int 0])), (q7_53, .inl (cI, 8, .inl (fun _ => 0))), (q15_53, .inl (cI, 8, .inl (fun _ => 0))), (q23_53, .inl (cI, 8, .inl (fun _ => 0))), (q31_53, .inl (cI, 8, .inl (fun _ => 0))), (q40_53, .inl (cI, 1001, .inl (fun _ => 0))), (q49_53, .inl (cI, 2000, .inl (fun _ => 0))), (q60_53, .inr (1, [.ref q5, .int 0, .int 0, .int 0])), (q58, .inr (6, [.ref q5, .ref q31, .ref q45])), (q78, .inr (7, [.ref q5, .ref q31, .ref q45, .ref q8_91, .ref q17_91, .ref q26_91, .ref q35_91, .ref q44_91, .int 0, .ref q53_91, .int 0, .long 0])), (q8_91, .inl (cI, 200, .inl (fun _ => 0))), (q17_91, .inl (cI, 200, .inl (fun _ => 0))), (q26_91, .inl (cI, 200, .inl (fun _ => 0))), (q35_91, .inl (cI, 200, .inl (fun _ => 0))), (q44_91, .inl (cI, 200, .inl (fun _ => 0))), (q53_91, .inl (cI, 200, .inl (fun _ => 0))), (q98, .inr (8, [.ref q5, .ref q31, .ref q45, .ref q9_0_111, .ref q18_111, .ref q27_111, .int 0])), (q9_0_111, .inl ((D.1 100), 4, .inr (.inr (.inr (.inr (fun j => if j = 0 then some q9_1_111 else if j = 1 then some q9_2_111 else if j = 2 then some q9_3_111 else some q9_4_111)))))), (q9_1_111, .inl (cI, 200, .inl (fun _ => 0))), (q9_2_111, .inl (cI, 200, .inl (fun _ => 0))), (q9_3_111, .inl (cI, 200, .inl (fun _ => 0))), (q9_4_111, .inl (cI, 200, .inl (fun _ => 0))), (q18_111, .inl (cI, 4, .inl (fun _ => 0))), (q27_111, .inl (cI, 200, .inl (fun _ => 0)))] := hD
  refine va_putF (D := D) (ci := 10) (v := .ref q98) (ty := .object "PipelineBelt$Sorter") (C := R_PB) (T := T_PB) (N := 8) hx hb hT u_PB ty_PB tyok_PB nm_PB hown hK hP hD hS 0 rfl rfl 5 (by decide) (hT _ k_321) (fun _ h9 => h9) rfl hin rfl (by decide +kernel) rfl rfl (Nat.le_of_ble_eq_true rfl) d_PB_init_114 (fun H locs hP hD hS => ?_)
  have hP : va_P D vwCl [(a0, .inr (10, [.ref q5, .ref q16, .ref q31, .ref q58, .ref q78, .ref q98, .null, .int 0])), (q5, .inr (0, [.ref q7_9])), (q7_9, .inl (cB, 202000, .inl (by_ (fun _ => 0)))), (q16, .inr (4, [.ref q5])), (q31, .inr (3, [.ref q5, .ref q10_39, .ref q22_39, .ref q36_39, .ref q49_39])), (q10_39, .inr (1, [.ref q5, .int 0, .int 0, .int 0])), (q22_39, .inr (2, [.int 2000, .ref q8_29_39, .int 0])), (q8_29_39, .inl (cI, 201, .inl (upd (fun _ => 0) (0 : Int32).toNatClampNeg 2000))), (q36_39, .inr (2, [.int 42000, .ref q8_42_39, .int 0])), (q8_42_39, .inl (cI, 201, .inl (upd (fun _ => 0) (0 : Int32).toNatClampNeg 42000))), (q49_39, .inr (2, [.int 82000, .ref q8_55_39, .int 0])), (q8_55_39, .inl (cI, 201, .inl (upd (fun _ => 0) (0 : Int32).toNatClampNeg 82000))), (q45, .inr (5, [.ref q5, .ref q60_53, .ref q7_53, .ref q15_53, .ref q23_53, .ref q31_53, .int 0, .int 0, .int 0, .ref q40_53, .ref q49_53, .int 0, .int 0, .int 0, .int 0])), (q7_53, .inl (cI, 8, .inl (fun _ => 0))), (q15_53, .inl (cI, 8, .inl (fun _ => 0))), (q23_53, .inl (cI, 8, .inl (fun _ => 0))), (q31_53, .inl (cI, 8, .inl (fun _ => 0))), (q40_53, .inl (cI, 1001, .inl (fun _ => 0))), (q49_53, .inl (cI, 2000, .inl (fun _ => 0))), (q60_53, .inr (1, [.ref q5, .int 0, .int 0, .int 0])), (q58, .inr (6, [.ref q5, .ref q31, .ref q45])), (q78, .inr (7, [.ref q5, .ref q31, .ref q45, .ref q8_91, .ref q17_91, .ref q26_91, .ref q35_91, .ref q44_91, .int 0, .ref q53_91, .int 0, .long 0])), (q8_91, .inl (cI, 200, .inl (fun _ => 0))), (q17_91, .inl (cI, 200, .inl (fun _ => 0))), (q26_91, .inl (cI, 200, .inl (fun _ => 0))), (q35_91, .inl (cI, 200, .inl (fun _ => 0))), (q44_91, .inl (cI, 200, .inl (fun _ => 0))), (q53_91, .inl (cI, 200, .inl (fun _ => 0))), (q98, .inr (8, [.ref q5, .ref q31, .ref q45, .ref q9_0_111, .ref q18_111, .ref q27_111, .int 0])), (q9_0_111, .inl ((D.1 100), 4, .inr (.inr (.inr (.inr (fun j => if j = 0 then some q9_1_111 else if j = 1 then some q9_2_111 else if j = 2 then some q9_3_111 else some q9_4_111)))))), (q9_1_111, .inl (cI, 200, .inl (fun _ => 0))), (q9_2_111, .inl (cI, 200, .inl (fun _ => 0))), (q9_3_111, .inl (cI, 200, .inl (fun _ => 0))), (q9_4_111, .inl (cI, 200, .inl (fun _ => 0))), (q18_111, .inl (cI, 4, .inl (fun _ => 0))), (q27_111, .inl (cI, 200, .inl (fun _ => 0)))] H := hP
  have hD : va_D A [(a0, .inr (10, [.ref q5, .ref q16, .ref q31, .ref q58, .ref q78, .ref q98, .null, .int 0])), (q5, .inr (0, [.ref q7_9])), (q7_9, .inl (cB, 202000, .inl (by_ (fun _ => 0)))), (q16, .inr (4, [.ref q5])), (q31, .inr (3, [.ref q5, .ref q10_39, .ref q22_39, .ref q36_39, .ref q49_39])), (q10_39, .inr (1, [.ref q5, .int 0, .int 0, .int 0])), (q22_39, .inr (2, [.int 2000, .ref q8_29_39, .int 0])), (q8_29_39, .inl (cI, 201, .inl (upd (fun _ => 0) (0 : Int32).toNatClampNeg 2000))), (q36_39, .inr (2, [.int 42000, .ref q8_42_39, .int 0])), (q8_42_39, .inl (cI, 201, .inl (upd (fun _ => 0) (0 : Int32).toNatClampNeg 42000))), (q49_39, .inr (2, [.int 82000, .ref q8_55_39, .int 0])), (q8_55_39, .inl (cI, 201, .inl (upd (fun _ => 0) (0 : Int32).toNatClampNeg 82000))), (q45, .inr (5, [.ref q5, .ref q60_53, .ref q7_53, .ref q15_53, .ref q23_53, .ref q31_53, .int 0, .int 0, .int 0, .ref q40_53, .ref q49_53, .int 0, .int 0, .int 0, .int 0])), (q7_53, .inl (cI, 8, .inl (fun _ => 0))), (q15_53, .inl (cI, 8, .inl (fun _ => 0))), (q23_53, .inl (cI, 8, .inl (fun _ => 0))), (q31_53, .inl (cI, 8, .inl (fun _ => 0))), (q40_53, .inl (cI, 1001, .inl (fun _ => 0))), (q49_53, .inl (cI, 2000, .inl (fun _ => 0))), (q60_53, .inr (1, [.ref q5, .int 0, .int 0, .int 0])), (q58, .inr (6, [.ref q5, .ref q31, .ref q45])), (q78, .inr (7, [.ref q5, .ref q31, .ref q45, .ref q8_91, .ref q17_91, .ref q26_91, .ref q35_91, .ref q44_91, .int 0, .ref q53_91, .int 0, .long 0])), (q8_91, .inl (cI, 200, .inl (fun _ => 0))), (q17_91, .inl (cI, 200, .inl (fun _ => 0))), (q26_91, .inl (cI, 200, .inl (fun _ => 0))), (q35_91, .inl (cI, 200, .inl (fun _ => 0))), (q44_91, .inl (cI, 200, .inl (fun _ => 0))), (q53_91, .inl (cI, 200, .inl (fun _ => 0))), (q98, .inr (8, [.ref q5, .ref q31, .ref q45, .ref q9_0_111, .ref q18_111, .ref q27_111, .int 0])), (q9_0_111, .inl ((D.1 100), 4, .inr (.inr (.inr (.inr (fun j => if j = 0 then some q9_1_111 else if j = 1 then some q9_2_111 else if j = 2 then some q9_3_111 else some q9_4_111)))))), (q9_1_111, .inl (cI, 200, .inl (fun _ => 0))), (q9_2_111, .inl (cI, 200, .inl (fun _ => 0))), (q9_3_111, .inl (cI, 200, .inl (fun _ => 0))), (q9_4_111, .inl (cI, 200, .inl (fun _ => 0))), (q18_111, .inl (cI, 4, .inl (fun _ => 0))), (q27_111, .inl (cI, 200, .inl (fun _ => 0)))] := hD
  refine lv_aload_n hx hb d_PB_init_117 rfl (lv_at hl 1 rfl) ?_
  refine va_new (ci := 9) (fs := [.null, .null, .null, .null, .null, .null, .null, .null, .int 0, .null]) (C := R_FI) (T := T_FI) (N := 10) hx hb hT u_FI ty_FI tyok_FI hown (hT _ k_279) (hT _ k_280) (hT _ k_11) hK hP hD hS hA rfl (fun j hj => by rcases (show j = 0 ∨ j = 1 ∨ j = 2 ∨ j = 3 ∨ j = 4 ∨ j = 5 ∨ j = 6 ∨ j = 7 ∨ j = 8 ∨ j = 9 by omega) with rfl | rfl | rfl | rfl | rfl | rfl | rfl | rfl | rfl | rfl <;> rfl) (Nat.le_of_ble_eq_true rfl) (Nat.le_of_ble_eq_true rfl) d_PB_init_118 (fun q118 H hP hD hS => ?_)
  refine W.widen (k := 36) (n := 207915) (Nat.le_refl _) (Nat.le_refl _) ?_
  have hP : va_P D vwCl [(a0, .inr (10, [.ref q5, .ref q16, .ref q31, .ref q58, .ref q78, .ref q98, .null, .int 0])), (q5, .inr (0, [.ref q7_9])), (q7_9, .inl (cB, 202000, .inl (by_ (fun _ => 0)))), (q16, .inr (4, [.ref q5])), (q31, .inr (3, [.ref q5, .ref q10_39, .ref q22_39, .ref q36_39, .ref q49_39])), (q10_39, .inr (1, [.ref q5, .int 0, .int 0, .int 0])), (q22_39, .inr (2, [.int 2000, .ref q8_29_39, .int 0])), (q8_29_39, .inl (cI, 201, .inl (upd (fun _ => 0) (0 : Int32).toNatClampNeg 2000))), (q36_39, .inr (2, [.int 42000, .ref q8_42_39, .int 0])), (q8_42_39, .inl (cI, 201, .inl (upd (fun _ => 0) (0 : Int32).toNatClampNeg 42000))), (q49_39, .inr (2, [.int 82000, .ref q8_55_39, .int 0])), (q8_55_39, .inl (cI, 201, .inl (upd (fun _ => 0) (0 : Int32).toNatClampNeg 82000))), (q45, .inr (5, [.ref q5, .ref q60_53, .ref q7_53, .ref q15_53, .ref q23_53, .ref q31_53, .int 0, .int 0, .int 0, .ref q40_53, .ref q49_53, .int 0, .int 0, .int 0, .int 0])), (q7_53, .inl (cI, 8, .inl (fun _ => 0))), (q15_53, .inl (cI, 8, .inl (fun _ => 0))), (q23_53, .inl (cI, 8, .inl (fun _ => 0))), (q31_53, .inl (cI, 8, .inl (fun _ => 0))), (q40_53, .inl (cI, 1001, .inl (fun _ => 0))), (q49_53, .inl (cI, 2000, .inl (fun _ => 0))), (q60_53, .inr (1, [.ref q5, .int 0, .int 0, .int 0])), (q58, .inr (6, [.ref q5, .ref q31, .ref q45])), (q78, .inr (7, [.ref q5, .ref q31, .ref q45, .ref q8_91, .ref q17_91, .ref q26_91, .ref q35_91, .ref q44_91, .int 0, .ref q53_91, .int 0, .long 0])), (q8_91, .inl (cI, 200, .inl (fun _ => 0))), (q17_91, .inl (cI, 200, .inl (fun _ => 0))), (q26_91, .inl (cI, 200, .inl (fun _ => 0))), (q35_91, .inl (cI, 200, .inl (fun _ => 0))), (q44_91, .inl (cI, 200, .inl (fun _ => 0))), (q53_91, .inl (cI, 200, .inl (fun _ => 0))), (q98, .inr (8, [.ref q5, .ref q31, .ref q45, .ref q9_0_111, .ref q18_111, .ref q27_111, .int 0])), (q9_0_111, .inl ((D.1 100), 4, .inr (.inr (.inr (.inr (fun j => if j = 0 then some q9_1_111 else if j = 1 then some q9_2_111 else if j = 2 then some q9_3_111 else some q9_4_111)))))), (q9_1_111, .inl (cI, 200, .inl (fun _ => 0))), (q9_2_111, .inl (cI, 200, .inl (fun _ => 0))), (q9_3_111, .inl (cI, 200, .inl (fun _ => 0))), (q9_4_111, .inl (cI, 200, .inl (fun _ => 0))), (q18_111, .inl (cI, 4, .inl (fun _ => 0))), (q27_111, .inl (cI, 200, .inl (fun _ => 0))), (q118, .inr (9, [.null, .null, .null, .null, .null, .null, .null, .null, .int 0, .null]))] H := hP
  have hD : va_D A [(a0, .inr (10, [.ref q5, .ref q16, .ref q31, .ref q58, .ref q78, .ref q98, .null, .int 0])), (q5, .inr (0, [.ref q7_9])), (q7_9, .inl (cB, 202000, .inl (by_ (fun _ => 0)))), (q16, .inr (4, [.ref q5])), (q31, .inr (3, [.ref q5, .ref q10_39, .ref q22_39, .ref q36_39, .ref q49_39])), (q10_39, .inr (1, [.ref q5, .int 0, .int 0, .int 0])), (q22_39, .inr (2, [.int 2000, .ref q8_29_39, .int 0])), (q8_29_39, .inl (cI, 201, .inl (upd (fun _ => 0) (0 : Int32).toNatClampNeg 2000))), (q36_39, .inr (2, [.int 42000, .ref q8_42_39, .int 0])), (q8_42_39, .inl (cI, 201, .inl (upd (fun _ => 0) (0 : Int32).toNatClampNeg 42000))), (q49_39, .inr (2, [.int 82000, .ref q8_55_39, .int 0])), (q8_55_39, .inl (cI, 201, .inl (upd (fun _ => 0) (0 : Int32).toNatClampNeg 82000))), (q45, .inr (5, [.ref q5, .ref q60_53, .ref q7_53, .ref q15_53, .ref q23_53, .ref q31_53, .int 0, .int 0, .int 0, .ref q40_53, .ref q49_53, .int 0, .int 0, .int 0, .int 0])), (q7_53, .inl (cI, 8, .inl (fun _ => 0))), (q15_53, .inl (cI, 8, .inl (fun _ => 0))), (q23_53, .inl (cI, 8, .inl (fun _ => 0))), (q31_53, .inl (cI, 8, .inl (fun _ => 0))), (q40_53, .inl (cI, 1001, .inl (fun _ => 0))), (q49_53, .inl (cI, 2000, .inl (fun _ => 0))), (q60_53, .inr (1, [.ref q5, .int 0, .int 0, .int 0])), (q58, .inr (6, [.ref q5, .ref q31, .ref q45])), (q78, .inr (7, [.ref q5, .ref q31, .ref q45, .ref q8_91, .ref q17_91, .ref q26_91, .ref q35_91, .ref q44_91, .int 0, .ref q53_91, .int 0, .long 0])), (q8_91, .inl (cI, 200, .inl (fun _ => 0))), (q17_91, .inl (cI, 200, .inl (fun _ => 0))), (q26_91, .inl (cI, 200, .inl (fun _ => 0))), (q35_91, .inl (cI, 200, .inl (fun _ => 0))), (q44_91, .inl (cI, 200, .inl (fun _ => 0))), (q53_91, .inl (cI, 200, .inl (fun _ => 0))), (q98, .inr (8, [.ref q5, .ref q31, .ref q45, .ref q9_0_111, .ref q18_111, .ref q27_111, .int 0])), (q9_0_111, .inl ((D.1 100), 4, .inr (.inr (.inr (.inr (fun j => if j = 0 then some q9_1_111 else if j = 1 then some q9_2_111 else if j = 2 then some q9_3_111 else some q9_4_111)))))), (q9_1_111, .inl (cI, 200, .inl (fun _ => 0))), (q9_2_111, .inl (cI, 200, .inl (fun _ => 0))), (q9_3_111, .inl (cI, 200, .inl (fun _ => 0))), (q9_4_111, .inl (cI, 200, .inl (fun _ => 0))), (q18_111, .inl (cI, 4, .inl (fun _ => 0))), (q27_111, .inl (cI, 200, .inl (fun _ => 0))), (q118, .inr (9, [.null, .null, .null, .null, .null, .null, .null, .null, .int 0, .null]))] := hD
  refine lv_dup hx hb d_PB_init_121 rfl ?_
  refine lv_aload_n hx hb d_PB_init_122 rfl (lv_at hl 1 rfl) ?_
  refine va_get (D := D) (ci := 10) (v := .ref q5) (C := R_PB) (T := T_PB) (N := 8) hx hb hT u_PB hown hK hP 0 rfl rfl 0 (by decide) (hT _ k_316) (fun _ h9 => h9) rfl d_PB_init_123 ?_
  refine lv_aload_n hx hb d_PB_init_126 rfl (lv_at hl 1 rfl) ?_
  refine va_get (D := D) (ci := 10) (v := .ref q31) (C := R_PB) (T := T_PB) (N := 8) hx hb hT u_PB hown hK hP 0 rfl rfl 2 (by decide) (hT _ k_318) (fun _ h9 => h9) rfl d_PB_init_127 ?_
  refine lv_aload_n hx hb d_PB_init_130 rfl (lv_at hl 0 rfl) ?_
  have hPc := hP.sub (ws' := [(q118, .inr (9, [.null, .null, .null, .null, .null, .null, .null, .null, .int 0, .null]))]) [36] rfl
  have hDc := hD.sub (ws' := [(q118, .inr (9, [.null, .null, .null, .null, .null, .null, .null, .null, .int 0, .null]))]) [36] (by decide) rfl
  have hFc := va_free (wc := [(q118, .inr (9, [.null, .null, .null, .null, .null, .null, .null, .null, .int 0, .null]))]) hD hS hA [36] rfl
  refine va_callv (va_runI (As := [.ref q5, .ref q31, .ref q45]) (rest := [.ref q118, .ref a0]) ⟨hx, hb, hml, hown, hT⟩ (c_FI_init l D cB cI q118 q5 q31 q45 H.size) (cwI 3 hT (gC_of kc_FI_init) rfl rfl rfl (hT _ k_11) (hT _ k_281) (hT _ k_282) rfl hd_FI_init.2 ⟨(Nat.le_of_ble_eq_true rfl), (Nat.le_of_ble_eq_true rfl)⟩) ⟨mi_blind, mi_pre hk hxk hPc hDc⟩ rfl rfl hl.1 rfl (lv_room (Nat.le_of_ble_eq_true rfl)) d_PB_init_131 ⟨(Nat.le_of_ble_eq_true rfl), (Nat.le_of_ble_eq_true rfl)⟩) hS (fun q _ h => hFc q h) hFc (fun u t H1 locs ht hvm hw hB hz1 hk1 hS => ?_)
  obtain ⟨q8_131, q17_131, q26_131, q35_131, q44_131, q53_131, hP1, hD1⟩ := hB
  rw [ht] at hP1
  obtain ⟨hP, hD⟩ := va_join (wr := [(a0, .inr (10, [.ref q5, .ref q16, .ref q31, .ref q58, .ref q78, .ref q98, .null, .int 0])), (q5, .inr (0, [.ref q7_9])), (q7_9, .inl (cB, 202000, .inl (by_ (fun _ => 0)))), (q16, .inr (4, [.ref q5])), (q31, .inr (3, [.ref q5, .ref q10_39, .ref q22_39, .ref q36_39, .ref q49_39])), (q10_39, .inr (1, [.ref q5, .int 0, .int 0, .int 0])), (q22_39, .inr (2, [.int 2000, .ref q8_29_39, .int 0])), (q8_29_39, .inl (cI, 201, .inl (upd (fun _ => 0) (0 : Int32).toNatClampNeg 2000))), (q36_39, .inr (2, [.int 42000, .ref q8_42_39, .int 0])), (q8_42_39, .inl (cI, 201, .inl (upd (fun _ => 0) (0 : Int32).toNatClampNeg 42000))), (q49_39, .inr (2, [.int 82000, .ref q8_55_39, .int 0])), (q8_55_39, .inl (cI, 201, .inl (upd (fun _ => 0) (0 : Int32).toNatClampNeg 82000))), (q45, .inr (5, [.ref q5, .ref q60_53, .ref q7_53, .ref q15_53, .ref q23_53, .ref q31_53, .int 0, .int 0, .int 0, .ref q40_53, .ref q49_53, .int 0, .int 0, .int 0, .int 0])), (q7_53, .inl (cI, 8, .inl (fun _ => 0))), (q15_53, .inl (cI, 8, .inl (fun _ => 0))), (q23_53, .inl (cI, 8, .inl (fun _ => 0))), (q31_53, .inl (cI, 8, .inl (fun _ => 0))), (q40_53, .inl (cI, 1001, .inl (fun _ => 0))), (q49_53, .inl (cI, 2000, .inl (fun _ => 0))), (q60_53, .inr (1, [.ref q5, .int 0, .int 0, .int 0])), (q58, .inr (6, [.ref q5, .ref q31, .ref q45])), (q78, .inr (7, [.ref q5, .ref q31, .ref q45, .ref q8_91, .ref q17_91, .ref q26_91, .ref q35_91, .ref q44_91, .int 0, .ref q53_91, .int 0, .long 0])), (q8_91, .inl (cI, 200, .inl (fun _ => 0))), (q17_91, .inl (cI, 200, .inl (fun _ => 0))), (q26_91, .inl (cI, 200, .inl (fun _ => 0))), (q35_91, .inl (cI, 200, .inl (fun _ => 0))), (q44_91, .inl (cI, 200, .inl (fun _ => 0))), (q53_91, .inl (cI, 200, .inl (fun _ => 0))), (q98, .inr (8, [.ref q5, .ref q31, .ref q45, .ref q9_0_111, .ref q18_111, .ref q27_111, .int 0])), (q9_0_111, .inl ((D.1 100), 4, .inr (.inr (.inr (.inr (fun j => if j = 0 then some q9_1_111 else if j = 1 then some q9_2_111 else if j = 2 then some q9_3_111 else some q9_4_111)))))), (q9_1_111, .inl (cI, 200, .inl (fun _ => 0))), (q9_2_111, .inl (cI, 200, .inl (fun _ => 0))), (q9_3_111, .inl (cI, 200, .inl (fun _ => 0))), (q9_4_111, .inl (cI, 200, .inl (fun _ => 0))), (q18_111, .inl (cI, 4, .inl (fun _ => 0))), (q27_111, .inl (cI, 200, .inl (fun _ => 0)))]) (w1 := [(q118, .inr (9, [.ref q5, .ref q31, .ref q45, .ref q8_131, .ref q17_131, .ref q26_131, .ref q35_131, .ref q44_131, .int 0, .ref q53_131])), (q8_131, .inl (cI, 1024, .inl (fun _ => 0))), (q17_131, .inl (cI, 13533, .inl (fun _ => 0))), (q26_131, .inl (cI, 13533, .inl (fun _ => 0))), (q35_131, .inl (cI, 13533, .inl (fun _ => 0))), (q44_131, .inl (cI, 13533, .inl (fun _ => 0))), (q53_131, .inl (cI, 200, .inl (fun _ => 0)))]) hP hD [36] [0, 1, 2, 3, 4, 5, 6, 7, 8, 9, 10, 11, 12, 13, 14, 15, 16, 17, 18, 19, 20, 21, 22, 23, 24, 25, 26, 27, 28, 29, 30, 31, 32, 33, 34, 35] rfl rfl (by decide) (by decide) hk1 hFc hP1 hD1
  generalize H1 = H at hP hS ⊢
  refine W.widen (k := 42) (n := 263271) (Nat.le_refl _) (Nat.le_refl _) ?_
  have hP : va_P D vwCl [(a0, .inr (10, [.ref q5, .ref q16, .ref q31, .ref q58, .ref q78, .ref q98, .null, .int 0])), (q5, .inr (0, [.ref q7_9])), (q7_9, .inl (cB, 202000, .inl (by_ (fun _ => 0)))), (q16, .inr (4, [.ref q5])), (q31, .inr (3, [.ref q5, .ref q10_39, .ref q22_39, .ref q36_39, .ref q49_39])), (q10_39, .inr (1, [.ref q5, .int 0, .int 0, .int 0])), (q22_39, .inr (2, [.int 2000, .ref q8_29_39, .int 0])), (q8_29_39, .inl (cI, 201, .inl (upd (fun _ => 0) (0 : Int32).toNatClampNeg 2000))), (q36_39, .inr (2, [.int 42000, .ref q8_42_39, .int 0])), (q8_42_39, .inl (cI, 201, .inl (upd (fun _ => 0) (0 : Int32).toNatClampNeg 42000))), (q49_39, .inr (2, [.int 82000, .ref q8_55_39, .int 0])), (q8_55_39, .inl (cI, 201, .inl (upd (fun _ => 0) (0 : Int32).toNatClampNeg 82000))), (q45, .inr (5, [.ref q5, .ref q60_53, .ref q7_53, .ref q15_53, .ref q23_53, .ref q31_53, .int 0, .int 0, .int 0, .ref q40_53, .ref q49_53, .int 0, .int 0, .int 0, .int 0])), (q7_53, .inl (cI, 8, .inl (fun _ => 0))), (q15_53, .inl (cI, 8, .inl (fun _ => 0))), (q23_53, .inl (cI, 8, .inl (fun _ => 0))), (q31_53, .inl (cI, 8, .inl (fun _ => 0))), (q40_53, .inl (cI, 1001, .inl (fun _ => 0))), (q49_53, .inl (cI, 2000, .inl (fun _ => 0))), (q60_53, .inr (1, [.ref q5, .int 0, .int 0, .int 0])), (q58, .inr (6, [.ref q5, .ref q31, .ref q45])), (q78, .inr (7, [.ref q5, .ref q31, .ref q45, .ref q8_91, .ref q17_91, .ref q26_91, .ref q35_91, .ref q44_91, .int 0, .ref q53_91, .int 0, .long 0])), (q8_91, .inl (cI, 200, .inl (fun _ => 0))), (q17_91, .inl (cI, 200, .inl (fun _ => 0))), (q26_91, .inl (cI, 200, .inl (fun _ => 0))), (q35_91, .inl (cI, 200, .inl (fun _ => 0))), (q44_91, .inl (cI, 200, .inl (fun _ => 0))), (q53_91, .inl (cI, 200, .inl (fun _ => 0))), (q98, .inr (8, [.ref q5, .ref q31, .ref q45, .ref q9_0_111, .ref q18_111, .ref q27_111, .int 0])), (q9_0_111, .inl ((D.1 100), 4, .inr (.inr (.inr (.inr (fun j => if j = 0 then some q9_1_111 else if j = 1 then some q9_2_111 else if j = 2 then some q9_3_111 else some q9_4_111)))))), (q9_1_111, .inl (cI, 200, .inl (fun _ => 0))), (q9_2_111, .inl (cI, 200, .inl (fun _ => 0))), (q9_3_111, .inl (cI, 200, .inl (fun _ => 0))), (q9_4_111, .inl (cI, 200, .inl (fun _ => 0))), (q18_111, .inl (cI, 4, .inl (fun _ => 0))), (q27_111, .inl (cI, 200, .inl (fun _ => 0))), (q118, .inr (9, [.ref q5, .ref q31, .ref q45, .ref q8_131, .ref q17_131, .ref q26_131, .ref q35_131, .ref q44_131, .int 0, .ref q53_131])), (q8_131, .inl (cI, 1024, .inl (fun _ => 0))), (q17_131, .inl (cI, 13533, .inl (fun _ => 0))), (q26_131, .inl (cI, 13533, .inl (fun _ => 0))), (q35_131, .inl (cI, 13533, .inl (fun _ => 0))), (q44_131, .inl (cI, 13533, .inl (fun _ => 0))), (q53_131, .inl (cI, 200, .inl (fun _ => 0)))] H := hP
  have hD : va_D A [(a0, .inr (10, [.ref q5, .ref q16, .ref q31, .ref q58, .ref q78, .ref q98, .null, .int 0])), (q5, .inr (0, [.ref q7_9])), (q7_9, .inl (cB, 202000, .inl (by_ (fun _ => 0)))), (q16, .inr (4, [.ref q5])), (q31, .inr (3, [.ref q5, .ref q10_39, .ref q22_39, .ref q36_39, .ref q49_39])), (q10_39, .inr (1, [.ref q5, .int 0, .int 0, .int 0])), (q22_39, .inr (2, [.int 2000, .ref q8_29_39, .int 0])), (q8_29_39, .inl (cI, 201, .inl (upd (fun _ => 0) (0 : Int32).toNatClampNeg 2000))), (q36_39, .inr (2, [.int 42000, .ref q8_42_39, .int 0])), (q8_42_39, .inl (cI, 201, .inl (upd (fun _ => 0) (0 : Int32).toNatClampNeg 42000))), (q49_39, .inr (2, [.int 82000, .ref q8_55_39, .int 0])), (q8_55_39, .inl (cI, 201, .inl (upd (fun _ => 0) (0 : Int32).toNatClampNeg 82000))), (q45, .inr (5, [.ref q5, .ref q60_53, .ref q7_53, .ref q15_53, .ref q23_53, .ref q31_53, .int 0, .int 0, .int 0, .ref q40_53, .ref q49_53, .int 0, .int 0, .int 0, .int 0])), (q7_53, .inl (cI, 8, .inl (fun _ => 0))), (q15_53, .inl (cI, 8, .inl (fun _ => 0))), (q23_53, .inl (cI, 8, .inl (fun _ => 0))), (q31_53, .inl (cI, 8, .inl (fun _ => 0))), (q40_53, .inl (cI, 1001, .inl (fun _ => 0))), (q49_53, .inl (cI, 2000, .inl (fun _ => 0))), (q60_53, .inr (1, [.ref q5, .int 0, .int 0, .int 0])), (q58, .inr (6, [.ref q5, .ref q31, .ref q45])), (q78, .inr (7, [.ref q5, .ref q31, .ref q45, .ref q8_91, .ref q17_91, .ref q26_91, .ref q35_91, .ref q44_91, .int 0, .ref q53_91, .int 0, .long 0])), (q8_91, .inl (cI, 200, .inl (fun _ => 0))), (q17_91, .inl (cI, 200, .inl (fun _ => 0))), (q26_91, .inl (cI, 200, .inl (fun _ => 0))), (q35_91, .inl (cI, 200, .inl (fun _ => 0))), (q44_91, .inl (cI, 200, .inl (fun _ => 0))), (q53_91, .inl (cI, 200, .inl (fun _ => 0))), (q98, .inr (8, [.ref q5, .ref q31, .ref q45, .ref q9_0_111, .ref q18_111, .ref q27_111, .int 0])), (q9_0_111, .inl ((D.1 100), 4, .inr (.inr (.inr (.inr (fun j => if j = 0 then some q9_1_111 else if j = 1 then some q9_2_111 else if j = 2 then some q9_3_111 else some q9_4_111)))))), (q9_1_111, .inl (cI, 200, .inl (fun _ => 0))), (q9_2_111, .inl (cI, 200, .inl (fun _ => 0))), (q9_3_111, .inl (cI, 200, .inl (fun _ => 0))), (q9_4_111, .inl (cI, 200, .inl (fun _ => 0))), (q18_111, .inl (cI, 4, .inl (fun _ => 0))), (q27_111, .inl (cI, 200, .inl (fun _ => 0))), (q118, .inr (9, [.ref q5, .ref q31, .ref q45, .ref q8_131, .ref q17_131, .ref q26_131, .ref q35_131, .ref q44_131, .int 0, .ref q53_131])), (q8_131, .inl (cI, 1024, .inl (fun _ => 0))), (q17_131, .inl (cI, 13533, .inl (fun _ => 0))), (q26_131, .inl (cI, 13533, .inl (fun _ => 0))), (q35_131, .inl (cI, 13533, .inl (fun _ => 0))), (q44_131, .inl (cI, 13533, .inl (fun _ => 0))), (q53_131, .inl (cI, 200, .inl (fun _ => 0)))] := hD
  refine va_putF (D := D) (ci := 10) (v := .ref q118) (ty := .object "PipelineBelt$Finder") (C := R_PB) (T := T_PB) (N := 8) hx hb hT u_PB ty_PB tyok_PB nm_PB hown hK hP hD hS 0 rfl rfl 6 (by decide) (hT _ k_322) (fun _ h9 => h9) rfl hin rfl (by decide +kernel) rfl rfl (Nat.le_of_ble_eq_true rfl) d_PB_init_134 (fun H locs hP hD hS => ?_)
  have hP : va_P D vwCl [(a0, .inr (10, [.ref q5, .ref q16, .ref q31, .ref q58, .ref q78, .ref q98, .ref q118, .int 0])), (q5, .inr (0, [.ref q7_9])), (q7_9, .inl (cB, 202000, .inl (by_ (fun _ => 0)))), (q16, .inr (4, [.ref q5])), (q31, .inr (3, [.ref q5, .ref q10_39, .ref q22_39, .ref q36_39, .ref q49_39])), (q10_39, .inr (1, [.ref q5, .int 0, .int 0, .int 0])), (q22_39, .inr (2, [.int 2000, .ref q8_29_39, .int 0])), (q8_29_39, .inl (cI, 201, .inl (upd (fun _ => 0) (0 : Int32).toNatClampNeg 2000))), (q36_39, .inr (2, [.int 42000, .ref q8_42_39, .int 0])), (q8_42_39, .inl (cI, 201, .inl (upd (fun _ => 0) (0 : Int32).toNatClampNeg 42000))), (q49_39, .inr (2, [.int 82000, .ref q8_55_39, .int 0])), (q8_55_39, .inl (cI, 201, .inl (upd (fun _ => 0) (0 : Int32).toNatClampNeg 82000))), (q45, .inr (5, [.ref q5, .ref q60_53, .ref q7_53, .ref q15_53, .ref q23_53, .ref q31_53, .int 0, .int 0, .int 0, .ref q40_53, .ref q49_53, .int 0, .int 0, .int 0, .int 0])), (q7_53, .inl (cI, 8, .inl (fun _ => 0))), (q15_53, .inl (cI, 8, .inl (fun _ => 0))), (q23_53, .inl (cI, 8, .inl (fun _ => 0))), (q31_53, .inl (cI, 8, .inl (fun _ => 0))), (q40_53, .inl (cI, 1001, .inl (fun _ => 0))), (q49_53, .inl (cI, 2000, .inl (fun _ => 0))), (q60_53, .inr (1, [.ref q5, .int 0, .int 0, .int 0])), (q58, .inr (6, [.ref q5, .ref q31, .ref q45])), (q78, .inr (7, [.ref q5, .ref q31, .ref q45, .ref q8_91, .ref q17_91, .ref q26_91, .ref q35_91, .ref q44_91, .int 0, .ref q53_91, .int 0, .long 0])), (q8_91, .inl (cI, 200, .inl (fun _ => 0))), (q17_91, .inl (cI, 200, .inl (fun _ => 0))), (q26_91, .inl (cI, 200, .inl (fun _ => 0))), (q35_91, .inl (cI, 200, .inl (fun _ => 0))), (q44_91, .inl (cI, 200, .inl (fun _ => 0))), (q53_91, .inl (cI, 200, .inl (fun _ => 0))), (q98, .inr (8, [.ref q5, .ref q31, .ref q45, .ref q9_0_111, .ref q18_111, .ref q27_111, .int 0])), (q9_0_111, .inl ((D.1 100), 4, .inr (.inr (.inr (.inr (fun j => if j = 0 then some q9_1_111 else if j = 1 then some q9_2_111 else if j = 2 then some q9_3_111 else some q9_4_111)))))), (q9_1_111, .inl (cI, 200, .inl (fun _ => 0))), (q9_2_111, .inl (cI, 200, .inl (fun _ => 0))), (q9_3_111, .inl (cI, 200, .inl (fun _ => 0))), (q9_4_111, .inl (cI, 200, .inl (fun _ => 0))), (q18_111, .inl (cI, 4, .inl (fun _ => 0))), (q27_111, .inl (cI, 200, .inl (fun _ => 0))), (q118, .inr (9, [.ref q5, .ref q31, .ref q45, .ref q8_131, .ref q17_131, .ref q26_131, .ref q35_131, .ref q44_131, .int 0, .ref q53_131])), (q8_131, .inl (cI, 1024, .inl (fun _ => 0))), (q17_131, .inl (cI, 13533, .inl (fun _ => 0))), (q26_131, .inl (cI, 13533, .inl (fun _ => 0))), (q35_131, .inl (cI, 13533, .inl (fun _ => 0))), (q44_131, .inl (cI, 13533, .inl (fun _ => 0))), (q53_131, .inl (cI, 200, .inl (fun _ => 0)))] H := hP
  have hD : va_D A [(a0, .inr (10, [.ref q5, .ref q16, .ref q31, .ref q58, .ref q78, .ref q98, .ref q118, .int 0])), (q5, .inr (0, [.ref q7_9])), (q7_9, .inl (cB, 202000, .inl (by_ (fun _ => 0)))), (q16, .inr (4, [.ref q5])), (q31, .inr (3, [.ref q5, .ref q10_39, .ref q22_39, .ref q36_39, .ref q49_39])), (q10_39, .inr (1, [.ref q5, .int 0, .int 0, .int 0])), (q22_39, .inr (2, [.int 2000, .ref q8_29_39, .int 0])), (q8_29_39, .inl (cI, 201, .inl (upd (fun _ => 0) (0 : Int32).toNatClampNeg 2000))), (q36_39, .inr (2, [.int 42000, .ref q8_42_39, .int 0])), (q8_42_39, .inl (cI, 201, .inl (upd (fun _ => 0) (0 : Int32).toNatClampNeg 42000))), (q49_39, .inr (2, [.int 82000, .ref q8_55_39, .int 0])), (q8_55_39, .inl (cI, 201, .inl (upd (fun _ => 0) (0 : Int32).toNatClampNeg 82000))), (q45, .inr (5, [.ref q5, .ref q60_53, .ref q7_53, .ref q15_53, .ref q23_53, .ref q31_53, .int 0, .int 0, .int 0, .ref q40_53, .ref q49_53, .int 0, .int 0, .int 0, .int 0])), (q7_53, .inl (cI, 8, .inl (fun _ => 0))), (q15_53, .inl (cI, 8, .inl (fun _ => 0))), (q23_53, .inl (cI, 8, .inl (fun _ => 0))), (q31_53, .inl (cI, 8, .inl (fun _ => 0))), (q40_53, .inl (cI, 1001, .inl (fun _ => 0))), (q49_53, .inl (cI, 2000, .inl (fun _ => 0))), (q60_53, .inr (1, [.ref q5, .int 0, .int 0, .int 0])), (q58, .inr (6, [.ref q5, .ref q31, .ref q45])), (q78, .inr (7, [.ref q5, .ref q31, .ref q45, .ref q8_91, .ref q17_91, .ref q26_91, .ref q35_91, .ref q44_91, .int 0, .ref q53_91, .int 0, .long 0])), (q8_91, .inl (cI, 200, .inl (fun _ => 0))), (q17_91, .inl (cI, 200, .inl (fun _ => 0))), (q26_91, .inl (cI, 200, .inl (fun _ => 0))), (q35_91, .inl (cI, 200, .inl (fun _ => 0))), (q44_91, .inl (cI, 200, .inl (fun _ => 0))), (q53_91, .inl (cI, 200, .inl (fun _ => 0))), (q98, .inr (8, [.ref q5, .ref q31, .ref q45, .ref q9_0_111, .ref q18_111, .ref q27_111, .int 0])), (q9_0_111, .inl ((D.1 100), 4, .inr (.inr (.inr (.inr (fun j => if j = 0 then some q9_1_111 else if j = 1 then some q9_2_111 else if j = 2 then some q9_3_111 else some q9_4_111)))))), (q9_1_111, .inl (cI, 200, .inl (fun _ => 0))), (q9_2_111, .inl (cI, 200, .inl (fun _ => 0))), (q9_3_111, .inl (cI, 200, .inl (fun _ => 0))), (q9_4_111, .inl (cI, 200, .inl (fun _ => 0))), (q18_111, .inl (cI, 4, .inl (fun _ => 0))), (q27_111, .inl (cI, 200, .inl (fun _ => 0))), (q118, .inr (9, [.ref q5, .ref q31, .ref q45, .ref q8_131, .ref q17_131, .ref q26_131, .ref q35_131, .ref q44_131, .int 0, .ref q53_131])), (q8_131, .inl (cI, 1024, .inl (fun _ => 0))), (q17_131, .inl (cI, 13533, .inl (fun _ => 0))), (q26_131, .inl (cI, 13533, .inl (fun _ => 0))), (q35_131, .inl (cI, 13533, .inl (fun _ => 0))), (q44_131, .inl (cI, 13533, .inl (fun _ => 0))), (q53_131, .inl (cI, 200, .inl (fun _ => 0)))] := hD
  exact W.vret hx hb hr (fun t ht hW => ⟨⟨(), rfl, trivial, q5, q7_9, q16, q31, q10_39, q22_39, q8_29_39, q36_39, q8_42_39, q49_39, q8_55_39, q45, q7_53, q15_53, q23_53, q31_53, q40_53, q49_53, q60_53, q58, q78, q8_91, q17_91, q26_91, q35_91, q44_91, q53_91, q98, q9_0_111, q9_1_111, q9_2_111, q9_3_111, q9_4_111, q18_111, q27_111, q118, q8_131, q17_131, q26_131, q35_131, q44_131, q53_131, by rw [ht]; exact hP, hD⟩, hS.F ht⟩) hS.2.2 d_PB_init_137
