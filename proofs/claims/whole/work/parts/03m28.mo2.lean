/-! printed by wip/gen -/
theorem k_1166 : (Jvm.Cond.methodLink "PipelineBeltModel" (69 : Nat) ({ cls := "PipelineBeltModel", name := "character", desc := "(II)I" } : Jvm.MethodName)) ∈ lw_g := lw_gm (List.mem_append_right _ (List.mem_of_getElem? (i := 1166) (by decide +kernel))) rfl
theorem k_1168 : (Jvm.Cond.instanceMethod ({ cls := "PipelineBeltModel", name := "character", desc := "(II)I" } : Jvm.MethodName)) ∈ lw_g := lw_gm (List.mem_append_right _ (List.mem_of_getElem? (i := 1168) (by decide +kernel))) rfl
theorem k_1178 : (Jvm.Cond.methodLink "PipelineBeltModel" (98 : Nat) ({ cls := "PipelineBeltModel", name := "orderBytes", desc := "(IIII)I" } : Jvm.MethodName)) ∈ lw_g := lw_gm (List.mem_append_right _ (List.mem_of_getElem? (i := 1178) (by decide +kernel))) rfl
theorem k_1180 : (Jvm.Cond.instanceMethod ({ cls := "PipelineBeltModel", name := "orderBytes", desc := "(IIII)I" } : Jvm.MethodName)) ∈ lw_g := lw_gm (List.mem_append_right _ (List.mem_of_getElem? (i := 1180) (by decide +kernel))) rfl
theorem k_1200 : (Jvm.Cond.methodLink "PipelineBeltModel" (257 : Nat) ({ cls := "PipelineBeltModel", name := "countOf", desc := "(I)I" } : Jvm.MethodName)) ∈ lw_g := lw_gm (List.mem_append_right _ (List.mem_of_getElem? (i := 1200) (by decide +kernel))) rfl
theorem k_1202 : (Jvm.Cond.instanceMethod ({ cls := "PipelineBeltModel", name := "countOf", desc := "(I)I" } : Jvm.MethodName)) ∈ lw_g := lw_gm (List.mem_append_right _ (List.mem_of_getElem? (i := 1202) (by decide +kernel))) rfl
theorem k_1212 : (Jvm.Cond.methodLink "PipelineBeltModel" (285 : Nat) ({ cls := "PipelineBeltModel", name := "stageOf", desc := "(I)I" } : Jvm.MethodName)) ∈ lw_g := lw_gm (List.mem_append_right _ (List.mem_of_getElem? (i := 1212) (by decide +kernel))) rfl
theorem k_1214 : (Jvm.Cond.instanceMethod ({ cls := "PipelineBeltModel", name := "stageOf", desc := "(I)I" } : Jvm.MethodName)) ∈ lw_g := lw_gm (List.mem_append_right _ (List.mem_of_getElem? (i := 1214) (by decide +kernel))) rfl
theorem k_1216 : (Jvm.Cond.constantLong "PipelineBeltModel" (214 : Nat) (8386658438904705060 : Int64)) ∈ lw_g := lw_gm (List.mem_append_right _ (List.mem_of_getElem? (i := 1216) (by decide +kernel))) rfl
theorem k_1217 : (Jvm.Cond.methodLink "PipelineBeltModel" (216 : Nat) ({ cls := "PipelineBeltModel", name := "isNamed", desc := "(IJ)Z" } : Jvm.MethodName)) ∈ lw_g := lw_gm (List.mem_append_right _ (List.mem_of_getElem? (i := 1217) (by decide +kernel))) rfl
theorem k_1219 : (Jvm.Cond.instanceMethod ({ cls := "PipelineBeltModel", name := "isNamed", desc := "(IJ)Z" } : Jvm.MethodName)) ∈ lw_g := lw_gm (List.mem_append_right _ (List.mem_of_getElem? (i := 1219) (by decide +kernel))) rfl
theorem k_1222 : (Jvm.Cond.constantLong "PipelineBeltModel" (220 : Nat) (28268896925414692 : Int64)) ∈ lw_g := lw_gm (List.mem_append_right _ (List.mem_of_getElem? (i := 1222) (by decide +kernel))) rfl
theorem k_1223 : (Jvm.Cond.constantLong "PipelineBeltModel" (222 : Nat) (123649683253028 : Int64)) ∈ lw_g := lw_gm (List.mem_append_right _ (List.mem_of_getElem? (i := 1223) (by decide +kernel))) rfl
theorem k_1224 : (Jvm.Cond.constantLong "PipelineBeltModel" (224 : Nat) (500136112932 : Int64)) ∈ lw_g := lw_gm (List.mem_append_right _ (List.mem_of_getElem? (i := 1224) (by decide +kernel))) rfl
theorem k_1225 : (Jvm.Cond.constantLong "PipelineBeltModel" (226 : Nat) (482804986660 : Int64)) ∈ lw_g := lw_gm (List.mem_append_right _ (List.mem_of_getElem? (i := 1225) (by decide +kernel))) rfl
theorem k_1226 : (Jvm.Cond.constantLong "PipelineBeltModel" (228 : Nat) (127996156013604 : Int64)) ∈ lw_g := lw_gm (List.mem_append_right _ (List.mem_of_getElem? (i := 1226) (by decide +kernel))) rfl
theorem k_1227 : (Jvm.Cond.constantLong "PipelineBeltModel" (230 : Nat) (31654301683117092 : Int64)) ∈ lw_g := lw_gm (List.mem_append_right _ (List.mem_of_getElem? (i := 1227) (by decide +kernel))) rfl
theorem k_1228 : (Jvm.Cond.methodLink "PipelineBeltModel" (288 : Nat) ({ cls := "PipelineBeltModel", name := "projectFault", desc := "(I)I" } : Jvm.MethodName)) ∈ lw_g := lw_gm (List.mem_append_right _ (List.mem_of_getElem? (i := 1228) (by decide +kernel))) rfl
theorem k_1230 : (Jvm.Cond.instanceMethod ({ cls := "PipelineBeltModel", name := "projectFault", desc := "(I)I" } : Jvm.MethodName)) ∈ lw_g := lw_gm (List.mem_append_right _ (List.mem_of_getElem? (i := 1230) (by decide +kernel))) rfl
theorem k_1232 : (Jvm.Cond.methodLink "PipelineBeltModel" (260 : Nat) ({ cls := "PipelineBeltModel", name := "isPlainName", desc := "(I)Z" } : Jvm.MethodName)) ∈ lw_g := lw_gm (List.mem_append_right _ (List.mem_of_getElem? (i := 1232) (by decide +kernel))) rfl
theorem k_1234 : (Jvm.Cond.instanceMethod ({ cls := "PipelineBeltModel", name := "isPlainName", desc := "(I)Z" } : Jvm.MethodName)) ∈ lw_g := lw_gm (List.mem_append_right _ (List.mem_of_getElem? (i := 1234) (by decide +kernel))) rfl
theorem k_1236 : (Jvm.Cond.methodLink "PipelineBeltModel" (251 : Nat) ({ cls := "PipelineBeltModel", name := "isPlain", desc := "(II)Z" } : Jvm.MethodName)) ∈ lw_g := lw_gm (List.mem_append_right _ (List.mem_of_getElem? (i := 1236) (by decide +kernel))) rfl
theorem k_1238 : (Jvm.Cond.instanceMethod ({ cls := "PipelineBeltModel", name := "isPlain", desc := "(II)Z" } : Jvm.MethodName)) ∈ lw_g := lw_gm (List.mem_append_right _ (List.mem_of_getElem? (i := 1238) (by decide +kernel))) rfl
theorem k_1240 : (Jvm.Cond.methodLink "PipelineBeltModel" (263 : Nat) ({ cls := "PipelineBeltModel", name := "expressionFault", desc := "(I)I" } : Jvm.MethodName)) ∈ lw_g := lw_gm (List.mem_append_right _ (List.mem_of_getElem? (i := 1240) (by decide +kernel))) rfl
theorem k_1242 : (Jvm.Cond.instanceMethod ({ cls := "PipelineBeltModel", name := "expressionFault", desc := "(I)I" } : Jvm.MethodName)) ∈ lw_g := lw_gm (List.mem_append_right _ (List.mem_of_getElem? (i := 1242) (by decide +kernel))) rfl
theorem k_1244 : (Jvm.Cond.methodLink "PipelineBeltModel" (193 : Nat) ({ cls := "PipelineBeltModel", name := "isExpressionPath", desc := "(I)Z" } : Jvm.MethodName)) ∈ lw_g := lw_gm (List.mem_append_right _ (List.mem_of_getElem? (i := 1244) (by decide +kernel))) rfl
theorem k_1246 : (Jvm.Cond.instanceMethod ({ cls := "PipelineBeltModel", name := "isExpressionPath", desc := "(I)Z" } : Jvm.MethodName)) ∈ lw_g := lw_gm (List.mem_append_right _ (List.mem_of_getElem? (i := 1246) (by decide +kernel))) rfl
theorem k_1248 : (Jvm.Cond.methodLink "PipelineBeltModel" (254 : Nat) ({ cls := "PipelineBeltModel", name := "isPath", desc := "(II)Z" } : Jvm.MethodName)) ∈ lw_g := lw_gm (List.mem_append_right _ (List.mem_of_getElem? (i := 1248) (by decide +kernel))) rfl
theorem k_1250 : (Jvm.Cond.instanceMethod ({ cls := "PipelineBeltModel", name := "isPath", desc := "(II)Z" } : Jvm.MethodName)) ∈ lw_g := lw_gm (List.mem_append_right _ (List.mem_of_getElem? (i := 1250) (by decide +kernel))) rfl
theorem k_1252 : (Jvm.Cond.methodLink "PipelineBeltModel" (291 : Nat) ({ cls := "PipelineBeltModel", name := "groupFault", desc := "(I)I" } : Jvm.MethodName)) ∈ lw_g := lw_gm (List.mem_append_right _ (List.mem_of_getElem? (i := 1252) (by decide +kernel))) rfl
theorem k_1254 : (Jvm.Cond.instanceMethod ({ cls := "PipelineBeltModel", name := "groupFault", desc := "(I)I" } : Jvm.MethodName)) ∈ lw_g := lw_gm (List.mem_append_right _ (List.mem_of_getElem? (i := 1254) (by decide +kernel))) rfl
theorem k_1256 : (Jvm.Cond.constantLong "PipelineBeltModel" (266 : Nat) (31074 : Int64)) ∈ lw_g := lw_gm (List.mem_append_right _ (List.mem_of_getElem? (i := 1256) (by decide +kernel))) rfl
theorem k_1257 : (Jvm.Cond.methodLink "PipelineBeltModel" (268 : Nat) ({ cls := "PipelineBeltModel", name := "gatherOf", desc := "(I)I" } : Jvm.MethodName)) ∈ lw_g := lw_gm (List.mem_append_right _ (List.mem_of_getElem? (i := 1257) (by decide +kernel))) rfl
theorem k_1259 : (Jvm.Cond.instanceMethod ({ cls := "PipelineBeltModel", name := "gatherOf", desc := "(I)I" } : Jvm.MethodName)) ∈ lw_g := lw_gm (List.mem_append_right _ (List.mem_of_getElem? (i := 1259) (by decide +kernel))) rfl
theorem k_1261 : (Jvm.Cond.constantLong "PipelineBeltModel" (232 : Nat) (128017765458724 : Int64)) ∈ lw_g := lw_gm (List.mem_append_right _ (List.mem_of_getElem? (i := 1261) (by decide +kernel))) rfl
theorem k_1262 : (Jvm.Cond.constantLong "PipelineBeltModel" (234 : Nat) (1836413732 : Int64)) ∈ lw_g := lw_gm (List.mem_append_right _ (List.mem_of_getElem? (i := 1262) (by decide +kernel))) rfl
theorem k_1263 : (Jvm.Cond.constantLong "PipelineBeltModel" (236 : Nat) (1852402980 : Int64)) ∈ lw_g := lw_gm (List.mem_append_right _ (List.mem_of_getElem? (i := 1263) (by decide +kernel))) rfl
theorem k_1264 : (Jvm.Cond.constantLong "PipelineBeltModel" (238 : Nat) (2019650852 : Int64)) ∈ lw_g := lw_gm (List.mem_append_right _ (List.mem_of_getElem? (i := 1264) (by decide +kernel))) rfl
theorem k_1265 : (Jvm.Cond.constantLong "PipelineBeltModel" (240 : Nat) (128039189571108 : Int64)) ∈ lw_g := lw_gm (List.mem_append_right _ (List.mem_of_getElem? (i := 1265) (by decide +kernel))) rfl
theorem k_1266 : (Jvm.Cond.constantLong "PipelineBeltModel" (242 : Nat) (500151970852 : Int64)) ∈ lw_g := lw_gm (List.mem_append_right _ (List.mem_of_getElem? (i := 1266) (by decide +kernel))) rfl
theorem k_1267 : (Jvm.Cond.constantLong "PipelineBeltModel" (244 : Nat) (448613675044 : Int64)) ∈ lw_g := lw_gm (List.mem_append_right _ (List.mem_of_getElem? (i := 1267) (by decide +kernel))) rfl
theorem k_1268 : (Jvm.Cond.methodLink "PipelineBeltModel" (246 : Nat) ({ cls := "PipelineBeltModel", name := "isSet", desc := "(I)Z" } : Jvm.MethodName)) ∈ lw_g := lw_gm (List.mem_append_right _ (List.mem_of_getElem? (i := 1268) (by decide +kernel))) rfl
theorem k_1270 : (Jvm.Cond.instanceMethod ({ cls := "PipelineBeltModel", name := "isSet", desc := "(I)Z" } : Jvm.MethodName)) ∈ lw_g := lw_gm (List.mem_append_right _ (List.mem_of_getElem? (i := 1270) (by decide +kernel))) rfl
theorem k_1272 : (Jvm.Cond.constantLong "PipelineBeltModel" (249 : Nat) (7301301829149942052 : Int64)) ∈ lw_g := lw_gm (List.mem_append_right _ (List.mem_of_getElem? (i := 1272) (by decide +kernel))) rfl
theorem k_1273 : (Jvm.Cond.methodLink "PipelineBeltModel" (294 : Nat) ({ cls := "PipelineBeltModel", name := "sortFault", desc := "(I)I" } : Jvm.MethodName)) ∈ lw_g := lw_gm (List.mem_append_right _ (List.mem_of_getElem? (i := 1273) (by decide +kernel))) rfl
theorem k_1275 : (Jvm.Cond.instanceMethod ({ cls := "PipelineBeltModel", name := "sortFault", desc := "(I)I" } : Jvm.MethodName)) ∈ lw_g := lw_gm (List.mem_append_right _ (List.mem_of_getElem? (i := 1275) (by decide +kernel))) rfl
theorem k_1277 : (Jvm.Cond.methodLink "PipelineBeltModel" (117 : Nat) ({ cls := "PipelineBeltModel", name := "number", desc := "(II)J" } : Jvm.MethodName)) ∈ lw_g := lw_gm (List.mem_append_right _ (List.mem_of_getElem? (i := 1277) (by decide +kernel))) rfl
theorem k_1279 : (Jvm.Cond.instanceMethod ({ cls := "PipelineBeltModel", name := "number", desc := "(II)J" } : Jvm.MethodName)) ∈ lw_g := lw_gm (List.mem_append_right _ (List.mem_of_getElem? (i := 1279) (by decide +kernel))) rfl
theorem k_1281 : (Jvm.Cond.constantLong "PipelineBeltModel" (271 : Nat) (-1 : Int64)) ∈ lw_g := lw_gm (List.mem_append_right _ (List.mem_of_getElem? (i := 1281) (by decide +kernel))) rfl
theorem k_1282 : (Jvm.Cond.methodLink "PipelineBeltModel" (297 : Nat) ({ cls := "PipelineBeltModel", name := "lookupFault", desc := "(I)I" } : Jvm.MethodName)) ∈ lw_g := lw_gm (List.mem_append_right _ (List.mem_of_getElem? (i := 1282) (by decide +kernel))) rfl
theorem k_1284 : (Jvm.Cond.instanceMethod ({ cls := "PipelineBeltModel", name := "lookupFault", desc := "(I)I" } : Jvm.MethodName)) ∈ lw_g := lw_gm (List.mem_append_right _ (List.mem_of_getElem? (i := 1284) (by decide +kernel))) rfl
theorem k_1286 : (Jvm.Cond.constantLong "PipelineBeltModel" (273 : Nat) (1701995880 : Int64)) ∈ lw_g := lw_gm (List.mem_append_right _ (List.mem_of_getElem? (i := 1286) (by decide +kernel))) rfl
theorem k_1287 : (Jvm.Cond.constantLong "PipelineBeltModel" (275 : Nat) (435710945396 : Int64)) ∈ lw_g := lw_gm (List.mem_append_right _ (List.mem_of_getElem? (i := 1287) (by decide +kernel))) rfl
theorem k_1288 : (Jvm.Cond.constantLong "PipelineBeltModel" (277 : Nat) (29537 : Int64)) ∈ lw_g := lw_gm (List.mem_append_right _ (List.mem_of_getElem? (i := 1288) (by decide +kernel))) rfl
theorem k_1289 : (Jvm.Cond.methodLink "PipelineBeltModel" (279 : Nat) ({ cls := "PipelineBeltModel", name := "isText", desc := "(I)Z" } : Jvm.MethodName)) ∈ lw_g := lw_gm (List.mem_append_right _ (List.mem_of_getElem? (i := 1289) (by decide +kernel))) rfl
theorem k_1291 : (Jvm.Cond.instanceMethod ({ cls := "PipelineBeltModel", name := "isText", desc := "(I)Z" } : Jvm.MethodName)) ∈ lw_g := lw_gm (List.mem_append_right _ (List.mem_of_getElem? (i := 1291) (by decide +kernel))) rfl
theorem k_1293 : (Jvm.Cond.methodLink "PipelineBeltModel" (282 : Nat) ({ cls := "PipelineBeltModel", name := "textSize", desc := "(I)I" } : Jvm.MethodName)) ∈ lw_g := lw_gm (List.mem_append_right _ (List.mem_of_getElem? (i := 1293) (by decide +kernel))) rfl
theorem k_1295 : (Jvm.Cond.instanceMethod ({ cls := "PipelineBeltModel", name := "textSize", desc := "(I)I" } : Jvm.MethodName)) ∈ lw_g := lw_gm (List.mem_append_right _ (List.mem_of_getElem? (i := 1295) (by decide +kernel))) rfl
abbrev b_MO_character : ByteArray := prog_13_method_5_code
def y_MO_character : MethodName := ⟨R_MO, "character", "(II)I"⟩
theorem kc_MO_character : Cond.code y_MO_character b_MO_character 8 (some .int) ∈ lw_g := lw_gm (List.mem_append_right _ (List.mem_of_getElem? (i := 1169) (by decide +kernel))) rfl
abbrev mw_MO_character : List Cond := Cond.code y_MO_character b_MO_character 8 (some .int) :: lw_g
theorem hd_MO_character : y_MO_character.cls = R_MO ∧ y_MO_character.cls ≠ "java/lang/invoke/MethodHandle" ∧ y_MO_character.cls ≠ "java/lang/invoke/VarHandle" ∧ (parseMethodDescriptor y_MO_character.desc).map (fun d => d.parameters.length) = some 2 := by decide +kernel
theorem kp_MO_character : Cond.selects R_MO y_MO_character y_MO_character ∈ lw_g := lw_gm (List.mem_append_left _ (by decide +kernel)) rfl
theorem d_MO_character_0 : decode b_MO_character 0 = .ok (.aload_n 0, 1) := by decide +kernel
theorem d_MO_character_1 : decode b_MO_character 1 = .ok (.getfield 8, 3) := by decide +kernel
theorem d_MO_character_4 : decode b_MO_character 4 = .ok (.iload_n 1, 1) := by decide +kernel
theorem d_MO_character_5 : decode b_MO_character 5 = .ok (.iaload, 1) := by decide +kernel
theorem d_MO_character_6 : decode b_MO_character 6 = .ok (.istore_n 3, 1) := by decide +kernel
theorem d_MO_character_7 : decode b_MO_character 7 = .ok (.iload_n 3, 1) := by decide +kernel
theorem d_MO_character_8 : decode b_MO_character 8 = .ok (.sipush 128, 3) := by decide +kernel
theorem d_MO_character_11 : decode b_MO_character 11 = .ok (.if_icmp .ge 5, 3) := by decide +kernel
theorem d_MO_character_14 : decode b_MO_character 14 = .ok (.iconst 1, 1) := by decide +kernel
theorem d_MO_character_15 : decode b_MO_character 15 = .ok (.ireturn, 1) := by decide +kernel
theorem d_MO_character_16 : decode b_MO_character 16 = .ok (.iload_n 3, 1) := by decide +kernel
theorem d_MO_character_17 : decode b_MO_character 17 = .ok (.sipush 193, 3) := by decide +kernel
theorem d_MO_character_20 : decode b_MO_character 20 = .ok (.if_icmp .le 14, 3) := by decide +kernel
theorem d_MO_character_23 : decode b_MO_character 23 = .ok (.iload_n 3, 1) := by decide +kernel
theorem d_MO_character_24 : decode b_MO_character 24 = .ok (.sipush 224, 3) := by decide +kernel
theorem d_MO_character_27 : decode b_MO_character 27 = .ok (.if_icmp .ge 7, 3) := by decide +kernel
theorem d_MO_character_30 : decode b_MO_character 30 = .ok (.iconst 2, 1) := by decide +kernel
theorem d_MO_character_31 : decode b_MO_character 31 = .ok (.goto 40, 3) := by decide +kernel
theorem d_MO_character_34 : decode b_MO_character 34 = .ok (.iload_n 3, 1) := by decide +kernel
theorem d_MO_character_35 : decode b_MO_character 35 = .ok (.sipush 223, 3) := by decide +kernel
theorem d_MO_character_38 : decode b_MO_character 38 = .ok (.if_icmp .le 14, 3) := by decide +kernel
theorem d_MO_character_41 : decode b_MO_character 41 = .ok (.iload_n 3, 1) := by decide +kernel
theorem d_MO_character_42 : decode b_MO_character 42 = .ok (.sipush 240, 3) := by decide +kernel
theorem d_MO_character_45 : decode b_MO_character 45 = .ok (.if_icmp .ge 7, 3) := by decide +kernel
theorem d_MO_character_48 : decode b_MO_character 48 = .ok (.iconst 3, 1) := by decide +kernel
theorem d_MO_character_49 : decode b_MO_character 49 = .ok (.goto 22, 3) := by decide +kernel
theorem d_MO_character_52 : decode b_MO_character 52 = .ok (.iload_n 3, 1) := by decide +kernel
theorem d_MO_character_53 : decode b_MO_character 53 = .ok (.sipush 239, 3) := by decide +kernel
theorem d_MO_character_56 : decode b_MO_character 56 = .ok (.if_icmp .le 14, 3) := by decide +kernel
theorem d_MO_character_59 : decode b_MO_character 59 = .ok (.iload_n 3, 1) := by decide +kernel
theorem d_MO_character_60 : decode b_MO_character 60 = .ok (.sipush 245, 3) := by decide +kernel
theorem d_MO_character_63 : decode b_MO_character 63 = .ok (.if_icmp .ge 7, 3) := by decide +kernel
theorem d_MO_character_66 : decode b_MO_character 66 = .ok (.iconst 4, 1) := by decide +kernel
theorem d_MO_character_67 : decode b_MO_character 67 = .ok (.goto 4, 3) := by decide +kernel
theorem d_MO_character_70 : decode b_MO_character 70 = .ok (.iconst 0, 1) := by decide +kernel
theorem d_MO_character_71 : decode b_MO_character 71 = .ok (.istore 4, 2) := by decide +kernel
theorem d_MO_character_73 : decode b_MO_character 73 = .ok (.iload 4, 2) := by decide +kernel
theorem d_MO_character_75 : decode b_MO_character 75 = .ok (.ifCond .eq 11, 3) := by decide +kernel
theorem d_MO_character_78 : decode b_MO_character 78 = .ok (.iload_n 1, 1) := by decide +kernel
theorem d_MO_character_79 : decode b_MO_character 79 = .ok (.iload 4, 2) := by decide +kernel
theorem d_MO_character_81 : decode b_MO_character 81 = .ok (.iadd, 1) := by decide +kernel
theorem d_MO_character_82 : decode b_MO_character 82 = .ok (.iload_n 2, 1) := by decide +kernel
theorem d_MO_character_83 : decode b_MO_character 83 = .ok (.if_icmp .le 5, 3) := by decide +kernel
theorem d_MO_character_86 : decode b_MO_character 86 = .ok (.iconst 0, 1) := by decide +kernel
theorem d_MO_character_87 : decode b_MO_character 87 = .ok (.ireturn, 1) := by decide +kernel
theorem d_MO_character_88 : decode b_MO_character 88 = .ok (.aload_n 0, 1) := by decide +kernel
theorem d_MO_character_89 : decode b_MO_character 89 = .ok (.getfield 8, 3) := by decide +kernel
theorem d_MO_character_92 : decode b_MO_character 92 = .ok (.iload_n 1, 1) := by decide +kernel
theorem d_MO_character_93 : decode b_MO_character 93 = .ok (.iconst 1, 1) := by decide +kernel
theorem d_MO_character_94 : decode b_MO_character 94 = .ok (.iadd, 1) := by decide +kernel
theorem d_MO_character_95 : decode b_MO_character 95 = .ok (.iaload, 1) := by decide +kernel
theorem d_MO_character_96 : decode b_MO_character 96 = .ok (.istore 5, 2) := by decide +kernel
theorem d_MO_character_98 : decode b_MO_character 98 = .ok (.iload_n 3, 1) := by decide +kernel
theorem d_MO_character_99 : decode b_MO_character 99 = .ok (.sipush 224, 3) := by decide +kernel
theorem d_MO_character_102 : decode b_MO_character 102 = .ok (.if_icmp .ne 11, 3) := by decide +kernel
theorem d_MO_character_105 : decode b_MO_character 105 = .ok (.iload 5, 2) := by decide +kernel
theorem d_MO_character_107 : decode b_MO_character 107 = .ok (.sipush 160, 3) := by decide +kernel
theorem d_MO_character_110 : decode b_MO_character 110 = .ok (.if_icmp .lt 52, 3) := by decide +kernel
theorem d_MO_character_113 : decode b_MO_character 113 = .ok (.iload_n 3, 1) := by decide +kernel
theorem d_MO_character_114 : decode b_MO_character 114 = .ok (.sipush 237, 3) := by decide +kernel
theorem d_MO_character_117 : decode b_MO_character 117 = .ok (.if_icmp .ne 11, 3) := by decide +kernel
theorem d_MO_character_120 : decode b_MO_character 120 = .ok (.iload 5, 2) := by decide +kernel
theorem d_MO_character_122 : decode b_MO_character 122 = .ok (.sipush 159, 3) := by decide +kernel
theorem d_MO_character_125 : decode b_MO_character 125 = .ok (.if_icmp .gt 37, 3) := by decide +kernel
theorem d_MO_character_128 : decode b_MO_character 128 = .ok (.iload_n 3, 1) := by decide +kernel
theorem d_MO_character_129 : decode b_MO_character 129 = .ok (.sipush 240, 3) := by decide +kernel
theorem d_MO_character_132 : decode b_MO_character 132 = .ok (.if_icmp .ne 11, 3) := by decide +kernel
theorem d_MO_character_135 : decode b_MO_character 135 = .ok (.iload 5, 2) := by decide +kernel
theorem d_MO_character_137 : decode b_MO_character 137 = .ok (.sipush 144, 3) := by decide +kernel
theorem d_MO_character_140 : decode b_MO_character 140 = .ok (.if_icmp .lt 22, 3) := by decide +kernel
theorem d_MO_character_143 : decode b_MO_character 143 = .ok (.iload_n 3, 1) := by decide +kernel
theorem d_MO_character_144 : decode b_MO_character 144 = .ok (.sipush 244, 3) := by decide +kernel
theorem d_MO_character_147 : decode b_MO_character 147 = .ok (.if_icmp .ne 11, 3) := by decide +kernel
theorem d_MO_character_150 : decode b_MO_character 150 = .ok (.iload 5, 2) := by decide +kernel
theorem d_MO_character_152 : decode b_MO_character 152 = .ok (.sipush 143, 3) := by decide +kernel
theorem d_MO_character_155 : decode b_MO_character 155 = .ok (.if_icmp .gt 7, 3) := by decide +kernel
theorem d_MO_character_158 : decode b_MO_character 158 = .ok (.iconst 1, 1) := by decide +kernel
theorem d_MO_character_159 : decode b_MO_character 159 = .ok (.goto 4, 3) := by decide +kernel
theorem d_MO_character_162 : decode b_MO_character 162 = .ok (.iconst 0, 1) := by decide +kernel
theorem d_MO_character_163 : decode b_MO_character 163 = .ok (.istore 6, 2) := by decide +kernel
theorem d_MO_character_165 : decode b_MO_character 165 = .ok (.iconst 1, 1) := by decide +kernel
theorem d_MO_character_166 : decode b_MO_character 166 = .ok (.istore 7, 2) := by decide +kernel
theorem d_MO_character_168 : decode b_MO_character 168 = .ok (.iload 7, 2) := by decide +kernel
theorem d_MO_character_170 : decode b_MO_character 170 = .ok (.iload 4, 2) := by decide +kernel
theorem d_MO_character_172 : decode b_MO_character 172 = .ok (.if_icmp .ge 50, 3) := by decide +kernel
theorem d_MO_character_175 : decode b_MO_character 175 = .ok (.iload 6, 2) := by decide +kernel
theorem d_MO_character_177 : decode b_MO_character 177 = .ok (.ifCond .eq 36, 3) := by decide +kernel
theorem d_MO_character_180 : decode b_MO_character 180 = .ok (.aload_n 0, 1) := by decide +kernel
theorem d_MO_character_181 : decode b_MO_character 181 = .ok (.getfield 8, 3) := by decide +kernel
theorem d_MO_character_184 : decode b_MO_character 184 = .ok (.iload_n 1, 1) := by decide +kernel
theorem d_MO_character_185 : decode b_MO_character 185 = .ok (.iload 7, 2) := by decide +kernel
theorem d_MO_character_187 : decode b_MO_character 187 = .ok (.iadd, 1) := by decide +kernel
theorem d_MO_character_188 : decode b_MO_character 188 = .ok (.iaload, 1) := by decide +kernel
theorem d_MO_character_189 : decode b_MO_character 189 = .ok (.bipush 127, 2) := by decide +kernel
theorem d_MO_character_191 : decode b_MO_character 191 = .ok (.if_icmp .le 22, 3) := by decide +kernel
theorem d_MO_character_194 : decode b_MO_character 194 = .ok (.aload_n 0, 1) := by decide +kernel
theorem d_MO_character_195 : decode b_MO_character 195 = .ok (.getfield 8, 3) := by decide +kernel
theorem d_MO_character_198 : decode b_MO_character 198 = .ok (.iload_n 1, 1) := by decide +kernel
theorem d_MO_character_199 : decode b_MO_character 199 = .ok (.iload 7, 2) := by decide +kernel
theorem d_MO_character_201 : decode b_MO_character 201 = .ok (.iadd, 1) := by decide +kernel
theorem d_MO_character_202 : decode b_MO_character 202 = .ok (.iaload, 1) := by decide +kernel
theorem d_MO_character_203 : decode b_MO_character 203 = .ok (.sipush 192, 3) := by decide +kernel
theorem d_MO_character_206 : decode b_MO_character 206 = .ok (.if_icmp .ge 7, 3) := by decide +kernel
theorem d_MO_character_209 : decode b_MO_character 209 = .ok (.iconst 1, 1) := by decide +kernel
theorem d_MO_character_210 : decode b_MO_character 210 = .ok (.goto 4, 3) := by decide +kernel
theorem d_MO_character_213 : decode b_MO_character 213 = .ok (.iconst 0, 1) := by decide +kernel
theorem d_MO_character_214 : decode b_MO_character 214 = .ok (.istore 6, 2) := by decide +kernel
theorem d_MO_character_216 : decode b_MO_character 216 = .ok (.iinc 7 1, 3) := by decide +kernel
theorem d_MO_character_219 : decode b_MO_character 219 = .ok (.goto (-51), 3) := by decide +kernel
theorem d_MO_character_222 : decode b_MO_character 222 = .ok (.iload 6, 2) := by decide +kernel
theorem d_MO_character_224 : decode b_MO_character 224 = .ok (.ifCond .eq 8, 3) := by decide +kernel
theorem d_MO_character_227 : decode b_MO_character 227 = .ok (.iload 4, 2) := by decide +kernel
theorem d_MO_character_229 : decode b_MO_character 229 = .ok (.goto 4, 3) := by decide +kernel
theorem d_MO_character_232 : decode b_MO_character 232 = .ok (.iconst 0, 1) := by decide +kernel
theorem d_MO_character_233 : decode b_MO_character 233 = .ok (.ireturn, 1) := by decide +kernel
abbrev b_MO_isRightText : ByteArray := prog_13_method_6_code
def y_MO_isRightText : MethodName := ⟨R_MO, "isRightText", "(II)Z"⟩
theorem kc_MO_isRightText : Cond.code y_MO_isRightText b_MO_isRightText 5 (some .boolean) ∈ lw_g := lw_gm (List.mem_append_right _ (List.mem_of_getElem? (i := 1165) (by decide +kernel))) rfl
abbrev mw_MO_isRightText : List Cond := Cond.code y_MO_isRightText b_MO_isRightText 5 (some .boolean) :: lw_g
theorem hd_MO_isRightText : y_MO_isRightText.cls = R_MO ∧ y_MO_isRightText.cls ≠ "java/lang/invoke/MethodHandle" ∧ y_MO_isRightText.cls ≠ "java/lang/invoke/VarHandle" ∧ (parseMethodDescriptor y_MO_isRightText.desc).map (fun d => d.parameters.length) = some 2 := by decide +kernel
theorem kp_MO_isRightText : Cond.selects R_MO y_MO_isRightText y_MO_isRightText ∈ lw_g := lw_gm (List.mem_append_left _ (by decide +kernel)) rfl
theorem d_MO_isRightText_0 : decode b_MO_isRightText 0 = .ok (.iload_n 1, 1) := by decide +kernel
theorem d_MO_isRightText_1 : decode b_MO_isRightText 1 = .ok (.istore_n 3, 1) := by decide +kernel
theorem d_MO_isRightText_2 : decode b_MO_isRightText 2 = .ok (.iconst 1, 1) := by decide +kernel
theorem d_MO_isRightText_3 : decode b_MO_isRightText 3 = .ok (.istore 4, 2) := by decide +kernel
theorem d_MO_isRightText_5 : decode b_MO_isRightText 5 = .ok (.iload_n 3, 1) := by decide +kernel
theorem d_MO_isRightText_6 : decode b_MO_isRightText 6 = .ok (.iload_n 2, 1) := by decide +kernel
theorem d_MO_isRightText_7 : decode b_MO_isRightText 7 = .ok (.if_icmp .ge 24, 3) := by decide +kernel
theorem d_MO_isRightText_10 : decode b_MO_isRightText 10 = .ok (.iload 4, 2) := by decide +kernel
theorem d_MO_isRightText_12 : decode b_MO_isRightText 12 = .ok (.ifCond .le 19, 3) := by decide +kernel
theorem d_MO_isRightText_15 : decode b_MO_isRightText 15 = .ok (.aload_n 0, 1) := by decide +kernel
theorem d_MO_isRightText_16 : decode b_MO_isRightText 16 = .ok (.iload_n 3, 1) := by decide +kernel
theorem d_MO_isRightText_17 : decode b_MO_isRightText 17 = .ok (.iload_n 2, 1) := by decide +kernel
theorem d_MO_isRightText_18 : decode b_MO_isRightText 18 = .ok (.invokevirtual 69, 3) := by decide +kernel
theorem d_MO_isRightText_21 : decode b_MO_isRightText 21 = .ok (.istore 4, 2) := by decide +kernel
theorem d_MO_isRightText_23 : decode b_MO_isRightText 23 = .ok (.iload_n 3, 1) := by decide +kernel
theorem d_MO_isRightText_24 : decode b_MO_isRightText 24 = .ok (.iload 4, 2) := by decide +kernel
theorem d_MO_isRightText_26 : decode b_MO_isRightText 26 = .ok (.iadd, 1) := by decide +kernel
theorem d_MO_isRightText_27 : decode b_MO_isRightText 27 = .ok (.istore_n 3, 1) := by decide +kernel
theorem d_MO_isRightText_28 : decode b_MO_isRightText 28 = .ok (.goto (-23), 3) := by decide +kernel
theorem d_MO_isRightText_31 : decode b_MO_isRightText 31 = .ok (.iload_n 3, 1) := by decide +kernel
theorem d_MO_isRightText_32 : decode b_MO_isRightText 32 = .ok (.iload_n 2, 1) := by decide +kernel
theorem d_MO_isRightText_33 : decode b_MO_isRightText 33 = .ok (.if_icmp .ne 7, 3) := by decide +kernel
theorem d_MO_isRightText_36 : decode b_MO_isRightText 36 = .ok (.iconst 1, 1) := by decide +kernel
theorem d_MO_isRightText_37 : decode b_MO_isRightText 37 = .ok (.goto 4, 3) := by decide +kernel
theorem d_MO_isRightText_40 : decode b_MO_isRightText 40 = .ok (.iconst 0, 1) := by decide +kernel
theorem d_MO_isRightText_41 : decode b_MO_isRightText 41 = .ok (.ireturn, 1) := by decide +kernel
abbrev b_MO_isNumber : ByteArray := prog_13_method_9_code
def y_MO_isNumber : MethodName := ⟨R_MO, "isNumber", "(III)Z"⟩
theorem kc_MO_isNumber : Cond.code y_MO_isNumber b_MO_isNumber 7 (some .boolean) ∈ lw_g := lw_gm (List.mem_append_right _ (List.mem_of_getElem? (i := 1173) (by decide +kernel))) rfl
abbrev mw_MO_isNumber : List Cond := Cond.code y_MO_isNumber b_MO_isNumber 7 (some .boolean) :: lw_g
theorem hd_MO_isNumber : y_MO_isNumber.cls = R_MO ∧ y_MO_isNumber.cls ≠ "java/lang/invoke/MethodHandle" ∧ y_MO_isNumber.cls ≠ "java/lang/invoke/VarHandle" ∧ (parseMethodDescriptor y_MO_isNumber.desc).map (fun d => d.parameters.length) = some 3 := by decide +kernel
theorem kp_MO_isNumber : Cond.selects R_MO y_MO_isNumber y_MO_isNumber ∈ lw_g := lw_gm (List.mem_append_left _ (by decide +kernel)) rfl
theorem d_MO_isNumber_0 : decode b_MO_isNumber 0 = .ok (.iload_n 3, 1) := by decide +kernel
theorem d_MO_isNumber_1 : decode b_MO_isNumber 1 = .ok (.istore 4, 2) := by decide +kernel
theorem d_MO_isNumber_3 : decode b_MO_isNumber 3 = .ok (.iload_n 2, 1) := by decide +kernel
theorem d_MO_isNumber_4 : decode b_MO_isNumber 4 = .ok (.iconst 1, 1) := by decide +kernel
theorem d_MO_isNumber_5 : decode b_MO_isNumber 5 = .ok (.isub, 1) := by decide +kernel
theorem d_MO_isNumber_6 : decode b_MO_isNumber 6 = .ok (.istore 5, 2) := by decide +kernel
theorem d_MO_isNumber_8 : decode b_MO_isNumber 8 = .ok (.iload 5, 2) := by decide +kernel
theorem d_MO_isNumber_10 : decode b_MO_isNumber 10 = .ok (.iload_n 1, 1) := by decide +kernel
theorem d_MO_isNumber_11 : decode b_MO_isNumber 11 = .ok (.if_icmp .lt 7, 3) := by decide +kernel
theorem d_MO_isNumber_14 : decode b_MO_isNumber 14 = .ok (.iconst 1, 1) := by decide +kernel
theorem d_MO_isNumber_15 : decode b_MO_isNumber 15 = .ok (.goto 4, 3) := by decide +kernel
theorem d_MO_isNumber_18 : decode b_MO_isNumber 18 = .ok (.iconst 0, 1) := by decide +kernel
theorem d_MO_isNumber_19 : decode b_MO_isNumber 19 = .ok (.istore 6, 2) := by decide +kernel
theorem d_MO_isNumber_21 : decode b_MO_isNumber 21 = .ok (.iload 6, 2) := by decide +kernel
theorem d_MO_isNumber_23 : decode b_MO_isNumber 23 = .ok (.ifCond .eq 60, 3) := by decide +kernel
theorem d_MO_isNumber_26 : decode b_MO_isNumber 26 = .ok (.iload 5, 2) := by decide +kernel
theorem d_MO_isNumber_28 : decode b_MO_isNumber 28 = .ok (.iload_n 1, 1) := by decide +kernel
theorem d_MO_isNumber_29 : decode b_MO_isNumber 29 = .ok (.if_icmp .lt 54, 3) := by decide +kernel
theorem d_MO_isNumber_32 : decode b_MO_isNumber 32 = .ok (.aload_n 0, 1) := by decide +kernel
theorem d_MO_isNumber_33 : decode b_MO_isNumber 33 = .ok (.getfield 8, 3) := by decide +kernel
theorem d_MO_isNumber_36 : decode b_MO_isNumber 36 = .ok (.iload 5, 2) := by decide +kernel
theorem d_MO_isNumber_38 : decode b_MO_isNumber 38 = .ok (.iaload, 1) := by decide +kernel
theorem d_MO_isNumber_39 : decode b_MO_isNumber 39 = .ok (.bipush 48, 2) := by decide +kernel
theorem d_MO_isNumber_41 : decode b_MO_isNumber 41 = .ok (.iload 4, 2) := by decide +kernel
theorem d_MO_isNumber_43 : decode b_MO_isNumber 43 = .ok (.bipush 10, 2) := by decide +kernel
theorem d_MO_isNumber_45 : decode b_MO_isNumber 45 = .ok (.irem, 1) := by decide +kernel
theorem d_MO_isNumber_46 : decode b_MO_isNumber 46 = .ok (.iadd, 1) := by decide +kernel
theorem d_MO_isNumber_47 : decode b_MO_isNumber 47 = .ok (.if_icmp .ne 20, 3) := by decide +kernel
theorem d_MO_isNumber_50 : decode b_MO_isNumber 50 = .ok (.iload 4, 2) := by decide +kernel
theorem d_MO_isNumber_52 : decode b_MO_isNumber 52 = .ok (.ifCond .gt 11, 3) := by decide +kernel
theorem d_MO_isNumber_55 : decode b_MO_isNumber 55 = .ok (.iload 5, 2) := by decide +kernel
theorem d_MO_isNumber_57 : decode b_MO_isNumber 57 = .ok (.iload_n 2, 1) := by decide +kernel
theorem d_MO_isNumber_58 : decode b_MO_isNumber 58 = .ok (.iconst 1, 1) := by decide +kernel
theorem d_MO_isNumber_59 : decode b_MO_isNumber 59 = .ok (.isub, 1) := by decide +kernel
theorem d_MO_isNumber_60 : decode b_MO_isNumber 60 = .ok (.if_icmp .ne 7, 3) := by decide +kernel
theorem d_MO_isNumber_63 : decode b_MO_isNumber 63 = .ok (.iconst 1, 1) := by decide +kernel
theorem d_MO_isNumber_64 : decode b_MO_isNumber 64 = .ok (.goto 4, 3) := by decide +kernel
theorem d_MO_isNumber_67 : decode b_MO_isNumber 67 = .ok (.iconst 0, 1) := by decide +kernel
theorem d_MO_isNumber_68 : decode b_MO_isNumber 68 = .ok (.istore 6, 2) := by decide +kernel
theorem d_MO_isNumber_70 : decode b_MO_isNumber 70 = .ok (.iload 4, 2) := by decide +kernel
theorem d_MO_isNumber_72 : decode b_MO_isNumber 72 = .ok (.bipush 10, 2) := by decide +kernel
theorem d_MO_isNumber_74 : decode b_MO_isNumber 74 = .ok (.idiv, 1) := by decide +kernel
theorem d_MO_isNumber_75 : decode b_MO_isNumber 75 = .ok (.istore 4, 2) := by decide +kernel
theorem d_MO_isNumber_77 : decode b_MO_isNumber 77 = .ok (.iinc 5 (-1), 3) := by decide +kernel
theorem d_MO_isNumber_80 : decode b_MO_isNumber 80 = .ok (.goto (-59), 3) := by decide +kernel
theorem d_MO_isNumber_83 : decode b_MO_isNumber 83 = .ok (.iload 6, 2) := by decide +kernel
theorem d_MO_isNumber_85 : decode b_MO_isNumber 85 = .ok (.ifCond .eq 12, 3) := by decide +kernel
theorem d_MO_isNumber_88 : decode b_MO_isNumber 88 = .ok (.iload 4, 2) := by decide +kernel
theorem d_MO_isNumber_90 : decode b_MO_isNumber 90 = .ok (.ifCond .ne 7, 3) := by decide +kernel
theorem d_MO_isNumber_93 : decode b_MO_isNumber 93 = .ok (.iconst 1, 1) := by decide +kernel
theorem d_MO_isNumber_94 : decode b_MO_isNumber 94 = .ok (.goto 4, 3) := by decide +kernel
theorem d_MO_isNumber_97 : decode b_MO_isNumber 97 = .ok (.iconst 0, 1) := by decide +kernel
theorem d_MO_isNumber_98 : decode b_MO_isNumber 98 = .ok (.ireturn, 1) := by decide +kernel
abbrev b_MO_isPath : ByteArray := prog_13_method_24_code
def y_MO_isPath : MethodName := ⟨R_MO, "isPath", "(II)Z"⟩
theorem kc_MO_isPath : Cond.code y_MO_isPath b_MO_isPath 8 (some .boolean) ∈ lw_g := lw_gm (List.mem_append_right _ (List.mem_of_getElem? (i := 1251) (by decide +kernel))) rfl
abbrev mw_MO_isPath : List Cond := Cond.code y_MO_isPath b_MO_isPath 8 (some .boolean) :: lw_g
theorem hd_MO_isPath : y_MO_isPath.cls = R_MO ∧ y_MO_isPath.cls ≠ "java/lang/invoke/MethodHandle" ∧ y_MO_isPath.cls ≠ "java/lang/invoke/VarHandle" ∧ (parseMethodDescriptor y_MO_isPath.desc).map (fun d => d.parameters.length) = some 2 := by decide +kernel
theorem kp_MO_isPath : Cond.selects R_MO y_MO_isPath y_MO_isPath ∈ lw_g := lw_gm (List.mem_append_left _ (by decide +kernel)) rfl
theorem d_MO_isPath_0 : decode b_MO_isPath 0 = .ok (.iconst 1, 1) := by decide +kernel
theorem d_MO_isPath_1 : decode b_MO_isPath 1 = .ok (.istore_n 3, 1) := by decide +kernel
theorem d_MO_isPath_2 : decode b_MO_isPath 2 = .ok (.iload_n 2, 1) := by decide +kernel
theorem d_MO_isPath_3 : decode b_MO_isPath 3 = .ok (.ifCond .le 7, 3) := by decide +kernel
theorem d_MO_isPath_6 : decode b_MO_isPath 6 = .ok (.iconst 1, 1) := by decide +kernel
theorem d_MO_isPath_7 : decode b_MO_isPath 7 = .ok (.goto 4, 3) := by decide +kernel
theorem d_MO_isPath_10 : decode b_MO_isPath 10 = .ok (.iconst 0, 1) := by decide +kernel
theorem d_MO_isPath_11 : decode b_MO_isPath 11 = .ok (.istore 4, 2) := by decide +kernel
theorem d_MO_isPath_13 : decode b_MO_isPath 13 = .ok (.iconst 0, 1) := by decide +kernel
theorem d_MO_isPath_14 : decode b_MO_isPath 14 = .ok (.istore 5, 2) := by decide +kernel
theorem d_MO_isPath_16 : decode b_MO_isPath 16 = .ok (.iload 5, 2) := by decide +kernel
theorem d_MO_isPath_18 : decode b_MO_isPath 18 = .ok (.iload_n 2, 1) := by decide +kernel
theorem d_MO_isPath_19 : decode b_MO_isPath 19 = .ok (.if_icmp .gt 133, 3) := by decide +kernel
theorem d_MO_isPath_22 : decode b_MO_isPath 22 = .ok (.iload 4, 2) := by decide +kernel
theorem d_MO_isPath_24 : decode b_MO_isPath 24 = .ok (.ifCond .eq 128, 3) := by decide +kernel
theorem d_MO_isPath_27 : decode b_MO_isPath 27 = .ok (.iload 5, 2) := by decide +kernel
theorem d_MO_isPath_29 : decode b_MO_isPath 29 = .ok (.iload_n 2, 1) := by decide +kernel
theorem d_MO_isPath_30 : decode b_MO_isPath 30 = .ok (.if_icmp .eq 17, 3) := by decide +kernel
theorem d_MO_isPath_33 : decode b_MO_isPath 33 = .ok (.aload_n 0, 1) := by decide +kernel
theorem d_MO_isPath_34 : decode b_MO_isPath 34 = .ok (.getfield 8, 3) := by decide +kernel
theorem d_MO_isPath_37 : decode b_MO_isPath 37 = .ok (.iload_n 1, 1) := by decide +kernel
theorem d_MO_isPath_38 : decode b_MO_isPath 38 = .ok (.iload 5, 2) := by decide +kernel
theorem d_MO_isPath_40 : decode b_MO_isPath 40 = .ok (.iadd, 1) := by decide +kernel
theorem d_MO_isPath_41 : decode b_MO_isPath 41 = .ok (.iaload, 1) := by decide +kernel
theorem d_MO_isPath_42 : decode b_MO_isPath 42 = .ok (.bipush 46, 2) := by decide +kernel
theorem d_MO_isPath_44 : decode b_MO_isPath 44 = .ok (.if_icmp .ne 7, 3) := by decide +kernel
theorem d_MO_isPath_47 : decode b_MO_isPath 47 = .ok (.iconst 1, 1) := by decide +kernel
theorem d_MO_isPath_48 : decode b_MO_isPath 48 = .ok (.goto 4, 3) := by decide +kernel
theorem d_MO_isPath_51 : decode b_MO_isPath 51 = .ok (.iconst 0, 1) := by decide +kernel
theorem d_MO_isPath_52 : decode b_MO_isPath 52 = .ok (.istore 6, 2) := by decide +kernel
theorem d_MO_isPath_54 : decode b_MO_isPath 54 = .ok (.iload 5, 2) := by decide +kernel
theorem d_MO_isPath_56 : decode b_MO_isPath 56 = .ok (.ifCond .eq 19, 3) := by decide +kernel
theorem d_MO_isPath_59 : decode b_MO_isPath 59 = .ok (.aload_n 0, 1) := by decide +kernel
theorem d_MO_isPath_60 : decode b_MO_isPath 60 = .ok (.getfield 8, 3) := by decide +kernel
theorem d_MO_isPath_63 : decode b_MO_isPath 63 = .ok (.iload_n 1, 1) := by decide +kernel
theorem d_MO_isPath_64 : decode b_MO_isPath 64 = .ok (.iload 5, 2) := by decide +kernel
theorem d_MO_isPath_66 : decode b_MO_isPath 66 = .ok (.iadd, 1) := by decide +kernel
theorem d_MO_isPath_67 : decode b_MO_isPath 67 = .ok (.iconst 1, 1) := by decide +kernel
theorem d_MO_isPath_68 : decode b_MO_isPath 68 = .ok (.isub, 1) := by decide +kernel
theorem d_MO_isPath_69 : decode b_MO_isPath 69 = .ok (.iaload, 1) := by decide +kernel
theorem d_MO_isPath_70 : decode b_MO_isPath 70 = .ok (.bipush 46, 2) := by decide +kernel
theorem d_MO_isPath_72 : decode b_MO_isPath 72 = .ok (.if_icmp .ne 7, 3) := by decide +kernel
theorem d_MO_isPath_75 : decode b_MO_isPath 75 = .ok (.iconst 1, 1) := by decide +kernel
theorem d_MO_isPath_76 : decode b_MO_isPath 76 = .ok (.goto 4, 3) := by decide +kernel
theorem d_MO_isPath_79 : decode b_MO_isPath 79 = .ok (.iconst 0, 1) := by decide +kernel
theorem d_MO_isPath_80 : decode b_MO_isPath 80 = .ok (.istore 7, 2) := by decide +kernel
theorem d_MO_isPath_82 : decode b_MO_isPath 82 = .ok (.iload 5, 2) := by decide +kernel
theorem d_MO_isPath_84 : decode b_MO_isPath 84 = .ok (.iload_n 2, 1) := by decide +kernel
theorem d_MO_isPath_85 : decode b_MO_isPath 85 = .ok (.if_icmp .ge 15, 3) := by decide +kernel
theorem d_MO_isPath_88 : decode b_MO_isPath 88 = .ok (.aload_n 0, 1) := by decide +kernel
theorem d_MO_isPath_89 : decode b_MO_isPath 89 = .ok (.getfield 8, 3) := by decide +kernel
theorem d_MO_isPath_92 : decode b_MO_isPath 92 = .ok (.iload_n 1, 1) := by decide +kernel
theorem d_MO_isPath_93 : decode b_MO_isPath 93 = .ok (.iload 5, 2) := by decide +kernel
theorem d_MO_isPath_95 : decode b_MO_isPath 95 = .ok (.iadd, 1) := by decide +kernel
theorem d_MO_isPath_96 : decode b_MO_isPath 96 = .ok (.iaload, 1) := by decide +kernel
theorem d_MO_isPath_97 : decode b_MO_isPath 97 = .ok (.ifCond .eq 27, 3) := by decide +kernel
theorem d_MO_isPath_100 : decode b_MO_isPath 100 = .ok (.iload 7, 2) := by decide +kernel
theorem d_MO_isPath_102 : decode b_MO_isPath 102 = .ok (.ifCond .eq 25, 3) := by decide +kernel
theorem d_MO_isPath_105 : decode b_MO_isPath 105 = .ok (.iload 6, 2) := by decide +kernel
theorem d_MO_isPath_107 : decode b_MO_isPath 107 = .ok (.ifCond .ne 17, 3) := by decide +kernel
theorem d_MO_isPath_110 : decode b_MO_isPath 110 = .ok (.aload_n 0, 1) := by decide +kernel
theorem d_MO_isPath_111 : decode b_MO_isPath 111 = .ok (.getfield 8, 3) := by decide +kernel
theorem d_MO_isPath_114 : decode b_MO_isPath 114 = .ok (.iload_n 1, 1) := by decide +kernel
theorem d_MO_isPath_115 : decode b_MO_isPath 115 = .ok (.iload 5, 2) := by decide +kernel
theorem d_MO_isPath_117 : decode b_MO_isPath 117 = .ok (.iadd, 1) := by decide +kernel
theorem d_MO_isPath_118 : decode b_MO_isPath 118 = .ok (.iaload, 1) := by decide +kernel
theorem d_MO_isPath_119 : decode b_MO_isPath 119 = .ok (.bipush 36, 2) := by decide +kernel
theorem d_MO_isPath_121 : decode b_MO_isPath 121 = .ok (.if_icmp .ne 6, 3) := by decide +kernel
theorem d_MO_isPath_124 : decode b_MO_isPath 124 = .ok (.iconst 0, 1) := by decide +kernel
theorem d_MO_isPath_125 : decode b_MO_isPath 125 = .ok (.istore 4, 2) := by decide +kernel
theorem d_MO_isPath_127 : decode b_MO_isPath 127 = .ok (.iload_n 3, 1) := by decide +kernel
theorem d_MO_isPath_128 : decode b_MO_isPath 128 = .ok (.iload 5, 2) := by decide +kernel
theorem d_MO_isPath_130 : decode b_MO_isPath 130 = .ok (.iload_n 2, 1) := by decide +kernel
theorem d_MO_isPath_131 : decode b_MO_isPath 131 = .ok (.if_icmp .ge 12, 3) := by decide +kernel
theorem d_MO_isPath_134 : decode b_MO_isPath 134 = .ok (.iload 6, 2) := by decide +kernel
theorem d_MO_isPath_136 : decode b_MO_isPath 136 = .ok (.ifCond .eq 7, 3) := by decide +kernel
theorem d_MO_isPath_139 : decode b_MO_isPath 139 = .ok (.iconst 1, 1) := by decide +kernel
theorem d_MO_isPath_140 : decode b_MO_isPath 140 = .ok (.goto 4, 3) := by decide +kernel
theorem d_MO_isPath_143 : decode b_MO_isPath 143 = .ok (.iconst 0, 1) := by decide +kernel
theorem d_MO_isPath_144 : decode b_MO_isPath 144 = .ok (.iadd, 1) := by decide +kernel
theorem d_MO_isPath_145 : decode b_MO_isPath 145 = .ok (.istore_n 3, 1) := by decide +kernel
theorem d_MO_isPath_146 : decode b_MO_isPath 146 = .ok (.iinc 5 1, 3) := by decide +kernel
theorem d_MO_isPath_149 : decode b_MO_isPath 149 = .ok (.goto (-133), 3) := by decide +kernel
theorem d_MO_isPath_152 : decode b_MO_isPath 152 = .ok (.iload 4, 2) := by decide +kernel
theorem d_MO_isPath_154 : decode b_MO_isPath 154 = .ok (.ifCond .eq 13, 3) := by decide +kernel
theorem d_MO_isPath_157 : decode b_MO_isPath 157 = .ok (.iload_n 3, 1) := by decide +kernel
theorem d_MO_isPath_158 : decode b_MO_isPath 158 = .ok (.bipush 9, 2) := by decide +kernel
theorem d_MO_isPath_160 : decode b_MO_isPath 160 = .ok (.if_icmp .ge 7, 3) := by decide +kernel
theorem d_MO_isPath_163 : decode b_MO_isPath 163 = .ok (.iconst 1, 1) := by decide +kernel
theorem d_MO_isPath_164 : decode b_MO_isPath 164 = .ok (.goto 4, 3) := by decide +kernel
theorem d_MO_isPath_167 : decode b_MO_isPath 167 = .ok (.iconst 0, 1) := by decide +kernel
theorem d_MO_isPath_168 : decode b_MO_isPath 168 = .ok (.ireturn, 1) := by decide +kernel
abbrev b_MO_isSet : ByteArray := prog_13_method_50_code
def y_MO_isSet : MethodName := ⟨R_MO, "isSet", "(I)Z"⟩
theorem kc_MO_isSet : Cond.code y_MO_isSet b_MO_isSet 5 (some .boolean) ∈ lw_g := lw_gm (List.mem_append_right _ (List.mem_of_getElem? (i := 1271) (by decide +kernel))) rfl
abbrev mw_MO_isSet : List Cond := Cond.code y_MO_isSet b_MO_isSet 5 (some .boolean) :: lw_g
theorem hd_MO_isSet : y_MO_isSet.cls = R_MO ∧ y_MO_isSet.cls ≠ "java/lang/invoke/MethodHandle" ∧ y_MO_isSet.cls ≠ "java/lang/invoke/VarHandle" ∧ (parseMethodDescriptor y_MO_isSet.desc).map (fun d => d.parameters.length) = some 1 := by decide +kernel
theorem kp_MO_isSet : Cond.selects R_MO y_MO_isSet y_MO_isSet ∈ lw_g := lw_gm (List.mem_append_left _ (by decide +kernel)) rfl
theorem d_MO_isSet_0 : decode b_MO_isSet 0 = .ok (.aload_n 0, 1) := by decide +kernel
theorem d_MO_isSet_1 : decode b_MO_isSet 1 = .ok (.iload_n 1, 1) := by decide +kernel
theorem d_MO_isSet_2 : decode b_MO_isSet 2 = .ok (.invokevirtual 95, 3) := by decide +kernel
theorem d_MO_isSet_5 : decode b_MO_isSet 5 = .ok (.iload_n 1, 1) := by decide +kernel
theorem d_MO_isSet_6 : decode b_MO_isSet 6 = .ok (.bipush 10, 2) := by decide +kernel
theorem d_MO_isSet_8 : decode b_MO_isSet 8 = .ok (.iadd, 1) := by decide +kernel
theorem d_MO_isSet_9 : decode b_MO_isSet 9 = .ok (.if_icmp .ne 17, 3) := by decide +kernel
theorem d_MO_isSet_12 : decode b_MO_isSet 12 = .ok (.aload_n 0, 1) := by decide +kernel
theorem d_MO_isSet_13 : decode b_MO_isSet 13 = .ok (.getfield 8, 3) := by decide +kernel
theorem d_MO_isSet_16 : decode b_MO_isSet 16 = .ok (.iload_n 1, 1) := by decide +kernel
theorem d_MO_isSet_17 : decode b_MO_isSet 17 = .ok (.bipush 9, 2) := by decide +kernel
theorem d_MO_isSet_19 : decode b_MO_isSet 19 = .ok (.iadd, 1) := by decide +kernel
theorem d_MO_isSet_20 : decode b_MO_isSet 20 = .ok (.iaload, 1) := by decide +kernel
theorem d_MO_isSet_21 : decode b_MO_isSet 21 = .ok (.bipush 116, 2) := by decide +kernel
theorem d_MO_isSet_23 : decode b_MO_isSet 23 = .ok (.if_icmp .eq 5, 3) := by decide +kernel
theorem d_MO_isSet_26 : decode b_MO_isSet 26 = .ok (.iconst 0, 1) := by decide +kernel
theorem d_MO_isSet_27 : decode b_MO_isSet 27 = .ok (.ireturn, 1) := by decide +kernel
theorem d_MO_isSet_28 : decode b_MO_isSet 28 = .ok (.ldc2_w 249, 3) := by decide +kernel
theorem d_MO_isSet_31 : decode b_MO_isSet 31 = .ok (.lstore_n 2, 1) := by decide +kernel
theorem d_MO_isSet_32 : decode b_MO_isSet 32 = .ok (.iconst 1, 1) := by decide +kernel
theorem d_MO_isSet_33 : decode b_MO_isSet 33 = .ok (.istore 4, 2) := by decide +kernel
theorem d_MO_isSet_35 : decode b_MO_isSet 35 = .ok (.iload 4, 2) := by decide +kernel
theorem d_MO_isSet_37 : decode b_MO_isSet 37 = .ok (.bipush 9, 2) := by decide +kernel
theorem d_MO_isSet_39 : decode b_MO_isSet 39 = .ok (.if_icmp .ge 34, 3) := by decide +kernel
theorem d_MO_isSet_42 : decode b_MO_isSet 42 = .ok (.aload_n 0, 1) := by decide +kernel
theorem d_MO_isSet_43 : decode b_MO_isSet 43 = .ok (.getfield 8, 3) := by decide +kernel
theorem d_MO_isSet_46 : decode b_MO_isSet 46 = .ok (.iload_n 1, 1) := by decide +kernel
theorem d_MO_isSet_47 : decode b_MO_isSet 47 = .ok (.iload 4, 2) := by decide +kernel
theorem d_MO_isSet_49 : decode b_MO_isSet 49 = .ok (.iadd, 1) := by decide +kernel
theorem d_MO_isSet_50 : decode b_MO_isSet 50 = .ok (.iaload, 1) := by decide +kernel
theorem d_MO_isSet_51 : decode b_MO_isSet 51 = .ok (.lload_n 2, 1) := by decide +kernel
theorem d_MO_isSet_52 : decode b_MO_isSet 52 = .ok (.ldc2_w 167, 3) := by decide +kernel
theorem d_MO_isSet_55 : decode b_MO_isSet 55 = .ok (.land, 1) := by decide +kernel
theorem d_MO_isSet_56 : decode b_MO_isSet 56 = .ok (.l2i, 1) := by decide +kernel
theorem d_MO_isSet_57 : decode b_MO_isSet 57 = .ok (.if_icmp .eq 5, 3) := by decide +kernel
theorem d_MO_isSet_60 : decode b_MO_isSet 60 = .ok (.iconst 0, 1) := by decide +kernel
theorem d_MO_isSet_61 : decode b_MO_isSet 61 = .ok (.ireturn, 1) := by decide +kernel
theorem d_MO_isSet_62 : decode b_MO_isSet 62 = .ok (.lload_n 2, 1) := by decide +kernel
theorem d_MO_isSet_63 : decode b_MO_isSet 63 = .ok (.bipush 8, 2) := by decide +kernel
theorem d_MO_isSet_65 : decode b_MO_isSet 65 = .ok (.lshr, 1) := by decide +kernel
theorem d_MO_isSet_66 : decode b_MO_isSet 66 = .ok (.lstore_n 2, 1) := by decide +kernel
theorem d_MO_isSet_67 : decode b_MO_isSet 67 = .ok (.iinc 4 1, 3) := by decide +kernel
theorem d_MO_isSet_70 : decode b_MO_isSet 70 = .ok (.goto (-35), 3) := by decide +kernel
theorem d_MO_isSet_73 : decode b_MO_isSet 73 = .ok (.iconst 1, 1) := by decide +kernel
theorem d_MO_isSet_74 : decode b_MO_isSet 74 = .ok (.ireturn, 1) := by decide +kernel
abbrev b_MO_isPlain : ByteArray := prog_13_method_51_code
def y_MO_isPlain : MethodName := ⟨R_MO, "isPlain", "(II)Z"⟩
theorem kc_MO_isPlain : Cond.code y_MO_isPlain b_MO_isPlain 5 (some .boolean) ∈ lw_g := lw_gm (List.mem_append_right _ (List.mem_of_getElem? (i := 1239) (by decide +kernel))) rfl
abbrev mw_MO_isPlain : List Cond := Cond.code y_MO_isPlain b_MO_isPlain 5 (some .boolean) :: lw_g
theorem hd_MO_isPlain : y_MO_isPlain.cls = R_MO ∧ y_MO_isPlain.cls ≠ "java/lang/invoke/MethodHandle" ∧ y_MO_isPlain.cls ≠ "java/lang/invoke/VarHandle" ∧ (parseMethodDescriptor y_MO_isPlain.desc).map (fun d => d.parameters.length) = some 2 := by decide +kernel
theorem kp_MO_isPlain : Cond.selects R_MO y_MO_isPlain y_MO_isPlain ∈ lw_g := lw_gm (List.mem_append_left _ (by decide +kernel)) rfl
theorem d_MO_isPlain_0 : decode b_MO_isPlain 0 = .ok (.iload_n 2, 1) := by decide +kernel
theorem d_MO_isPlain_1 : decode b_MO_isPlain 1 = .ok (.ifCond .le 18, 3) := by decide +kernel
theorem d_MO_isPlain_4 : decode b_MO_isPlain 4 = .ok (.aload_n 0, 1) := by decide +kernel
theorem d_MO_isPlain_5 : decode b_MO_isPlain 5 = .ok (.getfield 8, 3) := by decide +kernel
theorem d_MO_isPlain_8 : decode b_MO_isPlain 8 = .ok (.iload_n 1, 1) := by decide +kernel
theorem d_MO_isPlain_9 : decode b_MO_isPlain 9 = .ok (.iaload, 1) := by decide +kernel
theorem d_MO_isPlain_10 : decode b_MO_isPlain 10 = .ok (.bipush 36, 2) := by decide +kernel
theorem d_MO_isPlain_12 : decode b_MO_isPlain 12 = .ok (.if_icmp .eq 7, 3) := by decide +kernel
theorem d_MO_isPlain_15 : decode b_MO_isPlain 15 = .ok (.iconst 1, 1) := by decide +kernel
theorem d_MO_isPlain_16 : decode b_MO_isPlain 16 = .ok (.goto 4, 3) := by decide +kernel
theorem d_MO_isPlain_19 : decode b_MO_isPlain 19 = .ok (.iconst 0, 1) := by decide +kernel
theorem d_MO_isPlain_20 : decode b_MO_isPlain 20 = .ok (.istore_n 3, 1) := by decide +kernel
theorem d_MO_isPlain_21 : decode b_MO_isPlain 21 = .ok (.iconst 0, 1) := by decide +kernel
theorem d_MO_isPlain_22 : decode b_MO_isPlain 22 = .ok (.istore 4, 2) := by decide +kernel
theorem d_MO_isPlain_24 : decode b_MO_isPlain 24 = .ok (.iload 4, 2) := by decide +kernel
theorem d_MO_isPlain_26 : decode b_MO_isPlain 26 = .ok (.iload_n 2, 1) := by decide +kernel
theorem d_MO_isPlain_27 : decode b_MO_isPlain 27 = .ok (.if_icmp .ge 45, 3) := by decide +kernel
theorem d_MO_isPlain_30 : decode b_MO_isPlain 30 = .ok (.iload_n 3, 1) := by decide +kernel
theorem d_MO_isPlain_31 : decode b_MO_isPlain 31 = .ok (.ifCond .eq 33, 3) := by decide +kernel
theorem d_MO_isPlain_34 : decode b_MO_isPlain 34 = .ok (.aload_n 0, 1) := by decide +kernel
theorem d_MO_isPlain_35 : decode b_MO_isPlain 35 = .ok (.getfield 8, 3) := by decide +kernel
theorem d_MO_isPlain_38 : decode b_MO_isPlain 38 = .ok (.iload_n 1, 1) := by decide +kernel
theorem d_MO_isPlain_39 : decode b_MO_isPlain 39 = .ok (.iload 4, 2) := by decide +kernel
theorem d_MO_isPlain_41 : decode b_MO_isPlain 41 = .ok (.iadd, 1) := by decide +kernel
theorem d_MO_isPlain_42 : decode b_MO_isPlain 42 = .ok (.iaload, 1) := by decide +kernel
theorem d_MO_isPlain_43 : decode b_MO_isPlain 43 = .ok (.bipush 46, 2) := by decide +kernel
theorem d_MO_isPlain_45 : decode b_MO_isPlain 45 = .ok (.if_icmp .eq 19, 3) := by decide +kernel
theorem d_MO_isPlain_48 : decode b_MO_isPlain 48 = .ok (.aload_n 0, 1) := by decide +kernel
theorem d_MO_isPlain_49 : decode b_MO_isPlain 49 = .ok (.getfield 8, 3) := by decide +kernel
theorem d_MO_isPlain_52 : decode b_MO_isPlain 52 = .ok (.iload_n 1, 1) := by decide +kernel
theorem d_MO_isPlain_53 : decode b_MO_isPlain 53 = .ok (.iload 4, 2) := by decide +kernel
theorem d_MO_isPlain_55 : decode b_MO_isPlain 55 = .ok (.iadd, 1) := by decide +kernel
theorem d_MO_isPlain_56 : decode b_MO_isPlain 56 = .ok (.iaload, 1) := by decide +kernel
theorem d_MO_isPlain_57 : decode b_MO_isPlain 57 = .ok (.ifCond .eq 7, 3) := by decide +kernel
theorem d_MO_isPlain_60 : decode b_MO_isPlain 60 = .ok (.iconst 1, 1) := by decide +kernel
theorem d_MO_isPlain_61 : decode b_MO_isPlain 61 = .ok (.goto 4, 3) := by decide +kernel
theorem d_MO_isPlain_64 : decode b_MO_isPlain 64 = .ok (.iconst 0, 1) := by decide +kernel
theorem d_MO_isPlain_65 : decode b_MO_isPlain 65 = .ok (.istore_n 3, 1) := by decide +kernel
theorem d_MO_isPlain_66 : decode b_MO_isPlain 66 = .ok (.iinc 4 1, 3) := by decide +kernel
theorem d_MO_isPlain_69 : decode b_MO_isPlain 69 = .ok (.goto (-45), 3) := by decide +kernel
theorem d_MO_isPlain_72 : decode b_MO_isPlain 72 = .ok (.iload_n 3, 1) := by decide +kernel
theorem d_MO_isPlain_73 : decode b_MO_isPlain 73 = .ok (.ireturn, 1) := by decide +kernel
abbrev b_MO_isPlainName : ByteArray := prog_13_method_52_code
def y_MO_isPlainName : MethodName := ⟨R_MO, "isPlainName", "(I)Z"⟩
theorem kc_MO_isPlainName : Cond.code y_MO_isPlainName b_MO_isPlainName 2 (some .boolean) ∈ lw_g := lw_gm (List.mem_append_right _ (List.mem_of_getElem? (i := 1235) (by decide +kernel))) rfl
abbrev mw_MO_isPlainName : List Cond := Cond.code y_MO_isPlainName b_MO_isPlainName 2 (some .boolean) :: lw_g
theorem hd_MO_isPlainName : y_MO_isPlainName.cls = R_MO ∧ y_MO_isPlainName.cls ≠ "java/lang/invoke/MethodHandle" ∧ y_MO_isPlainName.cls ≠ "java/lang/invoke/VarHandle" ∧ (parseMethodDescriptor y_MO_isPlainName.desc).map (fun d => d.parameters.length) = some 1 := by decide +kernel
theorem kp_MO_isPlainName : Cond.selects R_MO y_MO_isPlainName y_MO_isPlainName ∈ lw_g := lw_gm (List.mem_append_left _ (by decide +kernel)) rfl
theorem d_MO_isPlainName_0 : decode b_MO_isPlainName 0 = .ok (.aload_n 0, 1) := by decide +kernel
theorem d_MO_isPlainName_1 : decode b_MO_isPlainName 1 = .ok (.iload_n 1, 1) := by decide +kernel
theorem d_MO_isPlainName_2 : decode b_MO_isPlainName 2 = .ok (.iconst 1, 1) := by decide +kernel
theorem d_MO_isPlainName_3 : decode b_MO_isPlainName 3 = .ok (.iadd, 1) := by decide +kernel
theorem d_MO_isPlainName_4 : decode b_MO_isPlainName 4 = .ok (.aload_n 0, 1) := by decide +kernel
theorem d_MO_isPlainName_5 : decode b_MO_isPlainName 5 = .ok (.iload_n 1, 1) := by decide +kernel
theorem d_MO_isPlainName_6 : decode b_MO_isPlainName 6 = .ok (.invokevirtual 95, 3) := by decide +kernel
theorem d_MO_isPlainName_9 : decode b_MO_isPlainName 9 = .ok (.iload_n 1, 1) := by decide +kernel
theorem d_MO_isPlainName_10 : decode b_MO_isPlainName 10 = .ok (.isub, 1) := by decide +kernel
theorem d_MO_isPlainName_11 : decode b_MO_isPlainName 11 = .ok (.iconst 1, 1) := by decide +kernel
theorem d_MO_isPlainName_12 : decode b_MO_isPlainName 12 = .ok (.isub, 1) := by decide +kernel
theorem d_MO_isPlainName_13 : decode b_MO_isPlainName 13 = .ok (.invokevirtual 251, 3) := by decide +kernel
theorem d_MO_isPlainName_16 : decode b_MO_isPlainName 16 = .ok (.ireturn, 1) := by decide +kernel
abbrev b_MO_isExpressionPath : ByteArray := prog_13_method_40_code
def y_MO_isExpressionPath : MethodName := ⟨R_MO, "isExpressionPath", "(I)Z"⟩
theorem kc_MO_isExpressionPath : Cond.code y_MO_isExpressionPath b_MO_isExpressionPath 2 (some .boolean) ∈ lw_g := lw_gm (List.mem_append_right _ (List.mem_of_getElem? (i := 1247) (by decide +kernel))) rfl
abbrev mw_MO_isExpressionPath : List Cond := Cond.code y_MO_isExpressionPath b_MO_isExpressionPath 2 (some .boolean) :: lw_g
theorem hd_MO_isExpressionPath : y_MO_isExpressionPath.cls = R_MO ∧ y_MO_isExpressionPath.cls ≠ "java/lang/invoke/MethodHandle" ∧ y_MO_isExpressionPath.cls ≠ "java/lang/invoke/VarHandle" ∧ (parseMethodDescriptor y_MO_isExpressionPath.desc).map (fun d => d.parameters.length) = some 1 := by decide +kernel
theorem kp_MO_isExpressionPath : Cond.selects R_MO y_MO_isExpressionPath y_MO_isExpressionPath ∈ lw_g := lw_gm (List.mem_append_left _ (by decide +kernel)) rfl
theorem d_MO_isExpressionPath_0 : decode b_MO_isExpressionPath 0 = .ok (.aload_n 0, 1) := by decide +kernel
theorem d_MO_isExpressionPath_1 : decode b_MO_isExpressionPath 1 = .ok (.getfield 8, 3) := by decide +kernel
theorem d_MO_isExpressionPath_4 : decode b_MO_isExpressionPath 4 = .ok (.iload_n 1, 1) := by decide +kernel
theorem d_MO_isExpressionPath_5 : decode b_MO_isExpressionPath 5 = .ok (.iaload, 1) := by decide +kernel
theorem d_MO_isExpressionPath_6 : decode b_MO_isExpressionPath 6 = .ok (.iconst 2, 1) := by decide +kernel
theorem d_MO_isExpressionPath_7 : decode b_MO_isExpressionPath 7 = .ok (.if_icmp .ne 37, 3) := by decide +kernel
theorem d_MO_isExpressionPath_10 : decode b_MO_isExpressionPath 10 = .ok (.aload_n 0, 1) := by decide +kernel
theorem d_MO_isExpressionPath_11 : decode b_MO_isExpressionPath 11 = .ok (.aload_n 0, 1) := by decide +kernel
theorem d_MO_isExpressionPath_12 : decode b_MO_isExpressionPath 12 = .ok (.iload_n 1, 1) := by decide +kernel
theorem d_MO_isExpressionPath_13 : decode b_MO_isExpressionPath 13 = .ok (.invokevirtual 81, 3) := by decide +kernel
theorem d_MO_isExpressionPath_16 : decode b_MO_isExpressionPath 16 = .ok (.invokevirtual 73, 3) := by decide +kernel
theorem d_MO_isExpressionPath_19 : decode b_MO_isExpressionPath 19 = .ok (.iconst 1, 1) := by decide +kernel
theorem d_MO_isExpressionPath_20 : decode b_MO_isExpressionPath 20 = .ok (.if_icmp .le 24, 3) := by decide +kernel
theorem d_MO_isExpressionPath_23 : decode b_MO_isExpressionPath 23 = .ok (.aload_n 0, 1) := by decide +kernel
theorem d_MO_isExpressionPath_24 : decode b_MO_isExpressionPath 24 = .ok (.getfield 8, 3) := by decide +kernel
theorem d_MO_isExpressionPath_27 : decode b_MO_isExpressionPath 27 = .ok (.aload_n 0, 1) := by decide +kernel
theorem d_MO_isExpressionPath_28 : decode b_MO_isExpressionPath 28 = .ok (.iload_n 1, 1) := by decide +kernel
theorem d_MO_isExpressionPath_29 : decode b_MO_isExpressionPath 29 = .ok (.invokevirtual 81, 3) := by decide +kernel
theorem d_MO_isExpressionPath_32 : decode b_MO_isExpressionPath 32 = .ok (.iconst 4, 1) := by decide +kernel
theorem d_MO_isExpressionPath_33 : decode b_MO_isExpressionPath 33 = .ok (.iadd, 1) := by decide +kernel
theorem d_MO_isExpressionPath_34 : decode b_MO_isExpressionPath 34 = .ok (.iaload, 1) := by decide +kernel
theorem d_MO_isExpressionPath_35 : decode b_MO_isExpressionPath 35 = .ok (.bipush 36, 2) := by decide +kernel
theorem d_MO_isExpressionPath_37 : decode b_MO_isExpressionPath 37 = .ok (.if_icmp .ne 7, 3) := by decide +kernel
theorem d_MO_isExpressionPath_40 : decode b_MO_isExpressionPath 40 = .ok (.iconst 1, 1) := by decide +kernel
theorem d_MO_isExpressionPath_41 : decode b_MO_isExpressionPath 41 = .ok (.goto 4, 3) := by decide +kernel
theorem d_MO_isExpressionPath_44 : decode b_MO_isExpressionPath 44 = .ok (.iconst 0, 1) := by decide +kernel
theorem d_MO_isExpressionPath_45 : decode b_MO_isExpressionPath 45 = .ok (.ireturn, 1) := by decide +kernel
abbrev b_MO_expressionFault : ByteArray := prog_13_method_53_code
def y_MO_expressionFault : MethodName := ⟨R_MO, "expressionFault", "(I)I"⟩
theorem kc_MO_expressionFault : Cond.code y_MO_expressionFault b_MO_expressionFault 2 (some .int) ∈ lw_g := lw_gm (List.mem_append_right _ (List.mem_of_getElem? (i := 1243) (by decide +kernel))) rfl
abbrev mw_MO_expressionFault : List Cond := Cond.code y_MO_expressionFault b_MO_expressionFault 2 (some .int) :: lw_g
theorem hd_MO_expressionFault : y_MO_expressionFault.cls = R_MO ∧ y_MO_expressionFault.cls ≠ "java/lang/invoke/MethodHandle" ∧ y_MO_expressionFault.cls ≠ "java/lang/invoke/VarHandle" ∧ (parseMethodDescriptor y_MO_expressionFault.desc).map (fun d => d.parameters.length) = some 1 := by decide +kernel
theorem kp_MO_expressionFault : Cond.selects R_MO y_MO_expressionFault y_MO_expressionFault ∈ lw_g := lw_gm (List.mem_append_left _ (by decide +kernel)) rfl
theorem d_MO_expressionFault_0 : decode b_MO_expressionFault 0 = .ok (.aload_n 0, 1) := by decide +kernel
theorem d_MO_expressionFault_1 : decode b_MO_expressionFault 1 = .ok (.iload_n 1, 1) := by decide +kernel
theorem d_MO_expressionFault_2 : decode b_MO_expressionFault 2 = .ok (.invokevirtual 193, 3) := by decide +kernel
theorem d_MO_expressionFault_5 : decode b_MO_expressionFault 5 = .ok (.ifCond .eq 32, 3) := by decide +kernel
theorem d_MO_expressionFault_8 : decode b_MO_expressionFault 8 = .ok (.aload_n 0, 1) := by decide +kernel
theorem d_MO_expressionFault_9 : decode b_MO_expressionFault 9 = .ok (.aload_n 0, 1) := by decide +kernel
theorem d_MO_expressionFault_10 : decode b_MO_expressionFault 10 = .ok (.iload_n 1, 1) := by decide +kernel
theorem d_MO_expressionFault_11 : decode b_MO_expressionFault 11 = .ok (.invokevirtual 81, 3) := by decide +kernel
theorem d_MO_expressionFault_14 : decode b_MO_expressionFault 14 = .ok (.iconst 5, 1) := by decide +kernel
theorem d_MO_expressionFault_15 : decode b_MO_expressionFault 15 = .ok (.iadd, 1) := by decide +kernel
theorem d_MO_expressionFault_16 : decode b_MO_expressionFault 16 = .ok (.aload_n 0, 1) := by decide +kernel
theorem d_MO_expressionFault_17 : decode b_MO_expressionFault 17 = .ok (.aload_n 0, 1) := by decide +kernel
theorem d_MO_expressionFault_18 : decode b_MO_expressionFault 18 = .ok (.iload_n 1, 1) := by decide +kernel
theorem d_MO_expressionFault_19 : decode b_MO_expressionFault 19 = .ok (.invokevirtual 81, 3) := by decide +kernel
theorem d_MO_expressionFault_22 : decode b_MO_expressionFault 22 = .ok (.invokevirtual 73, 3) := by decide +kernel
theorem d_MO_expressionFault_25 : decode b_MO_expressionFault 25 = .ok (.iconst 2, 1) := by decide +kernel
theorem d_MO_expressionFault_26 : decode b_MO_expressionFault 26 = .ok (.isub, 1) := by decide +kernel
theorem d_MO_expressionFault_27 : decode b_MO_expressionFault 27 = .ok (.invokevirtual 254, 3) := by decide +kernel
theorem d_MO_expressionFault_30 : decode b_MO_expressionFault 30 = .ok (.ifCond .ne 7, 3) := by decide +kernel
theorem d_MO_expressionFault_33 : decode b_MO_expressionFault 33 = .ok (.iconst 3, 1) := by decide +kernel
theorem d_MO_expressionFault_34 : decode b_MO_expressionFault 34 = .ok (.goto 4, 3) := by decide +kernel
theorem d_MO_expressionFault_37 : decode b_MO_expressionFault 37 = .ok (.iconst 0, 1) := by decide +kernel
theorem d_MO_expressionFault_38 : decode b_MO_expressionFault 38 = .ok (.ireturn, 1) := by decide +kernel
abbrev b_MO_stageOf : ByteArray := prog_13_method_48_code
def y_MO_stageOf : MethodName := ⟨R_MO, "stageOf", "(I)I"⟩
theorem kc_MO_stageOf : Cond.code y_MO_stageOf b_MO_stageOf 2 (some .int) ∈ lw_g := lw_gm (List.mem_append_right _ (List.mem_of_getElem? (i := 1215) (by decide +kernel))) rfl
abbrev mw_MO_stageOf : List Cond := Cond.code y_MO_stageOf b_MO_stageOf 2 (some .int) :: lw_g
theorem hd_MO_stageOf : y_MO_stageOf.cls = R_MO ∧ y_MO_stageOf.cls ≠ "java/lang/invoke/MethodHandle" ∧ y_MO_stageOf.cls ≠ "java/lang/invoke/VarHandle" ∧ (parseMethodDescriptor y_MO_stageOf.desc).map (fun d => d.parameters.length) = some 1 := by decide +kernel
theorem kp_MO_stageOf : Cond.selects R_MO y_MO_stageOf y_MO_stageOf ∈ lw_g := lw_gm (List.mem_append_left _ (by decide +kernel)) rfl
theorem d_MO_stageOf_0 : decode b_MO_stageOf 0 = .ok (.aload_n 0, 1) := by decide +kernel
theorem d_MO_stageOf_1 : decode b_MO_stageOf 1 = .ok (.iload_n 1, 1) := by decide +kernel
theorem d_MO_stageOf_2 : decode b_MO_stageOf 2 = .ok (.ldc2_w 214, 3) := by decide +kernel
theorem d_MO_stageOf_5 : decode b_MO_stageOf 5 = .ok (.invokevirtual 216, 3) := by decide +kernel
theorem d_MO_stageOf_8 : decode b_MO_stageOf 8 = .ok (.ifCond .eq 5, 3) := by decide +kernel
theorem d_MO_stageOf_11 : decode b_MO_stageOf 11 = .ok (.iconst 1, 1) := by decide +kernel
theorem d_MO_stageOf_12 : decode b_MO_stageOf 12 = .ok (.ireturn, 1) := by decide +kernel
theorem d_MO_stageOf_13 : decode b_MO_stageOf 13 = .ok (.aload_n 0, 1) := by decide +kernel
theorem d_MO_stageOf_14 : decode b_MO_stageOf 14 = .ok (.iload_n 1, 1) := by decide +kernel
theorem d_MO_stageOf_15 : decode b_MO_stageOf 15 = .ok (.ldc2_w 220, 3) := by decide +kernel
theorem d_MO_stageOf_18 : decode b_MO_stageOf 18 = .ok (.invokevirtual 216, 3) := by decide +kernel
theorem d_MO_stageOf_21 : decode b_MO_stageOf 21 = .ok (.ifCond .eq 5, 3) := by decide +kernel
theorem d_MO_stageOf_24 : decode b_MO_stageOf 24 = .ok (.iconst 2, 1) := by decide +kernel
theorem d_MO_stageOf_25 : decode b_MO_stageOf 25 = .ok (.ireturn, 1) := by decide +kernel
theorem d_MO_stageOf_26 : decode b_MO_stageOf 26 = .ok (.aload_n 0, 1) := by decide +kernel
theorem d_MO_stageOf_27 : decode b_MO_stageOf 27 = .ok (.iload_n 1, 1) := by decide +kernel
theorem d_MO_stageOf_28 : decode b_MO_stageOf 28 = .ok (.ldc2_w 222, 3) := by decide +kernel
theorem d_MO_stageOf_31 : decode b_MO_stageOf 31 = .ok (.invokevirtual 216, 3) := by decide +kernel
theorem d_MO_stageOf_34 : decode b_MO_stageOf 34 = .ok (.ifCond .eq 5, 3) := by decide +kernel
theorem d_MO_stageOf_37 : decode b_MO_stageOf 37 = .ok (.iconst 3, 1) := by decide +kernel
theorem d_MO_stageOf_38 : decode b_MO_stageOf 38 = .ok (.ireturn, 1) := by decide +kernel
theorem d_MO_stageOf_39 : decode b_MO_stageOf 39 = .ok (.aload_n 0, 1) := by decide +kernel
theorem d_MO_stageOf_40 : decode b_MO_stageOf 40 = .ok (.iload_n 1, 1) := by decide +kernel
theorem d_MO_stageOf_41 : decode b_MO_stageOf 41 = .ok (.ldc2_w 224, 3) := by decide +kernel
theorem d_MO_stageOf_44 : decode b_MO_stageOf 44 = .ok (.invokevirtual 216, 3) := by decide +kernel
theorem d_MO_stageOf_47 : decode b_MO_stageOf 47 = .ok (.ifCond .eq 5, 3) := by decide +kernel
theorem d_MO_stageOf_50 : decode b_MO_stageOf 50 = .ok (.iconst 4, 1) := by decide +kernel
theorem d_MO_stageOf_51 : decode b_MO_stageOf 51 = .ok (.ireturn, 1) := by decide +kernel
theorem d_MO_stageOf_52 : decode b_MO_stageOf 52 = .ok (.aload_n 0, 1) := by decide +kernel
theorem d_MO_stageOf_53 : decode b_MO_stageOf 53 = .ok (.iload_n 1, 1) := by decide +kernel
theorem d_MO_stageOf_54 : decode b_MO_stageOf 54 = .ok (.ldc2_w 226, 3) := by decide +kernel
theorem d_MO_stageOf_57 : decode b_MO_stageOf 57 = .ok (.invokevirtual 216, 3) := by decide +kernel
theorem d_MO_stageOf_60 : decode b_MO_stageOf 60 = .ok (.ifCond .eq 5, 3) := by decide +kernel
theorem d_MO_stageOf_63 : decode b_MO_stageOf 63 = .ok (.iconst 5, 1) := by decide +kernel
theorem d_MO_stageOf_64 : decode b_MO_stageOf 64 = .ok (.ireturn, 1) := by decide +kernel
theorem d_MO_stageOf_65 : decode b_MO_stageOf 65 = .ok (.aload_n 0, 1) := by decide +kernel
theorem d_MO_stageOf_66 : decode b_MO_stageOf 66 = .ok (.iload_n 1, 1) := by decide +kernel
theorem d_MO_stageOf_67 : decode b_MO_stageOf 67 = .ok (.ldc2_w 228, 3) := by decide +kernel
theorem d_MO_stageOf_70 : decode b_MO_stageOf 70 = .ok (.invokevirtual 216, 3) := by decide +kernel
theorem d_MO_stageOf_73 : decode b_MO_stageOf 73 = .ok (.ifCond .eq 6, 3) := by decide +kernel
theorem d_MO_stageOf_76 : decode b_MO_stageOf 76 = .ok (.bipush 6, 2) := by decide +kernel
theorem d_MO_stageOf_78 : decode b_MO_stageOf 78 = .ok (.ireturn, 1) := by decide +kernel
theorem d_MO_stageOf_79 : decode b_MO_stageOf 79 = .ok (.aload_n 0, 1) := by decide +kernel
theorem d_MO_stageOf_80 : decode b_MO_stageOf 80 = .ok (.iload_n 1, 1) := by decide +kernel
theorem d_MO_stageOf_81 : decode b_MO_stageOf 81 = .ok (.ldc2_w 230, 3) := by decide +kernel
theorem d_MO_stageOf_84 : decode b_MO_stageOf 84 = .ok (.invokevirtual 216, 3) := by decide +kernel
theorem d_MO_stageOf_87 : decode b_MO_stageOf 87 = .ok (.ifCond .eq 8, 3) := by decide +kernel
theorem d_MO_stageOf_90 : decode b_MO_stageOf 90 = .ok (.bipush 7, 2) := by decide +kernel
theorem d_MO_stageOf_92 : decode b_MO_stageOf 92 = .ok (.goto 4, 3) := by decide +kernel
theorem d_MO_stageOf_95 : decode b_MO_stageOf 95 = .ok (.iconst 0, 1) := by decide +kernel
theorem d_MO_stageOf_96 : decode b_MO_stageOf 96 = .ok (.ireturn, 1) := by decide +kernel
abbrev b_MO_gatherOf : ByteArray := prog_13_method_49_code
def y_MO_gatherOf : MethodName := ⟨R_MO, "gatherOf", "(I)I"⟩
theorem kc_MO_gatherOf : Cond.code y_MO_gatherOf b_MO_gatherOf 2 (some .int) ∈ lw_g := lw_gm (List.mem_append_right _ (List.mem_of_getElem? (i := 1260) (by decide +kernel))) rfl
abbrev mw_MO_gatherOf : List Cond := Cond.code y_MO_gatherOf b_MO_gatherOf 2 (some .int) :: lw_g
theorem hd_MO_gatherOf : y_MO_gatherOf.cls = R_MO ∧ y_MO_gatherOf.cls ≠ "java/lang/invoke/MethodHandle" ∧ y_MO_gatherOf.cls ≠ "java/lang/invoke/VarHandle" ∧ (parseMethodDescriptor y_MO_gatherOf.desc).map (fun d => d.parameters.length) = some 1 := by decide +kernel
theorem kp_MO_gatherOf : Cond.selects R_MO y_MO_gatherOf y_MO_gatherOf ∈ lw_g := lw_gm (List.mem_append_left _ (by decide +kernel)) rfl
theorem d_MO_gatherOf_0 : decode b_MO_gatherOf 0 = .ok (.aload_n 0, 1) := by decide +kernel
theorem d_MO_gatherOf_1 : decode b_MO_gatherOf 1 = .ok (.iload_n 1, 1) := by decide +kernel
theorem d_MO_gatherOf_2 : decode b_MO_gatherOf 2 = .ok (.ldc2_w 232, 3) := by decide +kernel
theorem d_MO_gatherOf_5 : decode b_MO_gatherOf 5 = .ok (.invokevirtual 216, 3) := by decide +kernel
theorem d_MO_gatherOf_8 : decode b_MO_gatherOf 8 = .ok (.ifCond .eq 5, 3) := by decide +kernel
theorem d_MO_gatherOf_11 : decode b_MO_gatherOf 11 = .ok (.iconst 1, 1) := by decide +kernel
theorem d_MO_gatherOf_12 : decode b_MO_gatherOf 12 = .ok (.ireturn, 1) := by decide +kernel
theorem d_MO_gatherOf_13 : decode b_MO_gatherOf 13 = .ok (.aload_n 0, 1) := by decide +kernel
theorem d_MO_gatherOf_14 : decode b_MO_gatherOf 14 = .ok (.iload_n 1, 1) := by decide +kernel
theorem d_MO_gatherOf_15 : decode b_MO_gatherOf 15 = .ok (.ldc2_w 234, 3) := by decide +kernel
theorem d_MO_gatherOf_18 : decode b_MO_gatherOf 18 = .ok (.invokevirtual 216, 3) := by decide +kernel
theorem d_MO_gatherOf_21 : decode b_MO_gatherOf 21 = .ok (.ifCond .eq 5, 3) := by decide +kernel
theorem d_MO_gatherOf_24 : decode b_MO_gatherOf 24 = .ok (.iconst 2, 1) := by decide +kernel
theorem d_MO_gatherOf_25 : decode b_MO_gatherOf 25 = .ok (.ireturn, 1) := by decide +kernel
theorem d_MO_gatherOf_26 : decode b_MO_gatherOf 26 = .ok (.aload_n 0, 1) := by decide +kernel
theorem d_MO_gatherOf_27 : decode b_MO_gatherOf 27 = .ok (.iload_n 1, 1) := by decide +kernel
theorem d_MO_gatherOf_28 : decode b_MO_gatherOf 28 = .ok (.ldc2_w 236, 3) := by decide +kernel
theorem d_MO_gatherOf_31 : decode b_MO_gatherOf 31 = .ok (.invokevirtual 216, 3) := by decide +kernel
theorem d_MO_gatherOf_34 : decode b_MO_gatherOf 34 = .ok (.ifCond .eq 5, 3) := by decide +kernel
theorem d_MO_gatherOf_37 : decode b_MO_gatherOf 37 = .ok (.iconst 3, 1) := by decide +kernel
theorem d_MO_gatherOf_38 : decode b_MO_gatherOf 38 = .ok (.ireturn, 1) := by decide +kernel
theorem d_MO_gatherOf_39 : decode b_MO_gatherOf 39 = .ok (.aload_n 0, 1) := by decide +kernel
theorem d_MO_gatherOf_40 : decode b_MO_gatherOf 40 = .ok (.iload_n 1, 1) := by decide +kernel
theorem d_MO_gatherOf_41 : decode b_MO_gatherOf 41 = .ok (.ldc2_w 238, 3) := by decide +kernel
theorem d_MO_gatherOf_44 : decode b_MO_gatherOf 44 = .ok (.invokevirtual 216, 3) := by decide +kernel
theorem d_MO_gatherOf_47 : decode b_MO_gatherOf 47 = .ok (.ifCond .eq 5, 3) := by decide +kernel
theorem d_MO_gatherOf_50 : decode b_MO_gatherOf 50 = .ok (.iconst 4, 1) := by decide +kernel
theorem d_MO_gatherOf_51 : decode b_MO_gatherOf 51 = .ok (.ireturn, 1) := by decide +kernel
theorem d_MO_gatherOf_52 : decode b_MO_gatherOf 52 = .ok (.aload_n 0, 1) := by decide +kernel
theorem d_MO_gatherOf_53 : decode b_MO_gatherOf 53 = .ok (.iload_n 1, 1) := by decide +kernel
theorem d_MO_gatherOf_54 : decode b_MO_gatherOf 54 = .ok (.ldc2_w 240, 3) := by decide +kernel
theorem d_MO_gatherOf_57 : decode b_MO_gatherOf 57 = .ok (.invokevirtual 216, 3) := by decide +kernel
theorem d_MO_gatherOf_60 : decode b_MO_gatherOf 60 = .ok (.ifCond .eq 5, 3) := by decide +kernel
theorem d_MO_gatherOf_63 : decode b_MO_gatherOf 63 = .ok (.iconst 5, 1) := by decide +kernel
theorem d_MO_gatherOf_64 : decode b_MO_gatherOf 64 = .ok (.ireturn, 1) := by decide +kernel
theorem d_MO_gatherOf_65 : decode b_MO_gatherOf 65 = .ok (.aload_n 0, 1) := by decide +kernel
theorem d_MO_gatherOf_66 : decode b_MO_gatherOf 66 = .ok (.iload_n 1, 1) := by decide +kernel
theorem d_MO_gatherOf_67 : decode b_MO_gatherOf 67 = .ok (.ldc2_w 242, 3) := by decide +kernel
theorem d_MO_gatherOf_70 : decode b_MO_gatherOf 70 = .ok (.invokevirtual 216, 3) := by decide +kernel
theorem d_MO_gatherOf_73 : decode b_MO_gatherOf 73 = .ok (.ifCond .eq 6, 3) := by decide +kernel
theorem d_MO_gatherOf_76 : decode b_MO_gatherOf 76 = .ok (.bipush 6, 2) := by decide +kernel
theorem d_MO_gatherOf_78 : decode b_MO_gatherOf 78 = .ok (.ireturn, 1) := by decide +kernel
theorem d_MO_gatherOf_79 : decode b_MO_gatherOf 79 = .ok (.aload_n 0, 1) := by decide +kernel
theorem d_MO_gatherOf_80 : decode b_MO_gatherOf 80 = .ok (.iload_n 1, 1) := by decide +kernel
theorem d_MO_gatherOf_81 : decode b_MO_gatherOf 81 = .ok (.ldc2_w 244, 3) := by decide +kernel
theorem d_MO_gatherOf_84 : decode b_MO_gatherOf 84 = .ok (.invokevirtual 216, 3) := by decide +kernel
theorem d_MO_gatherOf_87 : decode b_MO_gatherOf 87 = .ok (.ifCond .eq 6, 3) := by decide +kernel
theorem d_MO_gatherOf_90 : decode b_MO_gatherOf 90 = .ok (.bipush 7, 2) := by decide +kernel
theorem d_MO_gatherOf_92 : decode b_MO_gatherOf 92 = .ok (.ireturn, 1) := by decide +kernel
theorem d_MO_gatherOf_93 : decode b_MO_gatherOf 93 = .ok (.aload_n 0, 1) := by decide +kernel
theorem d_MO_gatherOf_94 : decode b_MO_gatherOf 94 = .ok (.iload_n 1, 1) := by decide +kernel
theorem d_MO_gatherOf_95 : decode b_MO_gatherOf 95 = .ok (.invokevirtual 246, 3) := by decide +kernel
theorem d_MO_gatherOf_98 : decode b_MO_gatherOf 98 = .ok (.ifCond .eq 8, 3) := by decide +kernel
theorem d_MO_gatherOf_101 : decode b_MO_gatherOf 101 = .ok (.bipush 8, 2) := by decide +kernel
theorem d_MO_gatherOf_103 : decode b_MO_gatherOf 103 = .ok (.goto 4, 3) := by decide +kernel
theorem d_MO_gatherOf_106 : decode b_MO_gatherOf 106 = .ok (.iconst 0, 1) := by decide +kernel
theorem d_MO_gatherOf_107 : decode b_MO_gatherOf 107 = .ok (.ireturn, 1) := by decide +kernel
abbrev b_MO_projectFault : ByteArray := prog_13_method_54_code
def y_MO_projectFault : MethodName := ⟨R_MO, "projectFault", "(I)I"⟩
theorem kc_MO_projectFault : Cond.code y_MO_projectFault b_MO_projectFault 3 (some .int) ∈ lw_g := lw_gm (List.mem_append_right _ (List.mem_of_getElem? (i := 1231) (by decide +kernel))) rfl
abbrev mw_MO_projectFault : List Cond := Cond.code y_MO_projectFault b_MO_projectFault 3 (some .int) :: lw_g
theorem hd_MO_projectFault : y_MO_projectFault.cls = R_MO ∧ y_MO_projectFault.cls ≠ "java/lang/invoke/MethodHandle" ∧ y_MO_projectFault.cls ≠ "java/lang/invoke/VarHandle" ∧ (parseMethodDescriptor y_MO_projectFault.desc).map (fun d => d.parameters.length) = some 1 := by decide +kernel
theorem kp_MO_projectFault : Cond.selects R_MO y_MO_projectFault y_MO_projectFault ∈ lw_g := lw_gm (List.mem_append_left _ (by decide +kernel)) rfl
theorem d_MO_projectFault_0 : decode b_MO_projectFault 0 = .ok (.aload_n 0, 1) := by decide +kernel
theorem d_MO_projectFault_1 : decode b_MO_projectFault 1 = .ok (.iload_n 1, 1) := by decide +kernel
theorem d_MO_projectFault_2 : decode b_MO_projectFault 2 = .ok (.invokevirtual 257, 3) := by decide +kernel
theorem d_MO_projectFault_5 : decode b_MO_projectFault 5 = .ok (.ifCond .ne 5, 3) := by decide +kernel
theorem d_MO_projectFault_8 : decode b_MO_projectFault 8 = .ok (.iconst 2, 1) := by decide +kernel
theorem d_MO_projectFault_9 : decode b_MO_projectFault 9 = .ok (.ireturn, 1) := by decide +kernel
theorem d_MO_projectFault_10 : decode b_MO_projectFault 10 = .ok (.aload_n 0, 1) := by decide +kernel
theorem d_MO_projectFault_11 : decode b_MO_projectFault 11 = .ok (.iload_n 1, 1) := by decide +kernel
theorem d_MO_projectFault_12 : decode b_MO_projectFault 12 = .ok (.invokevirtual 108, 3) := by decide +kernel
theorem d_MO_projectFault_15 : decode b_MO_projectFault 15 = .ok (.istore_n 2, 1) := by decide +kernel
theorem d_MO_projectFault_16 : decode b_MO_projectFault 16 = .ok (.iload_n 2, 1) := by decide +kernel
theorem d_MO_projectFault_17 : decode b_MO_projectFault 17 = .ok (.ifCond .le 32, 3) := by decide +kernel
theorem d_MO_projectFault_20 : decode b_MO_projectFault 20 = .ok (.aload_n 0, 1) := by decide +kernel
theorem d_MO_projectFault_21 : decode b_MO_projectFault 21 = .ok (.iload_n 2, 1) := by decide +kernel
theorem d_MO_projectFault_22 : decode b_MO_projectFault 22 = .ok (.invokevirtual 260, 3) := by decide +kernel
theorem d_MO_projectFault_25 : decode b_MO_projectFault 25 = .ok (.ifCond .ne 5, 3) := by decide +kernel
theorem d_MO_projectFault_28 : decode b_MO_projectFault 28 = .ok (.iconst 2, 1) := by decide +kernel
theorem d_MO_projectFault_29 : decode b_MO_projectFault 29 = .ok (.ireturn, 1) := by decide +kernel
theorem d_MO_projectFault_30 : decode b_MO_projectFault 30 = .ok (.aload_n 0, 1) := by decide +kernel
theorem d_MO_projectFault_31 : decode b_MO_projectFault 31 = .ok (.iload_n 2, 1) := by decide +kernel
theorem d_MO_projectFault_32 : decode b_MO_projectFault 32 = .ok (.invokevirtual 263, 3) := by decide +kernel
theorem d_MO_projectFault_35 : decode b_MO_projectFault 35 = .ok (.ifCond .le 5, 3) := by decide +kernel
theorem d_MO_projectFault_38 : decode b_MO_projectFault 38 = .ok (.iconst 3, 1) := by decide +kernel
theorem d_MO_projectFault_39 : decode b_MO_projectFault 39 = .ok (.ireturn, 1) := by decide +kernel
theorem d_MO_projectFault_40 : decode b_MO_projectFault 40 = .ok (.aload_n 0, 1) := by decide +kernel
theorem d_MO_projectFault_41 : decode b_MO_projectFault 41 = .ok (.iload_n 2, 1) := by decide +kernel
theorem d_MO_projectFault_42 : decode b_MO_projectFault 42 = .ok (.invokevirtual 111, 3) := by decide +kernel
theorem d_MO_projectFault_45 : decode b_MO_projectFault 45 = .ok (.istore_n 2, 1) := by decide +kernel
theorem d_MO_projectFault_46 : decode b_MO_projectFault 46 = .ok (.goto (-30), 3) := by decide +kernel
theorem d_MO_projectFault_49 : decode b_MO_projectFault 49 = .ok (.iconst 0, 1) := by decide +kernel
theorem d_MO_projectFault_50 : decode b_MO_projectFault 50 = .ok (.ireturn, 1) := by decide +kernel
abbrev b_MO_groupFault : ByteArray := prog_13_method_55_code
def y_MO_groupFault : MethodName := ⟨R_MO, "groupFault", "(I)I"⟩
theorem kc_MO_groupFault : Cond.code y_MO_groupFault b_MO_groupFault 6 (some .int) ∈ lw_g := lw_gm (List.mem_append_right _ (List.mem_of_getElem? (i := 1255) (by decide +kernel))) rfl
abbrev mw_MO_groupFault : List Cond := Cond.code y_MO_groupFault b_MO_groupFault 6 (some .int) :: lw_g
theorem hd_MO_groupFault : y_MO_groupFault.cls = R_MO ∧ y_MO_groupFault.cls ≠ "java/lang/invoke/MethodHandle" ∧ y_MO_groupFault.cls ≠ "java/lang/invoke/VarHandle" ∧ (parseMethodDescriptor y_MO_groupFault.desc).map (fun d => d.parameters.length) = some 1 := by decide +kernel
theorem kp_MO_groupFault : Cond.selects R_MO y_MO_groupFault y_MO_groupFault ∈ lw_g := lw_gm (List.mem_append_left _ (by decide +kernel)) rfl
theorem d_MO_groupFault_0 : decode b_MO_groupFault 0 = .ok (.aload_n 0, 1) := by decide +kernel
theorem d_MO_groupFault_1 : decode b_MO_groupFault 1 = .ok (.iload_n 1, 1) := by decide +kernel
theorem d_MO_groupFault_2 : decode b_MO_groupFault 2 = .ok (.invokevirtual 108, 3) := by decide +kernel
theorem d_MO_groupFault_5 : decode b_MO_groupFault 5 = .ok (.istore_n 2, 1) := by decide +kernel
theorem d_MO_groupFault_6 : decode b_MO_groupFault 6 = .ok (.iload_n 2, 1) := by decide +kernel
theorem d_MO_groupFault_7 : decode b_MO_groupFault 7 = .ok (.ifCond .eq 14, 3) := by decide +kernel
theorem d_MO_groupFault_10 : decode b_MO_groupFault 10 = .ok (.aload_n 0, 1) := by decide +kernel
theorem d_MO_groupFault_11 : decode b_MO_groupFault 11 = .ok (.iload_n 2, 1) := by decide +kernel
theorem d_MO_groupFault_12 : decode b_MO_groupFault 12 = .ok (.ldc2_w 266, 3) := by decide +kernel
theorem d_MO_groupFault_15 : decode b_MO_groupFault 15 = .ok (.invokevirtual 216, 3) := by decide +kernel
theorem d_MO_groupFault_18 : decode b_MO_groupFault 18 = .ok (.ifCond .ne 5, 3) := by decide +kernel
theorem d_MO_groupFault_21 : decode b_MO_groupFault 21 = .ok (.iconst 2, 1) := by decide +kernel
theorem d_MO_groupFault_22 : decode b_MO_groupFault 22 = .ok (.ireturn, 1) := by decide +kernel
theorem d_MO_groupFault_23 : decode b_MO_groupFault 23 = .ok (.aload_n 0, 1) := by decide +kernel
theorem d_MO_groupFault_24 : decode b_MO_groupFault 24 = .ok (.iload_n 2, 1) := by decide +kernel
theorem d_MO_groupFault_25 : decode b_MO_groupFault 25 = .ok (.invokevirtual 263, 3) := by decide +kernel
theorem d_MO_groupFault_28 : decode b_MO_groupFault 28 = .ok (.ifCond .le 5, 3) := by decide +kernel
theorem d_MO_groupFault_31 : decode b_MO_groupFault 31 = .ok (.iconst 3, 1) := by decide +kernel
theorem d_MO_groupFault_32 : decode b_MO_groupFault 32 = .ok (.ireturn, 1) := by decide +kernel
theorem d_MO_groupFault_33 : decode b_MO_groupFault 33 = .ok (.aload_n 0, 1) := by decide +kernel
theorem d_MO_groupFault_34 : decode b_MO_groupFault 34 = .ok (.iload_n 2, 1) := by decide +kernel
theorem d_MO_groupFault_35 : decode b_MO_groupFault 35 = .ok (.invokevirtual 111, 3) := by decide +kernel
theorem d_MO_groupFault_38 : decode b_MO_groupFault 38 = .ok (.istore_n 3, 1) := by decide +kernel
theorem d_MO_groupFault_39 : decode b_MO_groupFault 39 = .ok (.iload_n 3, 1) := by decide +kernel
theorem d_MO_groupFault_40 : decode b_MO_groupFault 40 = .ok (.ifCond .le 106, 3) := by decide +kernel
theorem d_MO_groupFault_43 : decode b_MO_groupFault 43 = .ok (.aload_n 0, 1) := by decide +kernel
theorem d_MO_groupFault_44 : decode b_MO_groupFault 44 = .ok (.iload_n 3, 1) := by decide +kernel
theorem d_MO_groupFault_45 : decode b_MO_groupFault 45 = .ok (.invokevirtual 260, 3) := by decide +kernel
theorem d_MO_groupFault_48 : decode b_MO_groupFault 48 = .ok (.ifCond .eq 26, 3) := by decide +kernel
theorem d_MO_groupFault_51 : decode b_MO_groupFault 51 = .ok (.aload_n 0, 1) := by decide +kernel
theorem d_MO_groupFault_52 : decode b_MO_groupFault 52 = .ok (.getfield 8, 3) := by decide +kernel
theorem d_MO_groupFault_55 : decode b_MO_groupFault 55 = .ok (.iload_n 3, 1) := by decide +kernel
theorem d_MO_groupFault_56 : decode b_MO_groupFault 56 = .ok (.iaload, 1) := by decide +kernel
theorem d_MO_groupFault_57 : decode b_MO_groupFault 57 = .ok (.iconst 3, 1) := by decide +kernel
theorem d_MO_groupFault_58 : decode b_MO_groupFault 58 = .ok (.if_icmp .ne 16, 3) := by decide +kernel
theorem d_MO_groupFault_61 : decode b_MO_groupFault 61 = .ok (.aload_n 0, 1) := by decide +kernel
theorem d_MO_groupFault_62 : decode b_MO_groupFault 62 = .ok (.aload_n 0, 1) := by decide +kernel
theorem d_MO_groupFault_63 : decode b_MO_groupFault 63 = .ok (.iload_n 3, 1) := by decide +kernel
theorem d_MO_groupFault_64 : decode b_MO_groupFault 64 = .ok (.invokevirtual 81, 3) := by decide +kernel
theorem d_MO_groupFault_67 : decode b_MO_groupFault 67 = .ok (.invokevirtual 257, 3) := by decide +kernel
theorem d_MO_groupFault_70 : decode b_MO_groupFault 70 = .ok (.iconst 1, 1) := by decide +kernel
theorem d_MO_groupFault_71 : decode b_MO_groupFault 71 = .ok (.if_icmp .eq 5, 3) := by decide +kernel
theorem d_MO_groupFault_74 : decode b_MO_groupFault 74 = .ok (.iconst 2, 1) := by decide +kernel
theorem d_MO_groupFault_75 : decode b_MO_groupFault 75 = .ok (.ireturn, 1) := by decide +kernel
theorem d_MO_groupFault_76 : decode b_MO_groupFault 76 = .ok (.aload_n 0, 1) := by decide +kernel
theorem d_MO_groupFault_77 : decode b_MO_groupFault 77 = .ok (.aload_n 0, 1) := by decide +kernel
theorem d_MO_groupFault_78 : decode b_MO_groupFault 78 = .ok (.iload_n 3, 1) := by decide +kernel
theorem d_MO_groupFault_79 : decode b_MO_groupFault 79 = .ok (.invokevirtual 81, 3) := by decide +kernel
theorem d_MO_groupFault_82 : decode b_MO_groupFault 82 = .ok (.invokevirtual 108, 3) := by decide +kernel
theorem d_MO_groupFault_85 : decode b_MO_groupFault 85 = .ok (.istore 4, 2) := by decide +kernel
theorem d_MO_groupFault_87 : decode b_MO_groupFault 87 = .ok (.aload_n 0, 1) := by decide +kernel
theorem d_MO_groupFault_88 : decode b_MO_groupFault 88 = .ok (.iload 4, 2) := by decide +kernel
theorem d_MO_groupFault_90 : decode b_MO_groupFault 90 = .ok (.invokevirtual 268, 3) := by decide +kernel
theorem d_MO_groupFault_93 : decode b_MO_groupFault 93 = .ok (.istore 5, 2) := by decide +kernel
theorem d_MO_groupFault_95 : decode b_MO_groupFault 95 = .ok (.iload 5, 2) := by decide +kernel
theorem d_MO_groupFault_97 : decode b_MO_groupFault 97 = .ok (.ifCond .eq 21, 3) := by decide +kernel
theorem d_MO_groupFault_100 : decode b_MO_groupFault 100 = .ok (.iload 5, 2) := by decide +kernel
theorem d_MO_groupFault_102 : decode b_MO_groupFault 102 = .ok (.iconst 1, 1) := by decide +kernel
theorem d_MO_groupFault_103 : decode b_MO_groupFault 103 = .ok (.if_icmp .ne 17, 3) := by decide +kernel
theorem d_MO_groupFault_106 : decode b_MO_groupFault 106 = .ok (.aload_n 0, 1) := by decide +kernel
theorem d_MO_groupFault_107 : decode b_MO_groupFault 107 = .ok (.getfield 8, 3) := by decide +kernel
theorem d_MO_groupFault_110 : decode b_MO_groupFault 110 = .ok (.iload 4, 2) := by decide +kernel
theorem d_MO_groupFault_112 : decode b_MO_groupFault 112 = .ok (.iaload, 1) := by decide +kernel
theorem d_MO_groupFault_113 : decode b_MO_groupFault 113 = .ok (.bipush 10, 2) := by decide +kernel
theorem d_MO_groupFault_115 : decode b_MO_groupFault 115 = .ok (.if_icmp .eq 5, 3) := by decide +kernel
theorem d_MO_groupFault_118 : decode b_MO_groupFault 118 = .ok (.iconst 2, 1) := by decide +kernel
theorem d_MO_groupFault_119 : decode b_MO_groupFault 119 = .ok (.ireturn, 1) := by decide +kernel
theorem d_MO_groupFault_120 : decode b_MO_groupFault 120 = .ok (.iload 5, 2) := by decide +kernel
theorem d_MO_groupFault_122 : decode b_MO_groupFault 122 = .ok (.iconst 1, 1) := by decide +kernel
theorem d_MO_groupFault_123 : decode b_MO_groupFault 123 = .ok (.if_icmp .le 14, 3) := by decide +kernel
theorem d_MO_groupFault_126 : decode b_MO_groupFault 126 = .ok (.aload_n 0, 1) := by decide +kernel
theorem d_MO_groupFault_127 : decode b_MO_groupFault 127 = .ok (.iload 4, 2) := by decide +kernel
theorem d_MO_groupFault_129 : decode b_MO_groupFault 129 = .ok (.invokevirtual 263, 3) := by decide +kernel
theorem d_MO_groupFault_132 : decode b_MO_groupFault 132 = .ok (.ifCond .le 5, 3) := by decide +kernel
theorem d_MO_groupFault_135 : decode b_MO_groupFault 135 = .ok (.iconst 3, 1) := by decide +kernel
theorem d_MO_groupFault_136 : decode b_MO_groupFault 136 = .ok (.ireturn, 1) := by decide +kernel
theorem d_MO_groupFault_137 : decode b_MO_groupFault 137 = .ok (.aload_n 0, 1) := by decide +kernel
theorem d_MO_groupFault_138 : decode b_MO_groupFault 138 = .ok (.iload_n 3, 1) := by decide +kernel
theorem d_MO_groupFault_139 : decode b_MO_groupFault 139 = .ok (.invokevirtual 111, 3) := by decide +kernel
theorem d_MO_groupFault_142 : decode b_MO_groupFault 142 = .ok (.istore_n 3, 1) := by decide +kernel
theorem d_MO_groupFault_143 : decode b_MO_groupFault 143 = .ok (.goto (-104), 3) := by decide +kernel
theorem d_MO_groupFault_146 : decode b_MO_groupFault 146 = .ok (.iconst 0, 1) := by decide +kernel
theorem d_MO_groupFault_147 : decode b_MO_groupFault 147 = .ok (.ireturn, 1) := by decide +kernel
abbrev b_MO_sortFault : ByteArray := prog_13_method_56_code
def y_MO_sortFault : MethodName := ⟨R_MO, "sortFault", "(I)I"⟩
theorem kc_MO_sortFault : Cond.code y_MO_sortFault b_MO_sortFault 5 (some .int) ∈ lw_g := lw_gm (List.mem_append_right _ (List.mem_of_getElem? (i := 1276) (by decide +kernel))) rfl
abbrev mw_MO_sortFault : List Cond := Cond.code y_MO_sortFault b_MO_sortFault 5 (some .int) :: lw_g
theorem hd_MO_sortFault : y_MO_sortFault.cls = R_MO ∧ y_MO_sortFault.cls ≠ "java/lang/invoke/MethodHandle" ∧ y_MO_sortFault.cls ≠ "java/lang/invoke/VarHandle" ∧ (parseMethodDescriptor y_MO_sortFault.desc).map (fun d => d.parameters.length) = some 1 := by decide +kernel
theorem kp_MO_sortFault : Cond.selects R_MO y_MO_sortFault y_MO_sortFault ∈ lw_g := lw_gm (List.mem_append_left _ (by decide +kernel)) rfl
theorem d_MO_sortFault_0 : decode b_MO_sortFault 0 = .ok (.aload_n 0, 1) := by decide +kernel
theorem d_MO_sortFault_1 : decode b_MO_sortFault 1 = .ok (.iload_n 1, 1) := by decide +kernel
theorem d_MO_sortFault_2 : decode b_MO_sortFault 2 = .ok (.invokevirtual 257, 3) := by decide +kernel
theorem d_MO_sortFault_5 : decode b_MO_sortFault 5 = .ok (.istore_n 2, 1) := by decide +kernel
theorem d_MO_sortFault_6 : decode b_MO_sortFault 6 = .ok (.iload_n 2, 1) := by decide +kernel
theorem d_MO_sortFault_7 : decode b_MO_sortFault 7 = .ok (.iconst 1, 1) := by decide +kernel
theorem d_MO_sortFault_8 : decode b_MO_sortFault 8 = .ok (.if_icmp .lt 8, 3) := by decide +kernel
theorem d_MO_sortFault_11 : decode b_MO_sortFault 11 = .ok (.iload_n 2, 1) := by decide +kernel
theorem d_MO_sortFault_12 : decode b_MO_sortFault 12 = .ok (.iconst 4, 1) := by decide +kernel
theorem d_MO_sortFault_13 : decode b_MO_sortFault 13 = .ok (.if_icmp .le 5, 3) := by decide +kernel
theorem d_MO_sortFault_16 : decode b_MO_sortFault 16 = .ok (.iconst 2, 1) := by decide +kernel
theorem d_MO_sortFault_17 : decode b_MO_sortFault 17 = .ok (.ireturn, 1) := by decide +kernel
theorem d_MO_sortFault_18 : decode b_MO_sortFault 18 = .ok (.aload_n 0, 1) := by decide +kernel
theorem d_MO_sortFault_19 : decode b_MO_sortFault 19 = .ok (.iload_n 1, 1) := by decide +kernel
theorem d_MO_sortFault_20 : decode b_MO_sortFault 20 = .ok (.invokevirtual 108, 3) := by decide +kernel
theorem d_MO_sortFault_23 : decode b_MO_sortFault 23 = .ok (.istore_n 3, 1) := by decide +kernel
theorem d_MO_sortFault_24 : decode b_MO_sortFault 24 = .ok (.iload_n 3, 1) := by decide +kernel
theorem d_MO_sortFault_25 : decode b_MO_sortFault 25 = .ok (.ifCond .le 111, 3) := by decide +kernel
theorem d_MO_sortFault_28 : decode b_MO_sortFault 28 = .ok (.aload_n 0, 1) := by decide +kernel
theorem d_MO_sortFault_29 : decode b_MO_sortFault 29 = .ok (.getfield 8, 3) := by decide +kernel
theorem d_MO_sortFault_32 : decode b_MO_sortFault 32 = .ok (.iload_n 3, 1) := by decide +kernel
theorem d_MO_sortFault_33 : decode b_MO_sortFault 33 = .ok (.iaload, 1) := by decide +kernel
theorem d_MO_sortFault_34 : decode b_MO_sortFault 34 = .ok (.bipush 16, 2) := by decide +kernel
theorem d_MO_sortFault_36 : decode b_MO_sortFault 36 = .ok (.if_icmp .eq 14, 3) := by decide +kernel
theorem d_MO_sortFault_39 : decode b_MO_sortFault 39 = .ok (.aload_n 0, 1) := by decide +kernel
theorem d_MO_sortFault_40 : decode b_MO_sortFault 40 = .ok (.getfield 8, 3) := by decide +kernel
theorem d_MO_sortFault_43 : decode b_MO_sortFault 43 = .ok (.iload_n 3, 1) := by decide +kernel
theorem d_MO_sortFault_44 : decode b_MO_sortFault 44 = .ok (.iaload, 1) := by decide +kernel
theorem d_MO_sortFault_45 : decode b_MO_sortFault 45 = .ok (.bipush 18, 2) := by decide +kernel
theorem d_MO_sortFault_47 : decode b_MO_sortFault 47 = .ok (.if_icmp .ne 49, 3) := by decide +kernel
theorem d_MO_sortFault_50 : decode b_MO_sortFault 50 = .ok (.aload_n 0, 1) := by decide +kernel
theorem d_MO_sortFault_51 : decode b_MO_sortFault 51 = .ok (.aload_n 0, 1) := by decide +kernel
theorem d_MO_sortFault_52 : decode b_MO_sortFault 52 = .ok (.getfield 8, 3) := by decide +kernel
theorem d_MO_sortFault_55 : decode b_MO_sortFault 55 = .ok (.iload_n 3, 1) := by decide +kernel
theorem d_MO_sortFault_56 : decode b_MO_sortFault 56 = .ok (.iaload, 1) := by decide +kernel
theorem d_MO_sortFault_57 : decode b_MO_sortFault 57 = .ok (.aload_n 0, 1) := by decide +kernel
theorem d_MO_sortFault_58 : decode b_MO_sortFault 58 = .ok (.iload_n 3, 1) := by decide +kernel
theorem d_MO_sortFault_59 : decode b_MO_sortFault 59 = .ok (.invokevirtual 81, 3) := by decide +kernel
theorem d_MO_sortFault_62 : decode b_MO_sortFault 62 = .ok (.invokevirtual 117, 3) := by decide +kernel
theorem d_MO_sortFault_65 : decode b_MO_sortFault 65 = .ok (.lconst 1, 1) := by decide +kernel
theorem d_MO_sortFault_66 : decode b_MO_sortFault 66 = .ok (.lcmp, 1) := by decide +kernel
theorem d_MO_sortFault_67 : decode b_MO_sortFault 67 = .ok (.ifCond .eq 25, 3) := by decide +kernel
theorem d_MO_sortFault_70 : decode b_MO_sortFault 70 = .ok (.aload_n 0, 1) := by decide +kernel
theorem d_MO_sortFault_71 : decode b_MO_sortFault 71 = .ok (.aload_n 0, 1) := by decide +kernel
theorem d_MO_sortFault_72 : decode b_MO_sortFault 72 = .ok (.getfield 8, 3) := by decide +kernel
theorem d_MO_sortFault_75 : decode b_MO_sortFault 75 = .ok (.iload_n 3, 1) := by decide +kernel
theorem d_MO_sortFault_76 : decode b_MO_sortFault 76 = .ok (.iaload, 1) := by decide +kernel
theorem d_MO_sortFault_77 : decode b_MO_sortFault 77 = .ok (.aload_n 0, 1) := by decide +kernel
theorem d_MO_sortFault_78 : decode b_MO_sortFault 78 = .ok (.iload_n 3, 1) := by decide +kernel
theorem d_MO_sortFault_79 : decode b_MO_sortFault 79 = .ok (.invokevirtual 81, 3) := by decide +kernel
theorem d_MO_sortFault_82 : decode b_MO_sortFault 82 = .ok (.invokevirtual 117, 3) := by decide +kernel
theorem d_MO_sortFault_85 : decode b_MO_sortFault 85 = .ok (.ldc2_w 271, 3) := by decide +kernel
theorem d_MO_sortFault_88 : decode b_MO_sortFault 88 = .ok (.lcmp, 1) := by decide +kernel
theorem d_MO_sortFault_89 : decode b_MO_sortFault 89 = .ok (.ifCond .ne 7, 3) := by decide +kernel
theorem d_MO_sortFault_92 : decode b_MO_sortFault 92 = .ok (.iconst 1, 1) := by decide +kernel
theorem d_MO_sortFault_93 : decode b_MO_sortFault 93 = .ok (.goto 4, 3) := by decide +kernel
theorem d_MO_sortFault_96 : decode b_MO_sortFault 96 = .ok (.iconst 0, 1) := by decide +kernel
theorem d_MO_sortFault_97 : decode b_MO_sortFault 97 = .ok (.istore 4, 2) := by decide +kernel
theorem d_MO_sortFault_99 : decode b_MO_sortFault 99 = .ok (.iload 4, 2) := by decide +kernel
theorem d_MO_sortFault_101 : decode b_MO_sortFault 101 = .ok (.ifCond .ne 5, 3) := by decide +kernel
theorem d_MO_sortFault_104 : decode b_MO_sortFault 104 = .ok (.iconst 2, 1) := by decide +kernel
theorem d_MO_sortFault_105 : decode b_MO_sortFault 105 = .ok (.ireturn, 1) := by decide +kernel
theorem d_MO_sortFault_106 : decode b_MO_sortFault 106 = .ok (.aload_n 0, 1) := by decide +kernel
theorem d_MO_sortFault_107 : decode b_MO_sortFault 107 = .ok (.iload_n 3, 1) := by decide +kernel
theorem d_MO_sortFault_108 : decode b_MO_sortFault 108 = .ok (.iconst 1, 1) := by decide +kernel
theorem d_MO_sortFault_109 : decode b_MO_sortFault 109 = .ok (.iadd, 1) := by decide +kernel
theorem d_MO_sortFault_110 : decode b_MO_sortFault 110 = .ok (.aload_n 0, 1) := by decide +kernel
theorem d_MO_sortFault_111 : decode b_MO_sortFault 111 = .ok (.iload_n 3, 1) := by decide +kernel
theorem d_MO_sortFault_112 : decode b_MO_sortFault 112 = .ok (.invokevirtual 95, 3) := by decide +kernel
theorem d_MO_sortFault_115 : decode b_MO_sortFault 115 = .ok (.iload_n 3, 1) := by decide +kernel
theorem d_MO_sortFault_116 : decode b_MO_sortFault 116 = .ok (.isub, 1) := by decide +kernel
theorem d_MO_sortFault_117 : decode b_MO_sortFault 117 = .ok (.iconst 1, 1) := by decide +kernel
theorem d_MO_sortFault_118 : decode b_MO_sortFault 118 = .ok (.isub, 1) := by decide +kernel
theorem d_MO_sortFault_119 : decode b_MO_sortFault 119 = .ok (.invokevirtual 254, 3) := by decide +kernel
theorem d_MO_sortFault_122 : decode b_MO_sortFault 122 = .ok (.ifCond .ne 5, 3) := by decide +kernel
theorem d_MO_sortFault_125 : decode b_MO_sortFault 125 = .ok (.iconst 3, 1) := by decide +kernel
theorem d_MO_sortFault_126 : decode b_MO_sortFault 126 = .ok (.ireturn, 1) := by decide +kernel
theorem d_MO_sortFault_127 : decode b_MO_sortFault 127 = .ok (.aload_n 0, 1) := by decide +kernel
theorem d_MO_sortFault_128 : decode b_MO_sortFault 128 = .ok (.iload_n 3, 1) := by decide +kernel
theorem d_MO_sortFault_129 : decode b_MO_sortFault 129 = .ok (.invokevirtual 111, 3) := by decide +kernel
theorem d_MO_sortFault_132 : decode b_MO_sortFault 132 = .ok (.istore_n 3, 1) := by decide +kernel
theorem d_MO_sortFault_133 : decode b_MO_sortFault 133 = .ok (.goto (-109), 3) := by decide +kernel
theorem d_MO_sortFault_136 : decode b_MO_sortFault 136 = .ok (.iconst 0, 1) := by decide +kernel
theorem d_MO_sortFault_137 : decode b_MO_sortFault 137 = .ok (.ireturn, 1) := by decide +kernel
abbrev b_MO_isText : ByteArray := prog_13_method_57_code
def y_MO_isText : MethodName := ⟨R_MO, "isText", "(I)Z"⟩
theorem kc_MO_isText : Cond.code y_MO_isText b_MO_isText 2 (some .boolean) ∈ lw_g := lw_gm (List.mem_append_right _ (List.mem_of_getElem? (i := 1292) (by decide +kernel))) rfl
abbrev mw_MO_isText : List Cond := Cond.code y_MO_isText b_MO_isText 2 (some .boolean) :: lw_g
theorem hd_MO_isText : y_MO_isText.cls = R_MO ∧ y_MO_isText.cls ≠ "java/lang/invoke/MethodHandle" ∧ y_MO_isText.cls ≠ "java/lang/invoke/VarHandle" ∧ (parseMethodDescriptor y_MO_isText.desc).map (fun d => d.parameters.length) = some 1 := by decide +kernel
theorem kp_MO_isText : Cond.selects R_MO y_MO_isText y_MO_isText ∈ lw_g := lw_gm (List.mem_append_left _ (by decide +kernel)) rfl
theorem d_MO_isText_0 : decode b_MO_isText 0 = .ok (.iload_n 1, 1) := by decide +kernel
theorem d_MO_isText_1 : decode b_MO_isText 1 = .ok (.ifCond .le 17, 3) := by decide +kernel
theorem d_MO_isText_4 : decode b_MO_isText 4 = .ok (.aload_n 0, 1) := by decide +kernel
theorem d_MO_isText_5 : decode b_MO_isText 5 = .ok (.getfield 8, 3) := by decide +kernel
theorem d_MO_isText_8 : decode b_MO_isText 8 = .ok (.iload_n 1, 1) := by decide +kernel
theorem d_MO_isText_9 : decode b_MO_isText 9 = .ok (.iaload, 1) := by decide +kernel
theorem d_MO_isText_10 : decode b_MO_isText 10 = .ok (.iconst 2, 1) := by decide +kernel
theorem d_MO_isText_11 : decode b_MO_isText 11 = .ok (.if_icmp .ne 7, 3) := by decide +kernel
theorem d_MO_isText_14 : decode b_MO_isText 14 = .ok (.iconst 1, 1) := by decide +kernel
theorem d_MO_isText_15 : decode b_MO_isText 15 = .ok (.goto 4, 3) := by decide +kernel
theorem d_MO_isText_18 : decode b_MO_isText 18 = .ok (.iconst 0, 1) := by decide +kernel
theorem d_MO_isText_19 : decode b_MO_isText 19 = .ok (.ireturn, 1) := by decide +kernel
abbrev b_MO_textSize : ByteArray := prog_13_method_58_code
def y_MO_textSize : MethodName := ⟨R_MO, "textSize", "(I)I"⟩
theorem kc_MO_textSize : Cond.code y_MO_textSize b_MO_textSize 2 (some .int) ∈ lw_g := lw_gm (List.mem_append_right _ (List.mem_of_getElem? (i := 1296) (by decide +kernel))) rfl
abbrev mw_MO_textSize : List Cond := Cond.code y_MO_textSize b_MO_textSize 2 (some .int) :: lw_g
theorem hd_MO_textSize : y_MO_textSize.cls = R_MO ∧ y_MO_textSize.cls ≠ "java/lang/invoke/MethodHandle" ∧ y_MO_textSize.cls ≠ "java/lang/invoke/VarHandle" ∧ (parseMethodDescriptor y_MO_textSize.desc).map (fun d => d.parameters.length) = some 1 := by decide +kernel
theorem kp_MO_textSize : Cond.selects R_MO y_MO_textSize y_MO_textSize ∈ lw_g := lw_gm (List.mem_append_left _ (by decide +kernel)) rfl
theorem d_MO_textSize_0 : decode b_MO_textSize 0 = .ok (.aload_n 0, 1) := by decide +kernel
theorem d_MO_textSize_1 : decode b_MO_textSize 1 = .ok (.aload_n 0, 1) := by decide +kernel
theorem d_MO_textSize_2 : decode b_MO_textSize 2 = .ok (.iload_n 1, 1) := by decide +kernel
theorem d_MO_textSize_3 : decode b_MO_textSize 3 = .ok (.invokevirtual 81, 3) := by decide +kernel
theorem d_MO_textSize_6 : decode b_MO_textSize 6 = .ok (.invokevirtual 73, 3) := by decide +kernel
theorem d_MO_textSize_9 : decode b_MO_textSize 9 = .ok (.iconst 1, 1) := by decide +kernel
theorem d_MO_textSize_10 : decode b_MO_textSize 10 = .ok (.isub, 1) := by decide +kernel
theorem d_MO_textSize_11 : decode b_MO_textSize 11 = .ok (.ireturn, 1) := by decide +kernel
abbrev b_MO_lookupFault : ByteArray := prog_13_method_59_code
def y_MO_lookupFault : MethodName := ⟨R_MO, "lookupFault", "(I)I"⟩
theorem kc_MO_lookupFault : Cond.code y_MO_lookupFault b_MO_lookupFault 6 (some .int) ∈ lw_g := lw_gm (List.mem_append_right _ (List.mem_of_getElem? (i := 1285) (by decide +kernel))) rfl
abbrev mw_MO_lookupFault : List Cond := Cond.code y_MO_lookupFault b_MO_lookupFault 6 (some .int) :: lw_g
theorem hd_MO_lookupFault : y_MO_lookupFault.cls = R_MO ∧ y_MO_lookupFault.cls ≠ "java/lang/invoke/MethodHandle" ∧ y_MO_lookupFault.cls ≠ "java/lang/invoke/VarHandle" ∧ (parseMethodDescriptor y_MO_lookupFault.desc).map (fun d => d.parameters.length) = some 1 := by decide +kernel
theorem kp_MO_lookupFault : Cond.selects R_MO y_MO_lookupFault y_MO_lookupFault ∈ lw_g := lw_gm (List.mem_append_left _ (by decide +kernel)) rfl
theorem d_MO_lookupFault_0 : decode b_MO_lookupFault 0 = .ok (.aload_n 0, 1) := by decide +kernel
theorem d_MO_lookupFault_1 : decode b_MO_lookupFault 1 = .ok (.iload_n 1, 1) := by decide +kernel
theorem d_MO_lookupFault_2 : decode b_MO_lookupFault 2 = .ok (.invokevirtual 257, 3) := by decide +kernel
theorem d_MO_lookupFault_5 : decode b_MO_lookupFault 5 = .ok (.iconst 3, 1) := by decide +kernel
theorem d_MO_lookupFault_6 : decode b_MO_lookupFault 6 = .ok (.if_icmp .eq 5, 3) := by decide +kernel
theorem d_MO_lookupFault_9 : decode b_MO_lookupFault 9 = .ok (.iconst 2, 1) := by decide +kernel
theorem d_MO_lookupFault_10 : decode b_MO_lookupFault 10 = .ok (.ireturn, 1) := by decide +kernel
theorem d_MO_lookupFault_11 : decode b_MO_lookupFault 11 = .ok (.aload_n 0, 1) := by decide +kernel
theorem d_MO_lookupFault_12 : decode b_MO_lookupFault 12 = .ok (.iload_n 1, 1) := by decide +kernel
theorem d_MO_lookupFault_13 : decode b_MO_lookupFault 13 = .ok (.invokevirtual 108, 3) := by decide +kernel
theorem d_MO_lookupFault_16 : decode b_MO_lookupFault 16 = .ok (.istore_n 2, 1) := by decide +kernel
theorem d_MO_lookupFault_17 : decode b_MO_lookupFault 17 = .ok (.aload_n 0, 1) := by decide +kernel
theorem d_MO_lookupFault_18 : decode b_MO_lookupFault 18 = .ok (.iload_n 2, 1) := by decide +kernel
theorem d_MO_lookupFault_19 : decode b_MO_lookupFault 19 = .ok (.invokevirtual 111, 3) := by decide +kernel
theorem d_MO_lookupFault_22 : decode b_MO_lookupFault 22 = .ok (.istore_n 3, 1) := by decide +kernel
theorem d_MO_lookupFault_23 : decode b_MO_lookupFault 23 = .ok (.aload_n 0, 1) := by decide +kernel
theorem d_MO_lookupFault_24 : decode b_MO_lookupFault 24 = .ok (.iload_n 3, 1) := by decide +kernel
theorem d_MO_lookupFault_25 : decode b_MO_lookupFault 25 = .ok (.invokevirtual 111, 3) := by decide +kernel
theorem d_MO_lookupFault_28 : decode b_MO_lookupFault 28 = .ok (.istore 4, 2) := by decide +kernel
theorem d_MO_lookupFault_30 : decode b_MO_lookupFault 30 = .ok (.aload_n 0, 1) := by decide +kernel
theorem d_MO_lookupFault_31 : decode b_MO_lookupFault 31 = .ok (.iload_n 2, 1) := by decide +kernel
theorem d_MO_lookupFault_32 : decode b_MO_lookupFault 32 = .ok (.ldc2_w 273, 3) := by decide +kernel
theorem d_MO_lookupFault_35 : decode b_MO_lookupFault 35 = .ok (.invokevirtual 216, 3) := by decide +kernel
theorem d_MO_lookupFault_38 : decode b_MO_lookupFault 38 = .ok (.ifCond .eq 30, 3) := by decide +kernel
theorem d_MO_lookupFault_41 : decode b_MO_lookupFault 41 = .ok (.aload_n 0, 1) := by decide +kernel
theorem d_MO_lookupFault_42 : decode b_MO_lookupFault 42 = .ok (.iload_n 3, 1) := by decide +kernel
theorem d_MO_lookupFault_43 : decode b_MO_lookupFault 43 = .ok (.ldc2_w 275, 3) := by decide +kernel
theorem d_MO_lookupFault_46 : decode b_MO_lookupFault 46 = .ok (.invokevirtual 216, 3) := by decide +kernel
theorem d_MO_lookupFault_49 : decode b_MO_lookupFault 49 = .ok (.ifCond .eq 19, 3) := by decide +kernel
theorem d_MO_lookupFault_52 : decode b_MO_lookupFault 52 = .ok (.aload_n 0, 1) := by decide +kernel
theorem d_MO_lookupFault_53 : decode b_MO_lookupFault 53 = .ok (.iload 4, 2) := by decide +kernel
theorem d_MO_lookupFault_55 : decode b_MO_lookupFault 55 = .ok (.ldc2_w 277, 3) := by decide +kernel
theorem d_MO_lookupFault_58 : decode b_MO_lookupFault 58 = .ok (.invokevirtual 216, 3) := by decide +kernel
theorem d_MO_lookupFault_61 : decode b_MO_lookupFault 61 = .ok (.ifCond .eq 7, 3) := by decide +kernel
theorem d_MO_lookupFault_64 : decode b_MO_lookupFault 64 = .ok (.iconst 1, 1) := by decide +kernel
theorem d_MO_lookupFault_65 : decode b_MO_lookupFault 65 = .ok (.goto 4, 3) := by decide +kernel
theorem d_MO_lookupFault_68 : decode b_MO_lookupFault 68 = .ok (.iconst 0, 1) := by decide +kernel
theorem d_MO_lookupFault_69 : decode b_MO_lookupFault 69 = .ok (.istore 5, 2) := by decide +kernel
theorem d_MO_lookupFault_71 : decode b_MO_lookupFault 71 = .ok (.iload 5, 2) := by decide +kernel
theorem d_MO_lookupFault_73 : decode b_MO_lookupFault 73 = .ok (.ifCond .eq 49, 3) := by decide +kernel
theorem d_MO_lookupFault_76 : decode b_MO_lookupFault 76 = .ok (.aload_n 0, 1) := by decide +kernel
theorem d_MO_lookupFault_77 : decode b_MO_lookupFault 77 = .ok (.iload_n 2, 1) := by decide +kernel
theorem d_MO_lookupFault_78 : decode b_MO_lookupFault 78 = .ok (.invokevirtual 279, 3) := by decide +kernel
theorem d_MO_lookupFault_81 : decode b_MO_lookupFault 81 = .ok (.ifCond .eq 41, 3) := by decide +kernel
theorem d_MO_lookupFault_84 : decode b_MO_lookupFault 84 = .ok (.aload_n 0, 1) := by decide +kernel
theorem d_MO_lookupFault_85 : decode b_MO_lookupFault 85 = .ok (.iload_n 3, 1) := by decide +kernel
theorem d_MO_lookupFault_86 : decode b_MO_lookupFault 86 = .ok (.invokevirtual 279, 3) := by decide +kernel
theorem d_MO_lookupFault_89 : decode b_MO_lookupFault 89 = .ok (.ifCond .eq 33, 3) := by decide +kernel
theorem d_MO_lookupFault_92 : decode b_MO_lookupFault 92 = .ok (.aload_n 0, 1) := by decide +kernel
theorem d_MO_lookupFault_93 : decode b_MO_lookupFault 93 = .ok (.iload 4, 2) := by decide +kernel
theorem d_MO_lookupFault_95 : decode b_MO_lookupFault 95 = .ok (.invokevirtual 279, 3) := by decide +kernel
theorem d_MO_lookupFault_98 : decode b_MO_lookupFault 98 = .ok (.ifCond .eq 24, 3) := by decide +kernel
theorem d_MO_lookupFault_101 : decode b_MO_lookupFault 101 = .ok (.aload_n 0, 1) := by decide +kernel
theorem d_MO_lookupFault_102 : decode b_MO_lookupFault 102 = .ok (.aload_n 0, 1) := by decide +kernel
theorem d_MO_lookupFault_103 : decode b_MO_lookupFault 103 = .ok (.iload 4, 2) := by decide +kernel
theorem d_MO_lookupFault_105 : decode b_MO_lookupFault 105 = .ok (.invokevirtual 81, 3) := by decide +kernel
theorem d_MO_lookupFault_108 : decode b_MO_lookupFault 108 = .ok (.iconst 4, 1) := by decide +kernel
theorem d_MO_lookupFault_109 : decode b_MO_lookupFault 109 = .ok (.iadd, 1) := by decide +kernel
theorem d_MO_lookupFault_110 : decode b_MO_lookupFault 110 = .ok (.aload_n 0, 1) := by decide +kernel
theorem d_MO_lookupFault_111 : decode b_MO_lookupFault 111 = .ok (.iload 4, 2) := by decide +kernel
theorem d_MO_lookupFault_113 : decode b_MO_lookupFault 113 = .ok (.invokevirtual 282, 3) := by decide +kernel
theorem d_MO_lookupFault_116 : decode b_MO_lookupFault 116 = .ok (.invokevirtual 251, 3) := by decide +kernel
theorem d_MO_lookupFault_119 : decode b_MO_lookupFault 119 = .ok (.ifCond .ne 5, 3) := by decide +kernel
theorem d_MO_lookupFault_122 : decode b_MO_lookupFault 122 = .ok (.iconst 2, 1) := by decide +kernel
theorem d_MO_lookupFault_123 : decode b_MO_lookupFault 123 = .ok (.ireturn, 1) := by decide +kernel
theorem d_MO_lookupFault_124 : decode b_MO_lookupFault 124 = .ok (.aload_n 0, 1) := by decide +kernel
theorem d_MO_lookupFault_125 : decode b_MO_lookupFault 125 = .ok (.aload_n 0, 1) := by decide +kernel
theorem d_MO_lookupFault_126 : decode b_MO_lookupFault 126 = .ok (.iload_n 2, 1) := by decide +kernel
theorem d_MO_lookupFault_127 : decode b_MO_lookupFault 127 = .ok (.invokevirtual 81, 3) := by decide +kernel
theorem d_MO_lookupFault_130 : decode b_MO_lookupFault 130 = .ok (.iconst 4, 1) := by decide +kernel
theorem d_MO_lookupFault_131 : decode b_MO_lookupFault 131 = .ok (.iadd, 1) := by decide +kernel
theorem d_MO_lookupFault_132 : decode b_MO_lookupFault 132 = .ok (.aload_n 0, 1) := by decide +kernel
theorem d_MO_lookupFault_133 : decode b_MO_lookupFault 133 = .ok (.iload_n 2, 1) := by decide +kernel
theorem d_MO_lookupFault_134 : decode b_MO_lookupFault 134 = .ok (.invokevirtual 282, 3) := by decide +kernel
theorem d_MO_lookupFault_137 : decode b_MO_lookupFault 137 = .ok (.invokevirtual 254, 3) := by decide +kernel
theorem d_MO_lookupFault_140 : decode b_MO_lookupFault 140 = .ok (.ifCond .eq 26, 3) := by decide +kernel
theorem d_MO_lookupFault_143 : decode b_MO_lookupFault 143 = .ok (.aload_n 0, 1) := by decide +kernel
theorem d_MO_lookupFault_144 : decode b_MO_lookupFault 144 = .ok (.aload_n 0, 1) := by decide +kernel
theorem d_MO_lookupFault_145 : decode b_MO_lookupFault 145 = .ok (.iload_n 3, 1) := by decide +kernel
theorem d_MO_lookupFault_146 : decode b_MO_lookupFault 146 = .ok (.invokevirtual 81, 3) := by decide +kernel
theorem d_MO_lookupFault_149 : decode b_MO_lookupFault 149 = .ok (.iconst 4, 1) := by decide +kernel
theorem d_MO_lookupFault_150 : decode b_MO_lookupFault 150 = .ok (.iadd, 1) := by decide +kernel
theorem d_MO_lookupFault_151 : decode b_MO_lookupFault 151 = .ok (.aload_n 0, 1) := by decide +kernel
theorem d_MO_lookupFault_152 : decode b_MO_lookupFault 152 = .ok (.iload_n 3, 1) := by decide +kernel
theorem d_MO_lookupFault_153 : decode b_MO_lookupFault 153 = .ok (.invokevirtual 282, 3) := by decide +kernel
theorem d_MO_lookupFault_156 : decode b_MO_lookupFault 156 = .ok (.invokevirtual 254, 3) := by decide +kernel
theorem d_MO_lookupFault_159 : decode b_MO_lookupFault 159 = .ok (.ifCond .eq 7, 3) := by decide +kernel
theorem d_MO_lookupFault_162 : decode b_MO_lookupFault 162 = .ok (.iconst 0, 1) := by decide +kernel
theorem d_MO_lookupFault_163 : decode b_MO_lookupFault 163 = .ok (.goto 4, 3) := by decide +kernel
theorem d_MO_lookupFault_166 : decode b_MO_lookupFault 166 = .ok (.iconst 3, 1) := by decide +kernel
theorem d_MO_lookupFault_167 : decode b_MO_lookupFault 167 = .ok (.ireturn, 1) := by decide +kernel
abbrev b_MO_stageFault : ByteArray := prog_13_method_60_code
def y_MO_stageFault : MethodName := ⟨R_MO, "stageFault", "(I)I"⟩
theorem kc_MO_stageFault : Cond.code y_MO_stageFault b_MO_stageFault 4 (some .int) ∈ lw_g := lw_gm (List.mem_append_right _ (List.mem_of_getElem? (i := 1211) (by decide +kernel))) rfl
abbrev mw_MO_stageFault : List Cond := Cond.code y_MO_stageFault b_MO_stageFault 4 (some .int) :: lw_g
theorem hd_MO_stageFault : y_MO_stageFault.cls = R_MO ∧ y_MO_stageFault.cls ≠ "java/lang/invoke/MethodHandle" ∧ y_MO_stageFault.cls ≠ "java/lang/invoke/VarHandle" ∧ (parseMethodDescriptor y_MO_stageFault.desc).map (fun d => d.parameters.length) = some 1 := by decide +kernel
theorem kp_MO_stageFault : Cond.selects R_MO y_MO_stageFault y_MO_stageFault ∈ lw_g := lw_gm (List.mem_append_left _ (by decide +kernel)) rfl
theorem d_MO_stageFault_0 : decode b_MO_stageFault 0 = .ok (.aload_n 0, 1) := by decide +kernel
theorem d_MO_stageFault_1 : decode b_MO_stageFault 1 = .ok (.iload_n 1, 1) := by decide +kernel
theorem d_MO_stageFault_2 : decode b_MO_stageFault 2 = .ok (.invokevirtual 285, 3) := by decide +kernel
theorem d_MO_stageFault_5 : decode b_MO_stageFault 5 = .ok (.istore_n 2, 1) := by decide +kernel
theorem d_MO_stageFault_6 : decode b_MO_stageFault 6 = .ok (.iload_n 2, 1) := by decide +kernel
theorem d_MO_stageFault_7 : decode b_MO_stageFault 7 = .ok (.ifCond .ne 5, 3) := by decide +kernel
theorem d_MO_stageFault_10 : decode b_MO_stageFault 10 = .ok (.iconst 1, 1) := by decide +kernel
theorem d_MO_stageFault_11 : decode b_MO_stageFault 11 = .ok (.ireturn, 1) := by decide +kernel
theorem d_MO_stageFault_12 : decode b_MO_stageFault 12 = .ok (.aload_n 0, 1) := by decide +kernel
theorem d_MO_stageFault_13 : decode b_MO_stageFault 13 = .ok (.iload_n 1, 1) := by decide +kernel
theorem d_MO_stageFault_14 : decode b_MO_stageFault 14 = .ok (.invokevirtual 81, 3) := by decide +kernel
theorem d_MO_stageFault_17 : decode b_MO_stageFault 17 = .ok (.istore_n 3, 1) := by decide +kernel
theorem d_MO_stageFault_18 : decode b_MO_stageFault 18 = .ok (.iload_n 2, 1) := by decide +kernel
theorem d_MO_stageFault_19 : decode b_MO_stageFault 19 = .ok (.tableswitch 139 1 7 #[41, 61, 79, 99, 139, 139, 119], 41) := by decide +kernel
theorem d_MO_stageFault_60 : decode b_MO_stageFault 60 = .ok (.aload_n 0, 1) := by decide +kernel
theorem d_MO_stageFault_61 : decode b_MO_stageFault 61 = .ok (.getfield 8, 3) := by decide +kernel
theorem d_MO_stageFault_64 : decode b_MO_stageFault 64 = .ok (.iload_n 1, 1) := by decide +kernel
theorem d_MO_stageFault_65 : decode b_MO_stageFault 65 = .ok (.iaload, 1) := by decide +kernel
theorem d_MO_stageFault_66 : decode b_MO_stageFault 66 = .ok (.iconst 3, 1) := by decide +kernel
theorem d_MO_stageFault_67 : decode b_MO_stageFault 67 = .ok (.if_icmp .eq 7, 3) := by decide +kernel
theorem d_MO_stageFault_70 : decode b_MO_stageFault 70 = .ok (.iconst 2, 1) := by decide +kernel
theorem d_MO_stageFault_71 : decode b_MO_stageFault 71 = .ok (.goto 8, 3) := by decide +kernel
theorem d_MO_stageFault_74 : decode b_MO_stageFault 74 = .ok (.aload_n 0, 1) := by decide +kernel
theorem d_MO_stageFault_75 : decode b_MO_stageFault 75 = .ok (.iload_n 3, 1) := by decide +kernel
theorem d_MO_stageFault_76 : decode b_MO_stageFault 76 = .ok (.invokevirtual 288, 3) := by decide +kernel
theorem d_MO_stageFault_79 : decode b_MO_stageFault 79 = .ok (.ireturn, 1) := by decide +kernel
theorem d_MO_stageFault_80 : decode b_MO_stageFault 80 = .ok (.aload_n 0, 1) := by decide +kernel
theorem d_MO_stageFault_81 : decode b_MO_stageFault 81 = .ok (.iload_n 1, 1) := by decide +kernel
theorem d_MO_stageFault_82 : decode b_MO_stageFault 82 = .ok (.invokevirtual 193, 3) := by decide +kernel
theorem d_MO_stageFault_85 : decode b_MO_stageFault 85 = .ok (.ifCond .ne 7, 3) := by decide +kernel
theorem d_MO_stageFault_88 : decode b_MO_stageFault 88 = .ok (.iconst 2, 1) := by decide +kernel
theorem d_MO_stageFault_89 : decode b_MO_stageFault 89 = .ok (.goto 8, 3) := by decide +kernel
theorem d_MO_stageFault_92 : decode b_MO_stageFault 92 = .ok (.aload_n 0, 1) := by decide +kernel
theorem d_MO_stageFault_93 : decode b_MO_stageFault 93 = .ok (.iload_n 1, 1) := by decide +kernel
theorem d_MO_stageFault_94 : decode b_MO_stageFault 94 = .ok (.invokevirtual 263, 3) := by decide +kernel
theorem d_MO_stageFault_97 : decode b_MO_stageFault 97 = .ok (.ireturn, 1) := by decide +kernel
theorem d_MO_stageFault_98 : decode b_MO_stageFault 98 = .ok (.aload_n 0, 1) := by decide +kernel
theorem d_MO_stageFault_99 : decode b_MO_stageFault 99 = .ok (.getfield 8, 3) := by decide +kernel
theorem d_MO_stageFault_102 : decode b_MO_stageFault 102 = .ok (.iload_n 1, 1) := by decide +kernel
theorem d_MO_stageFault_103 : decode b_MO_stageFault 103 = .ok (.iaload, 1) := by decide +kernel
theorem d_MO_stageFault_104 : decode b_MO_stageFault 104 = .ok (.iconst 3, 1) := by decide +kernel
theorem d_MO_stageFault_105 : decode b_MO_stageFault 105 = .ok (.if_icmp .eq 7, 3) := by decide +kernel
theorem d_MO_stageFault_108 : decode b_MO_stageFault 108 = .ok (.iconst 2, 1) := by decide +kernel
theorem d_MO_stageFault_109 : decode b_MO_stageFault 109 = .ok (.goto 8, 3) := by decide +kernel
theorem d_MO_stageFault_112 : decode b_MO_stageFault 112 = .ok (.aload_n 0, 1) := by decide +kernel
theorem d_MO_stageFault_113 : decode b_MO_stageFault 113 = .ok (.iload_n 3, 1) := by decide +kernel
theorem d_MO_stageFault_114 : decode b_MO_stageFault 114 = .ok (.invokevirtual 291, 3) := by decide +kernel
theorem d_MO_stageFault_117 : decode b_MO_stageFault 117 = .ok (.ireturn, 1) := by decide +kernel
theorem d_MO_stageFault_118 : decode b_MO_stageFault 118 = .ok (.aload_n 0, 1) := by decide +kernel
theorem d_MO_stageFault_119 : decode b_MO_stageFault 119 = .ok (.getfield 8, 3) := by decide +kernel
theorem d_MO_stageFault_122 : decode b_MO_stageFault 122 = .ok (.iload_n 1, 1) := by decide +kernel
theorem d_MO_stageFault_123 : decode b_MO_stageFault 123 = .ok (.iaload, 1) := by decide +kernel
theorem d_MO_stageFault_124 : decode b_MO_stageFault 124 = .ok (.iconst 3, 1) := by decide +kernel
theorem d_MO_stageFault_125 : decode b_MO_stageFault 125 = .ok (.if_icmp .eq 7, 3) := by decide +kernel
theorem d_MO_stageFault_128 : decode b_MO_stageFault 128 = .ok (.iconst 2, 1) := by decide +kernel
theorem d_MO_stageFault_129 : decode b_MO_stageFault 129 = .ok (.goto 8, 3) := by decide +kernel
theorem d_MO_stageFault_132 : decode b_MO_stageFault 132 = .ok (.aload_n 0, 1) := by decide +kernel
theorem d_MO_stageFault_133 : decode b_MO_stageFault 133 = .ok (.iload_n 3, 1) := by decide +kernel
theorem d_MO_stageFault_134 : decode b_MO_stageFault 134 = .ok (.invokevirtual 294, 3) := by decide +kernel
theorem d_MO_stageFault_137 : decode b_MO_stageFault 137 = .ok (.ireturn, 1) := by decide +kernel
theorem d_MO_stageFault_138 : decode b_MO_stageFault 138 = .ok (.aload_n 0, 1) := by decide +kernel
theorem d_MO_stageFault_139 : decode b_MO_stageFault 139 = .ok (.getfield 8, 3) := by decide +kernel
theorem d_MO_stageFault_142 : decode b_MO_stageFault 142 = .ok (.iload_n 1, 1) := by decide +kernel
theorem d_MO_stageFault_143 : decode b_MO_stageFault 143 = .ok (.iaload, 1) := by decide +kernel
theorem d_MO_stageFault_144 : decode b_MO_stageFault 144 = .ok (.iconst 3, 1) := by decide +kernel
theorem d_MO_stageFault_145 : decode b_MO_stageFault 145 = .ok (.if_icmp .eq 7, 3) := by decide +kernel
theorem d_MO_stageFault_148 : decode b_MO_stageFault 148 = .ok (.iconst 2, 1) := by decide +kernel
theorem d_MO_stageFault_149 : decode b_MO_stageFault 149 = .ok (.goto 8, 3) := by decide +kernel
theorem d_MO_stageFault_152 : decode b_MO_stageFault 152 = .ok (.aload_n 0, 1) := by decide +kernel
theorem d_MO_stageFault_153 : decode b_MO_stageFault 153 = .ok (.iload_n 3, 1) := by decide +kernel
theorem d_MO_stageFault_154 : decode b_MO_stageFault 154 = .ok (.invokevirtual 297, 3) := by decide +kernel
theorem d_MO_stageFault_157 : decode b_MO_stageFault 157 = .ok (.ireturn, 1) := by decide +kernel
theorem d_MO_stageFault_158 : decode b_MO_stageFault 158 = .ok (.aload_n 0, 1) := by decide +kernel
theorem d_MO_stageFault_159 : decode b_MO_stageFault 159 = .ok (.getfield 8, 3) := by decide +kernel
theorem d_MO_stageFault_162 : decode b_MO_stageFault 162 = .ok (.iload_n 1, 1) := by decide +kernel
theorem d_MO_stageFault_163 : decode b_MO_stageFault 163 = .ok (.iaload, 1) := by decide +kernel
theorem d_MO_stageFault_164 : decode b_MO_stageFault 164 = .ok (.bipush 16, 2) := by decide +kernel
theorem d_MO_stageFault_166 : decode b_MO_stageFault 166 = .ok (.if_icmp .eq 14, 3) := by decide +kernel
theorem d_MO_stageFault_169 : decode b_MO_stageFault 169 = .ok (.aload_n 0, 1) := by decide +kernel
theorem d_MO_stageFault_170 : decode b_MO_stageFault 170 = .ok (.getfield 8, 3) := by decide +kernel
theorem d_MO_stageFault_173 : decode b_MO_stageFault 173 = .ok (.iload_n 1, 1) := by decide +kernel
theorem d_MO_stageFault_174 : decode b_MO_stageFault 174 = .ok (.iaload, 1) := by decide +kernel
theorem d_MO_stageFault_175 : decode b_MO_stageFault 175 = .ok (.bipush 18, 2) := by decide +kernel
theorem d_MO_stageFault_177 : decode b_MO_stageFault 177 = .ok (.if_icmp .ne 23, 3) := by decide +kernel
theorem d_MO_stageFault_180 : decode b_MO_stageFault 180 = .ok (.aload_n 0, 1) := by decide +kernel
theorem d_MO_stageFault_181 : decode b_MO_stageFault 181 = .ok (.aload_n 0, 1) := by decide +kernel
theorem d_MO_stageFault_182 : decode b_MO_stageFault 182 = .ok (.getfield 8, 3) := by decide +kernel
theorem d_MO_stageFault_185 : decode b_MO_stageFault 185 = .ok (.iload_n 1, 1) := by decide +kernel
theorem d_MO_stageFault_186 : decode b_MO_stageFault 186 = .ok (.iaload, 1) := by decide +kernel
theorem d_MO_stageFault_187 : decode b_MO_stageFault 187 = .ok (.iload_n 3, 1) := by decide +kernel
theorem d_MO_stageFault_188 : decode b_MO_stageFault 188 = .ok (.invokevirtual 117, 3) := by decide +kernel
theorem d_MO_stageFault_191 : decode b_MO_stageFault 191 = .ok (.lconst 0, 1) := by decide +kernel
theorem d_MO_stageFault_192 : decode b_MO_stageFault 192 = .ok (.lcmp, 1) := by decide +kernel
theorem d_MO_stageFault_193 : decode b_MO_stageFault 193 = .ok (.ifCond .lt 7, 3) := by decide +kernel
theorem d_MO_stageFault_196 : decode b_MO_stageFault 196 = .ok (.iconst 0, 1) := by decide +kernel
theorem d_MO_stageFault_197 : decode b_MO_stageFault 197 = .ok (.goto 4, 3) := by decide +kernel
theorem d_MO_stageFault_200 : decode b_MO_stageFault 200 = .ok (.iconst 2, 1) := by decide +kernel
theorem d_MO_stageFault_201 : decode b_MO_stageFault 201 = .ok (.ireturn, 1) := by decide +kernel
abbrev b_MO_sameName : ByteArray := prog_13_method_62_code
def y_MO_sameName : MethodName := ⟨R_MO, "sameName", "(II)I"⟩
theorem kc_MO_sameName : Cond.code y_MO_sameName b_MO_sameName 4 (some .int) ∈ lw_g := lw_gm (List.mem_append_right _ (List.mem_of_getElem? (i := 1333) (by decide +kernel))) rfl
abbrev mw_MO_sameName : List Cond := Cond.code y_MO_sameName b_MO_sameName 4 (some .int) :: lw_g
theorem hd_MO_sameName : y_MO_sameName.cls = R_MO ∧ y_MO_sameName.cls ≠ "java/lang/invoke/MethodHandle" ∧ y_MO_sameName.cls ≠ "java/lang/invoke/VarHandle" ∧ (parseMethodDescriptor y_MO_sameName.desc).map (fun d => d.parameters.length) = some 2 := by decide +kernel
theorem kp_MO_sameName : Cond.selects R_MO y_MO_sameName y_MO_sameName ∈ lw_g := lw_gm (List.mem_append_left _ (by decide +kernel)) rfl
theorem d_MO_sameName_0 : decode b_MO_sameName 0 = .ok (.aload_n 0, 1) := by decide +kernel
theorem d_MO_sameName_1 : decode b_MO_sameName 1 = .ok (.iload_n 1, 1) := by decide +kernel
theorem d_MO_sameName_2 : decode b_MO_sameName 2 = .ok (.invokevirtual 108, 3) := by decide +kernel
theorem d_MO_sameName_5 : decode b_MO_sameName 5 = .ok (.istore_n 3, 1) := by decide +kernel
theorem d_MO_sameName_6 : decode b_MO_sameName 6 = .ok (.iload_n 3, 1) := by decide +kernel
theorem d_MO_sameName_7 : decode b_MO_sameName 7 = .ok (.ifCond .le 45, 3) := by decide +kernel
theorem d_MO_sameName_10 : decode b_MO_sameName 10 = .ok (.aload_n 0, 1) := by decide +kernel
theorem d_MO_sameName_11 : decode b_MO_sameName 11 = .ok (.iload_n 3, 1) := by decide +kernel
theorem d_MO_sameName_12 : decode b_MO_sameName 12 = .ok (.iconst 1, 1) := by decide +kernel
theorem d_MO_sameName_13 : decode b_MO_sameName 13 = .ok (.iadd, 1) := by decide +kernel
theorem d_MO_sameName_14 : decode b_MO_sameName 14 = .ok (.aload_n 0, 1) := by decide +kernel
theorem d_MO_sameName_15 : decode b_MO_sameName 15 = .ok (.iload_n 3, 1) := by decide +kernel
theorem d_MO_sameName_16 : decode b_MO_sameName 16 = .ok (.invokevirtual 95, 3) := by decide +kernel
theorem d_MO_sameName_19 : decode b_MO_sameName 19 = .ok (.iload_n 3, 1) := by decide +kernel
theorem d_MO_sameName_20 : decode b_MO_sameName 20 = .ok (.isub, 1) := by decide +kernel
theorem d_MO_sameName_21 : decode b_MO_sameName 21 = .ok (.iconst 1, 1) := by decide +kernel
theorem d_MO_sameName_22 : decode b_MO_sameName 22 = .ok (.isub, 1) := by decide +kernel
theorem d_MO_sameName_23 : decode b_MO_sameName 23 = .ok (.iload_n 2, 1) := by decide +kernel
theorem d_MO_sameName_24 : decode b_MO_sameName 24 = .ok (.iconst 1, 1) := by decide +kernel
theorem d_MO_sameName_25 : decode b_MO_sameName 25 = .ok (.iadd, 1) := by decide +kernel
theorem d_MO_sameName_26 : decode b_MO_sameName 26 = .ok (.aload_n 0, 1) := by decide +kernel
theorem d_MO_sameName_27 : decode b_MO_sameName 27 = .ok (.iload_n 2, 1) := by decide +kernel
theorem d_MO_sameName_28 : decode b_MO_sameName 28 = .ok (.invokevirtual 95, 3) := by decide +kernel
theorem d_MO_sameName_31 : decode b_MO_sameName 31 = .ok (.iload_n 2, 1) := by decide +kernel
theorem d_MO_sameName_32 : decode b_MO_sameName 32 = .ok (.isub, 1) := by decide +kernel
theorem d_MO_sameName_33 : decode b_MO_sameName 33 = .ok (.iconst 1, 1) := by decide +kernel
theorem d_MO_sameName_34 : decode b_MO_sameName 34 = .ok (.isub, 1) := by decide +kernel
theorem d_MO_sameName_35 : decode b_MO_sameName 35 = .ok (.invokevirtual 98, 3) := by decide +kernel
theorem d_MO_sameName_38 : decode b_MO_sameName 38 = .ok (.ifCond .ne 5, 3) := by decide +kernel
theorem d_MO_sameName_41 : decode b_MO_sameName 41 = .ok (.iload_n 3, 1) := by decide +kernel
theorem d_MO_sameName_42 : decode b_MO_sameName 42 = .ok (.ireturn, 1) := by decide +kernel
theorem d_MO_sameName_43 : decode b_MO_sameName 43 = .ok (.aload_n 0, 1) := by decide +kernel
theorem d_MO_sameName_44 : decode b_MO_sameName 44 = .ok (.iload_n 3, 1) := by decide +kernel
theorem d_MO_sameName_45 : decode b_MO_sameName 45 = .ok (.invokevirtual 111, 3) := by decide +kernel
theorem d_MO_sameName_48 : decode b_MO_sameName 48 = .ok (.istore_n 3, 1) := by decide +kernel
theorem d_MO_sameName_49 : decode b_MO_sameName 49 = .ok (.goto (-43), 3) := by decide +kernel
theorem d_MO_sameName_52 : decode b_MO_sameName 52 = .ok (.iconst 0, 1) := by decide +kernel
theorem d_MO_sameName_53 : decode b_MO_sameName 53 = .ok (.ireturn, 1) := by decide +kernel
set_option maxHeartbeats 4000000 in
set_option maxRecDepth 100000 in
theorem l_MO_character_r16 {p : Program} {e : Env} {s : State} {m : MethodId} {args : Array Value} {below : List Frame} {meth : Method} {c : Code} {V : Option (Int32)} {V0 : Int32} (C0 : lc_C p s m meth c args b_MO_character 8 (some .int) R_MO lw_g) (hs : V = some V0) (l : Launch) (D : va_G) (cB cI : ClassId) (aM aMst aMdcs aMtot aMfrm aMsiz aMffr aMfsz aMlkd aMlat aMkkd aMkat aModr aMgrp aMikd aMiat : Nat) (fu : Nat) (thr : Int32) (tpd : Int32) (frs : Int32) (frt : Int32) (top : Int32) (bgn : Int32) (mst : Int32) (ovr : Bool) (tgr : Bool) (lvs : Int32) (its : Int32) (hgh : Int64) (loo : Int64) (dfl : Bool) (st : Nat → Int32) (hP : va_P D vwCl [(aM, .inr (11, [.int thr, .ref aMst, .int tpd, .ref aMdcs, .ref aMtot, .ref aMfrm, .ref aMsiz, .int frs, .int frt, .ref aMffr, .ref aMfsz, .int top, .int bgn, .int mst, .int (b2i ovr), .int (b2i tgr), .int lvs, .ref aMlkd, .ref aMlat, .ref aMkkd, .ref aMkat, .ref aModr, .ref aMgrp, .int its, .ref aMikd, .ref aMiat, .long hgh, .long loo, .int (b2i dfl)])), (aMst, .inl (cI, 136400, .inl st))] s.heap) (hk : hk_ D cB cI s) (x1 : Int32) (x2 : Int32) (x3 : Int32) {K : Int32 → Option (Int32)} (hKx : ∀ (y4 : Int32), V = K y4 → ∀ ls : Array Slot, lv_has ls 8 [(0, .ref aM), (1, .int x1), (2, .int x2), (3, .int x3), (4, .int y4)] → W p l e ({ frames := 0, cells := 0, slots := 0, locals := 0 }) s m args below meth c s.heap [] 0 0 (MQ below (vp_Si (fun r => r = V0)) args s 0 0 (fun _ => False)) (F0 m 73 ls [])) (hV : V = tw_MO_character_r16 fu K st x1 x2 x3) : ∀ ls : Array Slot, lv_has ls 8 [(0, .ref aM), (1, .int x1), (2, .int x2), (3, .int x3)] → W p l e ({ frames := 0, cells := 0, slots := 0, locals := 0 }) s m args below meth c s.heap [] 0 0 (MQ below (vp_Si (fun r => r = V0)) args s 0 0 (fun _ => False)) (F0 m 16 ls []) := by
  obtain ⟨hx, hb, hml, hr, hown, hlocks, hT⟩ := id C0
  have hK := hk.1
  have hN := hk.2.1
  intro ls hl
  refine lv_iload_n hx hb d_MO_character_16 rfl (lv_at hl 3 rfl) ?_
  refine lv_sipush (v := 193) hx hb d_MO_character_17 (by decide) ?_
  refine lv_icmp_le (tgt := 34) hx hb d_MO_character_20 (by decide) (fun c_3 => ?_) (fun c_3 => ?_)
  · refine lv_iload_n hx hb d_MO_character_34 rfl (lv_at hl 3 rfl) ?_
    refine lv_sipush (v := 223) hx hb d_MO_character_35 (by decide) ?_
    refine lv_icmp_le (tgt := 52) hx hb d_MO_character_38 (by decide) (fun c_4 => ?_) (fun c_4 => ?_)
    · refine lv_iload_n hx hb d_MO_character_52 rfl (lv_at hl 3 rfl) ?_
      refine lv_sipush (v := 239) hx hb d_MO_character_53 (by decide) ?_
      refine lv_icmp_le (tgt := 70) hx hb d_MO_character_56 (by decide) (fun c_5 => ?_) (fun c_5 => ?_)
      · refine lv_iconst (v := 0) hx hb d_MO_character_70 (by decide) ?_
        refine lv_istore (lv' := [(4, .int 0), (0, .ref aM), (1, .int x1), (2, .int x2), (3, .int x3)]) hx hb d_MO_character_71 hl (by decide) rfl (fun ls hl => ?_)
        exact hKx 0 (by rw [hV, tw_MO_character_r16, if_pos c_3, if_pos c_4, if_pos c_5]) ls (lv_sub hl [1, 2, 3, 4, 0] rfl)
      · refine lv_iload_n hx hb d_MO_character_59 rfl (lv_at hl 3 rfl) ?_
        refine lv_sipush (v := 245) hx hb d_MO_character_60 (by decide) ?_
        refine lv_icmp_ge (tgt := 70) hx hb d_MO_character_63 (by decide) (fun c_6 => ?_) (fun c_6 => ?_)
        · refine lv_iconst (v := 0) hx hb d_MO_character_70 (by decide) ?_
          refine lv_istore (lv' := [(4, .int 0), (0, .ref aM), (1, .int x1), (2, .int x2), (3, .int x3)]) hx hb d_MO_character_71 hl (by decide) rfl (fun ls hl => ?_)
          exact hKx 0 (by rw [hV, tw_MO_character_r16, if_pos c_3, if_pos c_4, if_neg c_5, if_pos c_6]) ls (lv_sub hl [1, 2, 3, 4, 0] rfl)
        · refine lv_iconst (v := 4) hx hb d_MO_character_66 (by decide) ?_
          refine lv_goto (tgt := 71) hx hb d_MO_character_67 (by decide) ?_
          refine lv_istore (lv' := [(4, .int 4), (0, .ref aM), (1, .int x1), (2, .int x2), (3, .int x3)]) hx hb d_MO_character_71 hl (by decide) rfl (fun ls hl => ?_)
          exact hKx 4 (by rw [hV, tw_MO_character_r16, if_pos c_3, if_pos c_4, if_neg c_5, if_neg c_6]) ls (lv_sub hl [1, 2, 3, 4, 0] rfl)
    · refine lv_iload_n hx hb d_MO_character_41 rfl (lv_at hl 3 rfl) ?_
      refine lv_sipush (v := 240) hx hb d_MO_character_42 (by decide) ?_
      refine lv_icmp_ge (tgt := 52) hx hb d_MO_character_45 (by decide) (fun c_7 => ?_) (fun c_7 => ?_)
      · refine lv_iload_n hx hb d_MO_character_52 rfl (lv_at hl 3 rfl) ?_
        refine lv_sipush (v := 239) hx hb d_MO_character_53 (by decide) ?_
        refine lv_icmp_le (tgt := 70) hx hb d_MO_character_56 (by decide) (fun c_8 => ?_) (fun c_8 => ?_)
        · refine lv_iconst (v := 0) hx hb d_MO_character_70 (by decide) ?_
          refine lv_istore (lv' := [(4, .int 0), (0, .ref aM), (1, .int x1), (2, .int x2), (3, .int x3)]) hx hb d_MO_character_71 hl (by decide) rfl (fun ls hl => ?_)
          exact hKx 0 (by rw [hV, tw_MO_character_r16, if_pos c_3, if_neg c_4, if_pos c_7, if_pos c_8]) ls (lv_sub hl [1, 2, 3, 4, 0] rfl)
        · refine lv_iload_n hx hb d_MO_character_59 rfl (lv_at hl 3 rfl) ?_
          refine lv_sipush (v := 245) hx hb d_MO_character_60 (by decide) ?_
          refine lv_icmp_ge (tgt := 70) hx hb d_MO_character_63 (by decide) (fun c_9 => ?_) (fun c_9 => ?_)
          · refine lv_iconst (v := 0) hx hb d_MO_character_70 (by decide) ?_
            refine lv_istore (lv' := [(4, .int 0), (0, .ref aM), (1, .int x1), (2, .int x2), (3, .int x3)]) hx hb d_MO_character_71 hl (by decide) rfl (fun ls hl => ?_)
            exact hKx 0 (by rw [hV, tw_MO_character_r16, if_pos c_3, if_neg c_4, if_pos c_7, if_neg c_8, if_pos c_9]) ls (lv_sub hl [1, 2, 3, 4, 0] rfl)
          · refine lv_iconst (v := 4) hx hb d_MO_character_66 (by decide) ?_
            refine lv_goto (tgt := 71) hx hb d_MO_character_67 (by decide) ?_
            refine lv_istore (lv' := [(4, .int 4), (0, .ref aM), (1, .int x1), (2, .int x2), (3, .int x3)]) hx hb d_MO_character_71 hl (by decide) rfl (fun ls hl => ?_)
            exact hKx 4 (by rw [hV, tw_MO_character_r16, if_pos c_3, if_neg c_4, if_pos c_7, if_neg c_8, if_neg c_9]) ls (lv_sub hl [1, 2, 3, 4, 0] rfl)
      · refine lv_iconst (v := 3) hx hb d_MO_character_48 (by decide) ?_
        refine lv_goto (tgt := 71) hx hb d_MO_character_49 (by decide) ?_
        refine lv_istore (lv' := [(4, .int 3), (0, .ref aM), (1, .int x1), (2, .int x2), (3, .int x3)]) hx hb d_MO_character_71 hl (by decide) rfl (fun ls hl => ?_)
        exact hKx 3 (by rw [hV, tw_MO_character_r16, if_pos c_3, if_neg c_4, if_neg c_7]) ls (lv_sub hl [1, 2, 3, 4, 0] rfl)
  · refine lv_iload_n hx hb d_MO_character_23 rfl (lv_at hl 3 rfl) ?_
    refine lv_sipush (v := 224) hx hb d_MO_character_24 (by decide) ?_
    refine lv_icmp_ge (tgt := 34) hx hb d_MO_character_27 (by decide) (fun c_10 => ?_) (fun c_10 => ?_)
    · refine lv_iload_n hx hb d_MO_character_34 rfl (lv_at hl 3 rfl) ?_
      refine lv_sipush (v := 223) hx hb d_MO_character_35 (by decide) ?_
      refine lv_icmp_le (tgt := 52) hx hb d_MO_character_38 (by decide) (fun c_11 => ?_) (fun c_11 => ?_)
      · refine lv_iload_n hx hb d_MO_character_52 rfl (lv_at hl 3 rfl) ?_
        refine lv_sipush (v := 239) hx hb d_MO_character_53 (by decide) ?_
        refine lv_icmp_le (tgt := 70) hx hb d_MO_character_56 (by decide) (fun c_12 => ?_) (fun c_12 => ?_)
        · refine lv_iconst (v := 0) hx hb d_MO_character_70 (by decide) ?_
          refine lv_istore (lv' := [(4, .int 0), (0, .ref aM), (1, .int x1), (2, .int x2), (3, .int x3)]) hx hb d_MO_character_71 hl (by decide) rfl (fun ls hl => ?_)
          exact hKx 0 (by rw [hV, tw_MO_character_r16, if_neg c_3, if_pos c_10, if_pos c_11, if_pos c_12]) ls (lv_sub hl [1, 2, 3, 4, 0] rfl)
        · refine lv_iload_n hx hb d_MO_character_59 rfl (lv_at hl 3 rfl) ?_
          refine lv_sipush (v := 245) hx hb d_MO_character_60 (by decide) ?_
          refine lv_icmp_ge (tgt := 70) hx hb d_MO_character_63 (by decide) (fun c_13 => ?_) (fun c_13 => ?_)
          · refine lv_iconst (v := 0) hx hb d_MO_character_70 (by decide) ?_
            refine lv_istore (lv' := [(4, .int 0), (0, .ref aM), (1, .int x1), (2, .int x2), (3, .int x3)]) hx hb d_MO_character_71 hl (by decide) rfl (fun ls hl => ?_)
            exact hKx 0 (by rw [hV, tw_MO_character_r16, if_neg c_3, if_pos c_10, if_pos c_11, if_neg c_12, if_pos c_13]) ls (lv_sub hl [1, 2, 3, 4, 0] rfl)
          · refine lv_iconst (v := 4) hx hb d_MO_character_66 (by decide) ?_
            refine lv_goto (tgt := 71) hx hb d_MO_character_67 (by decide) ?_
            refine lv_istore (lv' := [(4, .int 4), (0, .ref aM), (1, .int x1), (2, .int x2), (3, .int x3)]) hx hb d_MO_character_71 hl (by decide) rfl (fun ls hl => ?_)
            exact hKx 4 (by rw [hV, tw_MO_character_r16, if_neg c_3, if_pos c_10, if_pos c_11, if_neg c_12, if_neg c_13]) ls (lv_sub hl [1, 2, 3, 4, 0] rfl)
      · refine lv_iload_n hx hb d_MO_character_41 rfl (lv_at hl 3 rfl) ?_
        refine lv_sipush (v := 240) hx hb d_MO_character_42 (by decide) ?_
        refine lv_icmp_ge (tgt := 52) hx hb d_MO_character_45 (by decide) (fun c_14 => ?_) (fun c_14 => ?_)
        · refine lv_iload_n hx hb d_MO_character_52 rfl (lv_at hl 3 rfl) ?_
          refine lv_sipush (v := 239) hx hb d_MO_character_53 (by decide) ?_
          refine lv_icmp_le (tgt := 70) hx hb d_MO_character_56 (by decide) (fun c_15 => ?_) (fun c_15 => ?_)
          · refine lv_iconst (v := 0) hx hb d_MO_character_70 (by decide) ?_
            refine lv_istore (lv' := [(4, .int 0), (0, .ref aM), (1, .int x1), (2, .int x2), (3, .int x3)]) hx hb d_MO_character_71 hl (by decide) rfl (fun ls hl => ?_)
            exact hKx 0 (by rw [hV, tw_MO_character_r16, if_neg c_3, if_pos c_10, if_neg c_11, if_pos c_14, if_pos c_15]) ls (lv_sub hl [1, 2, 3, 4, 0] rfl)
          · refine lv_iload_n hx hb d_MO_character_59 rfl (lv_at hl 3 rfl) ?_
            refine lv_sipush (v := 245) hx hb d_MO_character_60 (by decide) ?_
            refine lv_icmp_ge (tgt := 70) hx hb d_MO_character_63 (by decide) (fun c_16 => ?_) (fun c_16 => ?_)
            · refine lv_iconst (v := 0) hx hb d_MO_character_70 (by decide) ?_
              refine lv_istore (lv' := [(4, .int 0), (0, .ref aM), (1, .int x1), (2, .int x2), (3, .int x3)]) hx hb d_MO_character_71 hl (by decide) rfl (fun ls hl => ?_)
              exact hKx 0 (by rw [hV, tw_MO_character_r16, if_neg c_3, if_pos c_10, if_neg c_11, if_pos c_14, if_neg c_15, if_pos c_16]) ls (lv_sub hl [1, 2, 3, 4, 0] rfl)
            · refine lv_iconst (v := 4) hx hb d_MO_character_66 (by decide) ?_
              refine lv_goto (tgt := 71) hx hb d_MO_character_67 (by decide) ?_
              refine lv_istore (lv' := [(4, .int 4), (0, .ref aM), (1, .int x1), (2, .int x2), (3, .int x3)]) hx hb d_MO_character_71 hl (by decide) rfl (fun ls hl => ?_)
              exact hKx 4 (by rw [hV, tw_MO_character_r16, if_neg c_3, if_pos c_10, if_neg c_11, if_pos c_14, if_neg c_15, if_neg c_16]) ls (lv_sub hl [1, 2, 3, 4, 0] rfl)
        · refine lv_iconst (v := 3) hx hb d_MO_character_48 (by decide) ?_
          refine lv_goto (tgt := 71) hx hb d_MO_character_49 (by decide) ?_
          refine lv_istore (lv' := [(4, .int 3), (0, .ref aM), (1, .int x1), (2, .int x2), (3, .int x3)]) hx hb d_MO_character_71 hl (by decide) rfl (fun ls hl => ?_)
          exact hKx 3 (by rw [hV, tw_MO_character_r16, if_neg c_3, if_pos c_10, if_neg c_11, if_neg c_14]) ls (lv_sub hl [1, 2, 3, 4, 0] rfl)
    · refine lv_iconst (v := 2) hx hb d_MO_character_30 (by decide) ?_
      refine lv_goto (tgt := 71) hx hb d_MO_character_31 (by decide) ?_
      refine lv_istore (lv' := [(4, .int 2), (0, .ref aM), (1, .int x1), (2, .int x2), (3, .int x3)]) hx hb d_MO_character_71 hl (by decide) rfl (fun ls hl => ?_)
      exact hKx 2 (by rw [hV, tw_MO_character_r16, if_neg c_3, if_neg c_10]) ls (lv_sub hl [1, 2, 3, 4, 0] rfl)
set_option maxHeartbeats 4000000 in
set_option maxRecDepth 100000 in
theorem l_MO_character_r98 {p : Program} {e : Env} {s : State} {m : MethodId} {args : Array Value} {below : List Frame} {meth : Method} {c : Code} {V : Option (Int32)} {V0 : Int32} (C0 : lc_C p s m meth c args b_MO_character 8 (some .int) R_MO lw_g) (hs : V = some V0) (l : Launch) (D : va_G) (cB cI : ClassId) (aM aMst aMdcs aMtot aMfrm aMsiz aMffr aMfsz aMlkd aMlat aMkkd aMkat aModr aMgrp aMikd aMiat : Nat) (fu : Nat) (thr : Int32) (tpd : Int32) (frs : Int32) (frt : Int32) (top : Int32) (bgn : Int32) (mst : Int32) (ovr : Bool) (tgr : Bool) (lvs : Int32) (its : Int32) (hgh : Int64) (loo : Int64) (dfl : Bool) (st : Nat → Int32) (hP : va_P D vwCl [(aM, .inr (11, [.int thr, .ref aMst, .int tpd, .ref aMdcs, .ref aMtot, .ref aMfrm, .ref aMsiz, .int frs, .int frt, .ref aMffr, .ref aMfsz, .int top, .int bgn, .int mst, .int (b2i ovr), .int (b2i tgr), .int lvs, .ref aMlkd, .ref aMlat, .ref aMkkd, .ref aMkat, .ref aModr, .ref aMgrp, .int its, .ref aMikd, .ref aMiat, .long hgh, .long loo, .int (b2i dfl)])), (aMst, .inl (cI, 136400, .inl st))] s.heap) (hk : hk_ D cB cI s) (x1 : Int32) (x3 : Int32) (x4 : Int32) (x5 : Int32) {K : Bool → Option (Int32)} (hKx : ∀ (y6 : Bool), V = K y6 → ∀ ls : Array Slot, lv_has ls 8 [(0, .ref aM), (1, .int x1), (4, .int x4), (6, .int (b2i y6))] → W p l e ({ frames := 0, cells := 0, slots := 0, locals := 0 }) s m args below meth c s.heap [] 0 0 (MQ below (vp_Si (fun r => r = V0)) args s 0 0 (fun _ => False)) (F0 m 165 ls [])) (hV : V = tw_MO_character_r98 fu K st x1 x3 x4 x5) : ∀ ls : Array Slot, lv_has ls 8 [(0, .ref aM), (1, .int x1), (3, .int x3), (4, .int x4), (5, .int x5)] → W p l e ({ frames := 0, cells := 0, slots := 0, locals := 0 }) s m args below meth c s.heap [] 0 0 (MQ below (vp_Si (fun r => r = V0)) args s 0 0 (fun _ => False)) (F0 m 98 ls []) := by
  obtain ⟨hx, hb, hml, hr, hown, hlocks, hT⟩ := id C0
  have hK := hk.1
  have hN := hk.2.1
  intro ls hl
  refine lv_iload_n hx hb d_MO_character_98 rfl (lv_at hl 2 rfl) ?_
  refine lv_sipush (v := 224) hx hb d_MO_character_99 (by decide) ?_
  refine lv_icmp_ne (tgt := 113) hx hb d_MO_character_102 (by decide) (fun c_21 => ?_) (fun c_21 => ?_)
  · refine lv_iload_n hx hb d_MO_character_113 rfl (lv_at hl 2 rfl) ?_
    refine lv_sipush (v := 237) hx hb d_MO_character_114 (by decide) ?_
    refine lv_icmp_ne (tgt := 128) hx hb d_MO_character_117 (by decide) (fun c_22 => ?_) (fun c_22 => ?_)
    · refine lv_iload_n hx hb d_MO_character_128 rfl (lv_at hl 2 rfl) ?_
      refine lv_sipush (v := 240) hx hb d_MO_character_129 (by decide) ?_
      refine lv_icmp_ne (tgt := 143) hx hb d_MO_character_132 (by decide) (fun c_23 => ?_) (fun c_23 => ?_)
      · refine lv_iload_n hx hb d_MO_character_143 rfl (lv_at hl 2 rfl) ?_
        refine lv_sipush (v := 244) hx hb d_MO_character_144 (by decide) ?_
        refine lv_icmp_ne (tgt := 158) hx hb d_MO_character_147 (by decide) (fun c_24 => ?_) (fun c_24 => ?_)
        · refine lv_iconst (v := 1) hx hb d_MO_character_158 (by decide) ?_
          refine lv_goto (tgt := 163) hx hb d_MO_character_159 (by decide) ?_
          refine lv_istore (lv' := [(6, .int 1), (0, .ref aM), (1, .int x1), (3, .int x3), (4, .int x4), (5, .int x5)]) hx hb d_MO_character_163 hl (by decide) rfl (fun ls hl => ?_)
          exact hKx true (by rw [hV, tw_MO_character_r98, if_neg c_21, if_neg c_22, if_neg c_23, if_neg c_24]) ls (lv_sub hl [1, 2, 4, 0] rfl)
        · refine lv_iload hx hb d_MO_character_150 (lv_at hl 4 rfl) ?_
          refine lv_sipush (v := 143) hx hb d_MO_character_152 (by decide) ?_
          refine lv_icmp_gt (tgt := 162) hx hb d_MO_character_155 (by decide) (fun c_25 => ?_) (fun c_25 => ?_)
          · refine lv_iconst (v := 0) hx hb d_MO_character_162 (by decide) ?_
            refine lv_istore (lv' := [(6, .int 0), (0, .ref aM), (1, .int x1), (3, .int x3), (4, .int x4), (5, .int x5)]) hx hb d_MO_character_163 hl (by decide) rfl (fun ls hl => ?_)
            exact hKx false (by rw [hV, tw_MO_character_r98, if_neg c_21, if_neg c_22, if_neg c_23, if_pos c_24, if_pos c_25]) ls (lv_sub hl [1, 2, 4, 0] rfl)
          · refine lv_iconst (v := 1) hx hb d_MO_character_158 (by decide) ?_
            refine lv_goto (tgt := 163) hx hb d_MO_character_159 (by decide) ?_
            refine lv_istore (lv' := [(6, .int 1), (0, .ref aM), (1, .int x1), (3, .int x3), (4, .int x4), (5, .int x5)]) hx hb d_MO_character_163 hl (by decide) rfl (fun ls hl => ?_)
            exact hKx true (by rw [hV, tw_MO_character_r98, if_neg c_21, if_neg c_22, if_neg c_23, if_pos c_24, if_neg c_25]) ls (lv_sub hl [1, 2, 4, 0] rfl)
      · refine lv_iload hx hb d_MO_character_135 (lv_at hl 4 rfl) ?_
        refine lv_sipush (v := 144) hx hb d_MO_character_137 (by decide) ?_
        refine lv_icmp_lt (tgt := 162) hx hb d_MO_character_140 (by decide) (fun c_26 => ?_) (fun c_26 => ?_)
        · refine lv_iconst (v := 0) hx hb d_MO_character_162 (by decide) ?_
          refine lv_istore (lv' := [(6, .int 0), (0, .ref aM), (1, .int x1), (3, .int x3), (4, .int x4), (5, .int x5)]) hx hb d_MO_character_163 hl (by decide) rfl (fun ls hl => ?_)
          exact hKx false (by rw [hV, tw_MO_character_r98, if_neg c_21, if_neg c_22, if_pos c_23, if_pos c_26]) ls (lv_sub hl [1, 2, 4, 0] rfl)
        · refine lv_iload_n hx hb d_MO_character_143 rfl (lv_at hl 2 rfl) ?_
          refine lv_sipush (v := 244) hx hb d_MO_character_144 (by decide) ?_
          refine lv_icmp_ne (tgt := 158) hx hb d_MO_character_147 (by decide) (fun c_27 => ?_) (fun c_27 => ?_)
          · refine lv_iconst (v := 1) hx hb d_MO_character_158 (by decide) ?_
            refine lv_goto (tgt := 163) hx hb d_MO_character_159 (by decide) ?_
            refine lv_istore (lv' := [(6, .int 1), (0, .ref aM), (1, .int x1), (3, .int x3), (4, .int x4), (5, .int x5)]) hx hb d_MO_character_163 hl (by decide) rfl (fun ls hl => ?_)
            exact hKx true (by rw [hV, tw_MO_character_r98, if_neg c_21, if_neg c_22, if_pos c_23, if_neg c_26, if_neg c_27]) ls (lv_sub hl [1, 2, 4, 0] rfl)
          · refine lv_iload hx hb d_MO_character_150 (lv_at hl 4 rfl) ?_
            refine lv_sipush (v := 143) hx hb d_MO_character_152 (by decide) ?_
            refine lv_icmp_gt (tgt := 162) hx hb d_MO_character_155 (by decide) (fun c_28 => ?_) (fun c_28 => ?_)
            · refine lv_iconst (v := 0) hx hb d_MO_character_162 (by decide) ?_
              refine lv_istore (lv' := [(6, .int 0), (0, .ref aM), (1, .int x1), (3, .int x3), (4, .int x4), (5, .int x5)]) hx hb d_MO_character_163 hl (by decide) rfl (fun ls hl => ?_)
              exact hKx false (by rw [hV, tw_MO_character_r98, if_neg c_21, if_neg c_22, if_pos c_23, if_neg c_26, if_pos c_27, if_pos c_28]) ls (lv_sub hl [1, 2, 4, 0] rfl)
            · refine lv_iconst (v := 1) hx hb d_MO_character_158 (by decide) ?_
              refine lv_goto (tgt := 163) hx hb d_MO_character_159 (by decide) ?_
              refine lv_istore (lv' := [(6, .int 1), (0, .ref aM), (1, .int x1), (3, .int x3), (4, .int x4), (5, .int x5)]) hx hb d_MO_character_163 hl (by decide) rfl (fun ls hl => ?_)
              exact hKx true (by rw [hV, tw_MO_character_r98, if_neg c_21, if_neg c_22, if_pos c_23, if_neg c_26, if_pos c_27, if_neg c_28]) ls (lv_sub hl [1, 2, 4, 0] rfl)
    · refine lv_iload hx hb d_MO_character_120 (lv_at hl 4 rfl) ?_
      refine lv_sipush (v := 159) hx hb d_MO_character_122 (by decide) ?_
      refine lv_icmp_gt (tgt := 162) hx hb d_MO_character_125 (by decide) (fun c_29 => ?_) (fun c_29 => ?_)
      · refine lv_iconst (v := 0) hx hb d_MO_character_162 (by decide) ?_
        refine lv_istore (lv' := [(6, .int 0), (0, .ref aM), (1, .int x1), (3, .int x3), (4, .int x4), (5, .int x5)]) hx hb d_MO_character_163 hl (by decide) rfl (fun ls hl => ?_)
        exact hKx false (by rw [hV, tw_MO_character_r98, if_neg c_21, if_pos c_22, if_pos c_29]) ls (lv_sub hl [1, 2, 4, 0] rfl)
      · refine lv_iload_n hx hb d_MO_character_128 rfl (lv_at hl 2 rfl) ?_
        refine lv_sipush (v := 240) hx hb d_MO_character_129 (by decide) ?_
        refine lv_icmp_ne (tgt := 143) hx hb d_MO_character_132 (by decide) (fun c_30 => ?_) (fun c_30 => ?_)
        · refine lv_iload_n hx hb d_MO_character_143 rfl (lv_at hl 2 rfl) ?_
          refine lv_sipush (v := 244) hx hb d_MO_character_144 (by decide) ?_
          refine lv_icmp_ne (tgt := 158) hx hb d_MO_character_147 (by decide) (fun c_31 => ?_) (fun c_31 => ?_)
          · refine lv_iconst (v := 1) hx hb d_MO_character_158 (by decide) ?_
            refine lv_goto (tgt := 163) hx hb d_MO_character_159 (by decide) ?_
            refine lv_istore (lv' := [(6, .int 1), (0, .ref aM), (1, .int x1), (3, .int x3), (4, .int x4), (5, .int x5)]) hx hb d_MO_character_163 hl (by decide) rfl (fun ls hl => ?_)
            exact hKx true (by rw [hV, tw_MO_character_r98, if_neg c_21, if_pos c_22, if_neg c_29, if_neg c_30, if_neg c_31]) ls (lv_sub hl [1, 2, 4, 0] rfl)
          · refine lv_iload hx hb d_MO_character_150 (lv_at hl 4 rfl) ?_
            refine lv_sipush (v := 143) hx hb d_MO_character_152 (by decide) ?_
            refine lv_icmp_gt (tgt := 162) hx hb d_MO_character_155 (by decide) (fun c_32 => ?_) (fun c_32 => ?_)
            · refine lv_iconst (v := 0) hx hb d_MO_character_162 (by decide) ?_
              refine lv_istore (lv' := [(6, .int 0), (0, .ref aM), (1, .int x1), (3, .int x3), (4, .int x4), (5, .int x5)]) hx hb d_MO_character_163 hl (by decide) rfl (fun ls hl => ?_)
              exact hKx false (by rw [hV, tw_MO_character_r98, if_neg c_21, if_pos c_22, if_neg c_29, if_neg c_30, if_pos c_31, if_pos c_32]) ls (lv_sub hl [1, 2, 4, 0] rfl)
            · refine lv_iconst (v := 1) hx hb d_MO_character_158 (by decide) ?_
              refine lv_goto (tgt := 163) hx hb d_MO_character_159 (by decide) ?_
              refine lv_istore (lv' := [(6, .int 1), (0, .ref aM), (1, .int x1), (3, .int x3), (4, .int x4), (5, .int x5)]) hx hb d_MO_character_163 hl (by decide) rfl (fun ls hl => ?_)
              exact hKx true (by rw [hV, tw_MO_character_r98, if_neg c_21, if_pos c_22, if_neg c_29, if_neg c_30, if_pos c_31, if_neg c_32]) ls (lv_sub hl [1, 2, 4, 0] rfl)
        · refine lv_iload hx hb d_MO_character_135 (lv_at hl 4 rfl) ?_
          refine lv_sipush (v := 144) hx hb d_MO_character_137 (by decide) ?_
          refine lv_icmp_lt (tgt := 162) hx hb d_MO_character_140 (by decide) (fun c_33 => ?_) (fun c_33 => ?_)
          · refine lv_iconst (v := 0) hx hb d_MO_character_162 (by decide) ?_
            refine lv_istore (lv' := [(6, .int 0), (0, .ref aM), (1, .int x1), (3, .int x3), (4, .int x4), (5, .int x5)]) hx hb d_MO_character_163 hl (by decide) rfl (fun ls hl => ?_)
            exact hKx false (by rw [hV, tw_MO_character_r98, if_neg c_21, if_pos c_22, if_neg c_29, if_pos c_30, if_pos c_33]) ls (lv_sub hl [1, 2, 4, 0] rfl)
          · refine lv_iload_n hx hb d_MO_character_143 rfl (lv_at hl 2 rfl) ?_
            refine lv_sipush (v := 244) hx hb d_MO_character_144 (by decide) ?_
            refine lv_icmp_ne (tgt := 158) hx hb d_MO_character_147 (by decide) (fun c_34 => ?_) (fun c_34 => ?_)
            · refine lv_iconst (v := 1) hx hb d_MO_character_158 (by decide) ?_
              refine lv_goto (tgt := 163) hx hb d_MO_character_159 (by decide) ?_
              refine lv_istore (lv' := [(6, .int 1), (0, .ref aM), (1, .int x1), (3, .int x3), (4, .int x4), (5, .int x5)]) hx hb d_MO_character_163 hl (by decide) rfl (fun ls hl => ?_)
              exact hKx true (by rw [hV, tw_MO_character_r98, if_neg c_21, if_pos c_22, if_neg c_29, if_pos c_30, if_neg c_33, if_neg c_34]) ls (lv_sub hl [1, 2, 4, 0] rfl)
            · refine lv_iload hx hb d_MO_character_150 (lv_at hl 4 rfl) ?_
              refine lv_sipush (v := 143) hx hb d_MO_character_152 (by decide) ?_
              refine lv_icmp_gt (tgt := 162) hx hb d_MO_character_155 (by decide) (fun c_35 => ?_) (fun c_35 => ?_)
              · refine lv_iconst (v := 0) hx hb d_MO_character_162 (by decide) ?_
                refine lv_istore (lv' := [(6, .int 0), (0, .ref aM), (1, .int x1), (3, .int x3), (4, .int x4), (5, .int x5)]) hx hb d_MO_character_163 hl (by decide) rfl (fun ls hl => ?_)
                exact hKx false (by rw [hV, tw_MO_character_r98, if_neg c_21, if_pos c_22, if_neg c_29, if_pos c_30, if_neg c_33, if_pos c_34, if_pos c_35]) ls (lv_sub hl [1, 2, 4, 0] rfl)
              · refine lv_iconst (v := 1) hx hb d_MO_character_158 (by decide) ?_
                refine lv_goto (tgt := 163) hx hb d_MO_character_159 (by decide) ?_
                refine lv_istore (lv' := [(6, .int 1), (0, .ref aM), (1, .int x1), (3, .int x3), (4, .int x4), (5, .int x5)]) hx hb d_MO_character_163 hl (by decide) rfl (fun ls hl => ?_)
                exact hKx true (by rw [hV, tw_MO_character_r98, if_neg c_21, if_pos c_22, if_neg c_29, if_pos c_30, if_neg c_33, if_pos c_34, if_neg c_35]) ls (lv_sub hl [1, 2, 4, 0] rfl)
  · refine lv_iload hx hb d_MO_character_105 (lv_at hl 4 rfl) ?_
    refine lv_sipush (v := 160) hx hb d_MO_character_107 (by decide) ?_
    refine lv_icmp_lt (tgt := 162) hx hb d_MO_character_110 (by decide) (fun c_36 => ?_) (fun c_36 => ?_)
    · refine lv_iconst (v := 0) hx hb d_MO_character_162 (by decide) ?_
      refine lv_istore (lv' := [(6, .int 0), (0, .ref aM), (1, .int x1), (3, .int x3), (4, .int x4), (5, .int x5)]) hx hb d_MO_character_163 hl (by decide) rfl (fun ls hl => ?_)
      exact hKx false (by rw [hV, tw_MO_character_r98, if_pos c_21, if_pos c_36]) ls (lv_sub hl [1, 2, 4, 0] rfl)
    · refine lv_iload_n hx hb d_MO_character_113 rfl (lv_at hl 2 rfl) ?_
      refine lv_sipush (v := 237) hx hb d_MO_character_114 (by decide) ?_
      refine lv_icmp_ne (tgt := 128) hx hb d_MO_character_117 (by decide) (fun c_37 => ?_) (fun c_37 => ?_)
      · refine lv_iload_n hx hb d_MO_character_128 rfl (lv_at hl 2 rfl) ?_
        refine lv_sipush (v := 240) hx hb d_MO_character_129 (by decide) ?_
        refine lv_icmp_ne (tgt := 143) hx hb d_MO_character_132 (by decide) (fun c_38 => ?_) (fun c_38 => ?_)
        · refine lv_iload_n hx hb d_MO_character_143 rfl (lv_at hl 2 rfl) ?_
          refine lv_sipush (v := 244) hx hb d_MO_character_144 (by decide) ?_
          refine lv_icmp_ne (tgt := 158) hx hb d_MO_character_147 (by decide) (fun c_39 => ?_) (fun c_39 => ?_)
          · refine lv_iconst (v := 1) hx hb d_MO_character_158 (by decide) ?_
            refine lv_goto (tgt := 163) hx hb d_MO_character_159 (by decide) ?_
            refine lv_istore (lv' := [(6, .int 1), (0, .ref aM), (1, .int x1), (3, .int x3), (4, .int x4), (5, .int x5)]) hx hb d_MO_character_163 hl (by decide) rfl (fun ls hl => ?_)
            exact hKx true (by rw [hV, tw_MO_character_r98, if_pos c_21, if_neg c_36, if_neg c_37, if_neg c_38, if_neg c_39]) ls (lv_sub hl [1, 2, 4, 0] rfl)
          · refine lv_iload hx hb d_MO_character_150 (lv_at hl 4 rfl) ?_
            refine lv_sipush (v := 143) hx hb d_MO_character_152 (by decide) ?_
            refine lv_icmp_gt (tgt := 162) hx hb d_MO_character_155 (by decide) (fun c_40 => ?_) (fun c_40 => ?_)
            · refine lv_iconst (v := 0) hx hb d_MO_character_162 (by decide) ?_
              refine lv_istore (lv' := [(6, .int 0), (0, .ref aM), (1, .int x1), (3, .int x3), (4, .int x4), (5, .int x5)]) hx hb d_MO_character_163 hl (by decide) rfl (fun ls hl => ?_)
              exact hKx false (by rw [hV, tw_MO_character_r98, if_pos c_21, if_neg c_36, if_neg c_37, if_neg c_38, if_pos c_39, if_pos c_40]) ls (lv_sub hl [1, 2, 4, 0] rfl)
            · refine lv_iconst (v := 1) hx hb d_MO_character_158 (by decide) ?_
              refine lv_goto (tgt := 163) hx hb d_MO_character_159 (by decide) ?_
              refine lv_istore (lv' := [(6, .int 1), (0, .ref aM), (1, .int x1), (3, .int x3), (4, .int x4), (5, .int x5)]) hx hb d_MO_character_163 hl (by decide) rfl (fun ls hl => ?_)
              exact hKx true (by rw [hV, tw_MO_character_r98, if_pos c_21, if_neg c_36, if_neg c_37, if_neg c_38, if_pos c_39, if_neg c_40]) ls (lv_sub hl [1, 2, 4, 0] rfl)
        · refine lv_iload hx hb d_MO_character_135 (lv_at hl 4 rfl) ?_
          refine lv_sipush (v := 144) hx hb d_MO_character_137 (by decide) ?_
          refine lv_icmp_lt (tgt := 162) hx hb d_MO_character_140 (by decide) (fun c_41 => ?_) (fun c_41 => ?_)
          · refine lv_iconst (v := 0) hx hb d_MO_character_162 (by decide) ?_
            refine lv_istore (lv' := [(6, .int 0), (0, .ref aM), (1, .int x1), (3, .int x3), (4, .int x4), (5, .int x5)]) hx hb d_MO_character_163 hl (by decide) rfl (fun ls hl => ?_)
            exact hKx false (by rw [hV, tw_MO_character_r98, if_pos c_21, if_neg c_36, if_neg c_37, if_pos c_38, if_pos c_41]) ls (lv_sub hl [1, 2, 4, 0] rfl)
          · refine lv_iload_n hx hb d_MO_character_143 rfl (lv_at hl 2 rfl) ?_
            refine lv_sipush (v := 244) hx hb d_MO_character_144 (by decide) ?_
            refine lv_icmp_ne (tgt := 158) hx hb d_MO_character_147 (by decide) (fun c_42 => ?_) (fun c_42 => ?_)
            · refine lv_iconst (v := 1) hx hb d_MO_character_158 (by decide) ?_
              refine lv_goto (tgt := 163) hx hb d_MO_character_159 (by decide) ?_
              refine lv_istore (lv' := [(6, .int 1), (0, .ref aM), (1, .int x1), (3, .int x3), (4, .int x4), (5, .int x5)]) hx hb d_MO_character_163 hl (by decide) rfl (fun ls hl => ?_)
              exact hKx true (by rw [hV, tw_MO_character_r98, if_pos c_21, if_neg c_36, if_neg c_37, if_pos c_38, if_neg c_41, if_neg c_42]) ls (lv_sub hl [1, 2, 4, 0] rfl)
            · refine lv_iload hx hb d_MO_character_150 (lv_at hl 4 rfl) ?_
              refine lv_sipush (v := 143) hx hb d_MO_character_152 (by decide) ?_
              refine lv_icmp_gt (tgt := 162) hx hb d_MO_character_155 (by decide) (fun c_43 => ?_) (fun c_43 => ?_)
              · refine lv_iconst (v := 0) hx hb d_MO_character_162 (by decide) ?_
                refine lv_istore (lv' := [(6, .int 0), (0, .ref aM), (1, .int x1), (3, .int x3), (4, .int x4), (5, .int x5)]) hx hb d_MO_character_163 hl (by decide) rfl (fun ls hl => ?_)
                exact hKx false (by rw [hV, tw_MO_character_r98, if_pos c_21, if_neg c_36, if_neg c_37, if_pos c_38, if_neg c_41, if_pos c_42, if_pos c_43]) ls (lv_sub hl [1, 2, 4, 0] rfl)
              · refine lv_iconst (v := 1) hx hb d_MO_character_158 (by decide) ?_
                refine lv_goto (tgt := 163) hx hb d_MO_character_159 (by decide) ?_
                refine lv_istore (lv' := [(6, .int 1), (0, .ref aM), (1, .int x1), (3, .int x3), (4, .int x4), (5, .int x5)]) hx hb d_MO_character_163 hl (by decide) rfl (fun ls hl => ?_)
                exact hKx true (by rw [hV, tw_MO_character_r98, if_pos c_21, if_neg c_36, if_neg c_37, if_pos c_38, if_neg c_41, if_pos c_42, if_neg c_43]) ls (lv_sub hl [1, 2, 4, 0] rfl)
      · refine lv_iload hx hb d_MO_character_120 (lv_at hl 4 rfl) ?_
        refine lv_sipush (v := 159) hx hb d_MO_character_122 (by decide) ?_
        refine lv_icmp_gt (tgt := 162) hx hb d_MO_character_125 (by decide) (fun c_44 => ?_) (fun c_44 => ?_)
        · refine lv_iconst (v := 0) hx hb d_MO_character_162 (by decide) ?_
          refine lv_istore (lv' := [(6, .int 0), (0, .ref aM), (1, .int x1), (3, .int x3), (4, .int x4), (5, .int x5)]) hx hb d_MO_character_163 hl (by decide) rfl (fun ls hl => ?_)
          exact hKx false (by rw [hV, tw_MO_character_r98, if_pos c_21, if_neg c_36, if_pos c_37, if_pos c_44]) ls (lv_sub hl [1, 2, 4, 0] rfl)
        · refine lv_iload_n hx hb d_MO_character_128 rfl (lv_at hl 2 rfl) ?_
          refine lv_sipush (v := 240) hx hb d_MO_character_129 (by decide) ?_
          refine lv_icmp_ne (tgt := 143) hx hb d_MO_character_132 (by decide) (fun c_45 => ?_) (fun c_45 => ?_)
          · refine lv_iload_n hx hb d_MO_character_143 rfl (lv_at hl 2 rfl) ?_
            refine lv_sipush (v := 244) hx hb d_MO_character_144 (by decide) ?_
            refine lv_icmp_ne (tgt := 158) hx hb d_MO_character_147 (by decide) (fun c_46 => ?_) (fun c_46 => ?_)
            · refine lv_iconst (v := 1) hx hb d_MO_character_158 (by decide) ?_
              refine lv_goto (tgt := 163) hx hb d_MO_character_159 (by decide) ?_
              refine lv_istore (lv' := [(6, .int 1), (0, .ref aM), (1, .int x1), (3, .int x3), (4, .int x4), (5, .int x5)]) hx hb d_MO_character_163 hl (by decide) rfl (fun ls hl => ?_)
              exact hKx true (by rw [hV, tw_MO_character_r98, if_pos c_21, if_neg c_36, if_pos c_37, if_neg c_44, if_neg c_45, if_neg c_46]) ls (lv_sub hl [1, 2, 4, 0] rfl)
            · refine lv_iload hx hb d_MO_character_150 (lv_at hl 4 rfl) ?_
              refine lv_sipush (v := 143) hx hb d_MO_character_152 (by decide) ?_
              refine lv_icmp_gt (tgt := 162) hx hb d_MO_character_155 (by decide) (fun c_47 => ?_) (fun c_47 => ?_)
              · refine lv_iconst (v := 0) hx hb d_MO_character_162 (by decide) ?_
                refine lv_istore (lv' := [(6, .int 0), (0, .ref aM), (1, .int x1), (3, .int x3), (4, .int x4), (5, .int x5)]) hx hb d_MO_character_163 hl (by decide) rfl (fun ls hl => ?_)
                exact hKx false (by rw [hV, tw_MO_character_r98, if_pos c_21, if_neg c_36, if_pos c_37, if_neg c_44, if_neg c_45, if_pos c_46, if_pos c_47]) ls (lv_sub hl [1, 2, 4, 0] rfl)
              · refine lv_iconst (v := 1) hx hb d_MO_character_158 (by decide) ?_
                refine lv_goto (tgt := 163) hx hb d_MO_character_159 (by decide) ?_
                refine lv_istore (lv' := [(6, .int 1), (0, .ref aM), (1, .int x1), (3, .int x3), (4, .int x4), (5, .int x5)]) hx hb d_MO_character_163 hl (by decide) rfl (fun ls hl => ?_)
                exact hKx true (by rw [hV, tw_MO_character_r98, if_pos c_21, if_neg c_36, if_pos c_37, if_neg c_44, if_neg c_45, if_pos c_46, if_neg c_47]) ls (lv_sub hl [1, 2, 4, 0] rfl)
          · refine lv_iload hx hb d_MO_character_135 (lv_at hl 4 rfl) ?_
            refine lv_sipush (v := 144) hx hb d_MO_character_137 (by decide) ?_
            refine lv_icmp_lt (tgt := 162) hx hb d_MO_character_140 (by decide) (fun c_48 => ?_) (fun c_48 => ?_)
            · refine lv_iconst (v := 0) hx hb d_MO_character_162 (by decide) ?_
              refine lv_istore (lv' := [(6, .int 0), (0, .ref aM), (1, .int x1), (3, .int x3), (4, .int x4), (5, .int x5)]) hx hb d_MO_character_163 hl (by decide) rfl (fun ls hl => ?_)
              exact hKx false (by rw [hV, tw_MO_character_r98, if_pos c_21, if_neg c_36, if_pos c_37, if_neg c_44, if_pos c_45, if_pos c_48]) ls (lv_sub hl [1, 2, 4, 0] rfl)
            · refine lv_iload_n hx hb d_MO_character_143 rfl (lv_at hl 2 rfl) ?_
              refine lv_sipush (v := 244) hx hb d_MO_character_144 (by decide) ?_
              refine lv_icmp_ne (tgt := 158) hx hb d_MO_character_147 (by decide) (fun c_49 => ?_) (fun c_49 => ?_)
              · refine lv_iconst (v := 1) hx hb d_MO_character_158 (by decide) ?_
                refine lv_goto (tgt := 163) hx hb d_MO_character_159 (by decide) ?_
                refine lv_istore (lv' := [(6, .int 1), (0, .ref aM), (1, .int x1), (3, .int x3), (4, .int x4), (5, .int x5)]) hx hb d_MO_character_163 hl (by decide) rfl (fun ls hl => ?_)
                exact hKx true (by rw [hV, tw_MO_character_r98, if_pos c_21, if_neg c_36, if_pos c_37, if_neg c_44, if_pos c_45, if_neg c_48, if_neg c_49]) ls (lv_sub hl [1, 2, 4, 0] rfl)
              · refine lv_iload hx hb d_MO_character_150 (lv_at hl 4 rfl) ?_
                refine lv_sipush (v := 143) hx hb d_MO_character_152 (by decide) ?_
                refine lv_icmp_gt (tgt := 162) hx hb d_MO_character_155 (by decide) (fun c_50 => ?_) (fun c_50 => ?_)
                · refine lv_iconst (v := 0) hx hb d_MO_character_162 (by decide) ?_
                  refine lv_istore (lv' := [(6, .int 0), (0, .ref aM), (1, .int x1), (3, .int x3), (4, .int x4), (5, .int x5)]) hx hb d_MO_character_163 hl (by decide) rfl (fun ls hl => ?_)
                  exact hKx false (by rw [hV, tw_MO_character_r98, if_pos c_21, if_neg c_36, if_pos c_37, if_neg c_44, if_pos c_45, if_neg c_48, if_pos c_49, if_pos c_50]) ls (lv_sub hl [1, 2, 4, 0] rfl)
                · refine lv_iconst (v := 1) hx hb d_MO_character_158 (by decide) ?_
                  refine lv_goto (tgt := 163) hx hb d_MO_character_159 (by decide) ?_
                  refine lv_istore (lv' := [(6, .int 1), (0, .ref aM), (1, .int x1), (3, .int x3), (4, .int x4), (5, .int x5)]) hx hb d_MO_character_163 hl (by decide) rfl (fun ls hl => ?_)
                  exact hKx true (by rw [hV, tw_MO_character_r98, if_pos c_21, if_neg c_36, if_pos c_37, if_neg c_44, if_pos c_45, if_neg c_48, if_pos c_49, if_neg c_50]) ls (lv_sub hl [1, 2, 4, 0] rfl)
set_option maxHeartbeats 4000000 in
set_option maxRecDepth 100000 in
theorem l_MO_character_r175 {p : Program} {e : Env} {s : State} {m : MethodId} {args : Array Value} {below : List Frame} {meth : Method} {c : Code} {V : Option (Int32)} {V0 : Int32} (C0 : lc_C p s m meth c args b_MO_character 8 (some .int) R_MO lw_g) (hs : V = some V0) (l : Launch) (D : va_G) (cB cI : ClassId) (aM aMst aMdcs aMtot aMfrm aMsiz aMffr aMfsz aMlkd aMlat aMkkd aMkat aModr aMgrp aMikd aMiat : Nat) (fu : Nat) (thr : Int32) (tpd : Int32) (frs : Int32) (frt : Int32) (top : Int32) (bgn : Int32) (mst : Int32) (ovr : Bool) (tgr : Bool) (lvs : Int32) (its : Int32) (hgh : Int64) (loo : Int64) (dfl : Bool) (st : Nat → Int32) (hP : va_P D vwCl [(aM, .inr (11, [.int thr, .ref aMst, .int tpd, .ref aMdcs, .ref aMtot, .ref aMfrm, .ref aMsiz, .int frs, .int frt, .ref aMffr, .ref aMfsz, .int top, .int bgn, .int mst, .int (b2i ovr), .int (b2i tgr), .int lvs, .ref aMlkd, .ref aMlat, .ref aMkkd, .ref aMkat, .ref aModr, .ref aMgrp, .int its, .ref aMikd, .ref aMiat, .long hgh, .long loo, .int (b2i dfl)])), (aMst, .inl (cI, 136400, .inl st))] s.heap) (hk : hk_ D cB cI s) (x1 : Int32) (x4 : Int32) (x6 : Bool) (x7 : Int32) {K : Bool → Option (Int32)} (hKx : ∀ (y6 : Bool), V = K y6 → ∀ ls : Array Slot, lv_has ls 8 [(0, .ref aM), (1, .int x1), (4, .int x4), (6, .int (b2i y6)), (7, .int x7)] → W p l e ({ frames := 0, cells := 0, slots := 0, locals := 0 }) s m args below meth c s.heap [] 0 0 (MQ below (vp_Si (fun r => r = V0)) args s 0 0 (fun _ => False)) (F0 m 216 ls [])) (hV : V = tw_MO_character_r175 fu K st x1 x4 x6 x7) : ∀ ls : Array Slot, lv_has ls 8 [(0, .ref aM), (1, .int x1), (4, .int x4), (6, .int (b2i x6)), (7, .int x7)] → W p l e ({ frames := 0, cells := 0, slots := 0, locals := 0 }) s m args below meth c s.heap [] 0 0 (MQ below (vp_Si (fun r => r = V0)) args s 0 0 (fun _ => False)) (F0 m 175 ls []) := by
  obtain ⟨hx, hb, hml, hr, hown, hlocks, hT⟩ := id C0
  have hK := hk.1
  have hN := hk.2.1
  intro ls hl
  refine lv_iload hx hb d_MO_character_175 (lv_at hl 3 rfl) ?_
  refine lv_if_eq (tgt := 213) hx hb d_MO_character_177 (by decide) (fun c_53 => ?_) (fun c_53 => ?_)
  · refine lv_iconst (v := 0) hx hb d_MO_character_213 (by decide) ?_
    refine lv_istore (lv' := [(6, .int 0), (0, .ref aM), (1, .int x1), (4, .int x4), (7, .int x7)]) hx hb d_MO_character_214 hl (by decide) rfl (fun ls hl => ?_)
    exact hKx false (by rw [hV, tw_MO_character_r175, if_pos c_53]) ls (lv_sub hl [1, 2, 3, 0, 4] rfl)
  · refine lv_aload_n hx hb d_MO_character_180 rfl (lv_at hl 0 rfl) ?_
    refine va_get (D := D) (ci := 11) (v := .ref aMst) (C := R_MO) (T := T_MO) (N := 29) hx hb hT u_MO hown hK hP 0 rfl rfl 1 (by decide) (hT _ k_1044) (fun _ h9 => h9) rfl d_MO_character_181 ?_
    refine lv_iload_n hx hb d_MO_character_184 rfl (lv_at hl 1 rfl) ?_
    refine lv_iload hx hb d_MO_character_185 (lv_at hl 4 rfl) ?_
    refine lv_iadd hx hb d_MO_character_187 ?_
    by_cases c_54 : 0 ≤ (x1 + x7) ∧ (x1 + x7) < 136400
    rotate_left
    · exact op_no hs (by rw [hV, tw_MO_character_r175, if_neg c_53, if_neg c_54])
    refine va_iald hx hb hK hP 1 1 rfl rfl (in_pp c_54.1 c_54.2 rfl) d_MO_character_188 ?_
    refine lv_bipush (v := 127) hx hb d_MO_character_189 (by decide) ?_
    refine lv_icmp_le (tgt := 213) hx hb d_MO_character_191 (by decide) (fun c_55 => ?_) (fun c_55 => ?_)
    · refine lv_iconst (v := 0) hx hb d_MO_character_213 (by decide) ?_
      refine lv_istore (lv' := [(6, .int 0), (0, .ref aM), (1, .int x1), (4, .int x4), (7, .int x7)]) hx hb d_MO_character_214 hl (by decide) rfl (fun ls hl => ?_)
      exact hKx false (by rw [hV, tw_MO_character_r175, if_neg c_53, if_pos c_54, if_pos c_55]) ls (lv_sub hl [1, 2, 3, 0, 4] rfl)
    · refine lv_aload_n hx hb d_MO_character_194 rfl (lv_at hl 0 rfl) ?_
      refine va_get (D := D) (ci := 11) (v := .ref aMst) (C := R_MO) (T := T_MO) (N := 29) hx hb hT u_MO hown hK hP 0 rfl rfl 1 (by decide) (hT _ k_1044) (fun _ h9 => h9) rfl d_MO_character_195 ?_
      refine lv_iload_n hx hb d_MO_character_198 rfl (lv_at hl 1 rfl) ?_
      refine lv_iload hx hb d_MO_character_199 (lv_at hl 4 rfl) ?_
      refine lv_iadd hx hb d_MO_character_201 ?_
      refine va_iald hx hb hK hP 1 1 rfl rfl (in_pp c_54.1 c_54.2 rfl) d_MO_character_202 ?_
      refine lv_sipush (v := 192) hx hb d_MO_character_203 (by decide) ?_
      refine lv_icmp_ge (tgt := 213) hx hb d_MO_character_206 (by decide) (fun c_56 => ?_) (fun c_56 => ?_)
      · refine lv_iconst (v := 0) hx hb d_MO_character_213 (by decide) ?_
        refine lv_istore (lv' := [(6, .int 0), (0, .ref aM), (1, .int x1), (4, .int x4), (7, .int x7)]) hx hb d_MO_character_214 hl (by decide) rfl (fun ls hl => ?_)
        exact hKx false (by rw [hV, tw_MO_character_r175, if_neg c_53, if_pos c_54, if_neg c_55, if_pos c_56]) ls (lv_sub hl [1, 2, 3, 0, 4] rfl)
      · refine lv_iconst (v := 1) hx hb d_MO_character_209 (by decide) ?_
        refine lv_goto (tgt := 214) hx hb d_MO_character_210 (by decide) ?_
        refine lv_istore (lv' := [(6, .int 1), (0, .ref aM), (1, .int x1), (4, .int x4), (7, .int x7)]) hx hb d_MO_character_214 hl (by decide) rfl (fun ls hl => ?_)
        exact hKx true (by rw [hV, tw_MO_character_r175, if_neg c_53, if_pos c_54, if_neg c_55, if_neg c_56]) ls (lv_sub hl [1, 2, 3, 0, 4] rfl)
set_option maxHeartbeats 4000000 in
set_option maxRecDepth 100000 in
theorem l_MO_character_h168 {p : Program} {e : Env} {s : State} {m : MethodId} {args : Array Value} {below : List Frame} {meth : Method} {c : Code} {V : Option (Int32)} {V0 : Int32} (C0 : lc_C p s m meth c args b_MO_character 8 (some .int) R_MO lw_g) (hs : V = some V0) (l : Launch) (D : va_G) (cB cI : ClassId) (aM aMst aMdcs aMtot aMfrm aMsiz aMffr aMfsz aMlkd aMlat aMkkd aMkat aModr aMgrp aMikd aMiat : Nat) (fu : Nat) (thr : Int32) (tpd : Int32) (frs : Int32) (frt : Int32) (top : Int32) (bgn : Int32) (mst : Int32) (ovr : Bool) (tgr : Bool) (lvs : Int32) (its : Int32) (hgh : Int64) (loo : Int64) (dfl : Bool) (st : Nat → Int32) (hP : va_P D vwCl [(aM, .inr (11, [.int thr, .ref aMst, .int tpd, .ref aMdcs, .ref aMtot, .ref aMfrm, .ref aMsiz, .int frs, .int frt, .ref aMffr, .ref aMfsz, .int top, .int bgn, .int mst, .int (b2i ovr), .int (b2i tgr), .int lvs, .ref aMlkd, .ref aMlat, .ref aMkkd, .ref aMkat, .ref aModr, .ref aMgrp, .int its, .ref aMikd, .ref aMiat, .long hgh, .long loo, .int (b2i dfl)])), (aMst, .inl (cI, 136400, .inl st))] s.heap) (hk : hk_ D cB cI s) (p0 : Int32) (x4 : Int32) {K : Bool → Int32 → Option (Int32)} (hKx : ∀ (x6 : Bool) (x7 : Int32), V = K x6 x7 → ∀ ls : Array Slot, lv_has ls 8 [(4, .int x4), (6, .int (b2i x6))] → W p l e ({ frames := 0, cells := 0, slots := 0, locals := 0 }) s m args below meth c s.heap [] 0 0 (MQ below (vp_Si (fun r => r = V0)) args s 0 0 (fun _ => False)) (F0 m 222 ls [])) : ∀ (n : Nat) (x6 : Bool) (x7 : Int32), V = tw_MO_character_h168 fu K st p0 x4 n x6 x7 → ∀ ls : Array Slot, lv_has ls 8 [(0, .ref aM), (1, .int p0), (4, .int x4), (6, .int (b2i x6)), (7, .int x7)] → W p l e ({ frames := 0, cells := 0, slots := 0, locals := 0 }) s m args below meth c s.heap [] 0 0 (MQ below (vp_Si (fun r => r = V0)) args s 0 0 (fun _ => False)) (F0 m 168 ls []) := by
  obtain ⟨hx, hb, hml, hr, hown, hlocks, hT⟩ := id C0
  have hK := hk.1
  have hN := hk.2.1
  intro n
  induction n with
  | zero =>
    intro x6 x7 hV
    exact op_no hs (hV.trans rfl)
  | succ n ih =>
    intro x6 x7 hV ls hl
    refine lv_iload hx hb d_MO_character_168 (lv_at hl 4 rfl) ?_
    refine lv_iload hx hb d_MO_character_170 (lv_at hl 2 rfl) ?_
    refine lv_icmp_ge (tgt := 222) hx hb d_MO_character_172 (by decide) (fun c_52 => ?_) (fun c_52 => ?_)
    · exact hKx x6 x7 (by rw [hV, tw_MO_character_h168, if_pos c_52]) ls (lv_sub hl [2, 3] rfl)
    · refine l_MO_character_r175 C0 hs l D cB cI aM aMst aMdcs aMtot aMfrm aMsiz aMffr aMfsz aMlkd aMlat aMkkd aMkat aModr aMgrp aMikd aMiat fu thr tpd frs frt top bgn mst ovr tgr lvs its hgh loo dfl st hP hk p0 x4 x6 x7 (K := (fun (y6_57 : Bool) =>
          tw_MO_character_h168 fu K st p0 x4 n y6_57 (x7 + 1))) ?_ (by rw [hV, tw_MO_character_h168, if_neg c_52]) ls (lv_sub hl [0, 1, 2, 3, 4] rfl)
      intro y6_57 hV_57 ls hl
      refine lv_iinc (v := x7 + 1) (lv' := [(7, .int (x7 + 1)), (0, .ref aM), (1, .int p0), (4, .int x4), (6, .int (b2i y6_57))]) hx hb d_MO_character_216 hl (k := 4) rfl rfl (by decide) rfl (fun ls hl => ?_)
      refine lv_goto (tgt := 168) hx hb d_MO_character_219 (by decide) ?_
      exact ih y6_57 (x7 + 1) (by rw [hV_57]) ls (lv_sub hl [1, 2, 3, 4, 0] rfl)
set_option maxHeartbeats 4000000 in
set_option maxRecDepth 100000 in
theorem c_MO_character (l : Launch) (D : va_G) (cB cI : ClassId) (aM aMst aMdcs aMtot aMfrm aMsiz aMffr aMfsz aMlkd aMlat aMkkd aMkat aModr aMgrp aMikd aMiat : Nat) (fu : Nat) (thr : Int32) (tpd : Int32) (frs : Int32) (frt : Int32) (top : Int32) (bgn : Int32) (mst : Int32) (ovr : Bool) (tgr : Bool) (lvs : Int32) (its : Int32) (hgh : Int64) (loo : Int64) (dfl : Bool) (st : Nat → Int32) (p0 : Int32) (p1 : Int32) (V0 : Int32) (hs : tw_MO_character fu st p0 p1 = some V0) : Met l y_MO_character mw_MO_character { frames := 0, cells := 0, slots := 0, locals := 0 } (va_Pc [.ref aM, .int p0, .int p1] (fun U => va_P D vwCl [(aM, .inr (11, [.int thr, .ref aMst, .int tpd, .ref aMdcs, .ref aMtot, .ref aMfrm, .ref aMsiz, .int frs, .int frt, .ref aMffr, .ref aMfsz, .int top, .int bgn, .int mst, .int (b2i ovr), .int (b2i tgr), .int lvs, .ref aMlkd, .ref aMlat, .ref aMkkd, .ref aMkat, .ref aModr, .ref aMgrp, .int its, .ref aMikd, .ref aMiat, .long hgh, .long loo, .int (b2i dfl)])), (aMst, .inl (cI, 136400, .inl st))] U.heap ∧ hk_ D cB cI U)) (vp_Si (fun r => r = V0)) 0 0 (fun _ => False) := by
  refine Met.ofW (cc := b_MO_character) (maxL := 8) (ret := (some .int)) (by decide) rfl ?_
  intro p e s m args below meth c s₁ B0 hml hv
  obtain ⟨rfl, hP, hk⟩ := hv
  have hK := hk.1
  have hN := hk.2.1
  have hx := B0.exec
  have hb := B0.bytes
  have hr := B0.returns
  have hT : ∀ w ∈ lw_g, w.before _ s = true := fun w h => atoms_spec (ws := mw_MO_character) B0.pre w (List.mem_cons_of_mem _ h)
  have hown : s.vm.findClass R_MO = some m.cls := findClass_of_methodNamed B0.named
  have hlocks := B0.notSynchronized
  have hl := lv_entry ([.ref aM, .int p0, .int p1]) (n := 8) (Nat.le_of_ble_eq_true rfl)
  rw [lg_entry_eq]
  generalize (lg_sl ([.ref aM, .int p0, .int p1]) ++ List.replicate (8 - (lg_sl ([.ref aM, .int p0, .int p1])).length) Slot.unset).toArray = ls at hl ⊢
  have hl : lv_has ls 8 [(0, .ref aM), (1, .int p0), (2, .int p1)] := hl
  have C0 : lc_C p s m meth c _ b_MO_character 8 (some .int) R_MO lw_g := ⟨hx, hb, hml, hr, hown, hlocks, hT⟩
  refine lv_aload_n hx hb d_MO_character_0 rfl (lv_at hl 0 rfl) ?_
  refine va_get (D := D) (ci := 11) (v := .ref aMst) (C := R_MO) (T := T_MO) (N := 29) hx hb hT u_MO hown hK hP 0 rfl rfl 1 (by decide) (hT _ k_1044) (fun _ h9 => h9) rfl d_MO_character_1 ?_
  refine lv_iload_n hx hb d_MO_character_4 rfl (lv_at hl 1 rfl) ?_
  by_cases c_1 : 0 ≤ p0 ∧ p0 < 136400
  rotate_left
  · exact op_no hs (by rw [tw_MO_character, if_neg c_1])
  refine va_iald hx hb hK hP 1 1 rfl rfl (in_pp c_1.1 c_1.2 rfl) d_MO_character_5 ?_
  refine lv_istore_n (lv' := [(3, .int (st p0.toNatClampNeg)), (0, .ref aM), (1, .int p0), (2, .int p1)]) hx hb d_MO_character_6 rfl hl (by decide) rfl (fun ls hl => ?_)
  refine lv_iload_n hx hb d_MO_character_7 rfl (lv_at hl 0 rfl) ?_
  refine lv_sipush (v := 128) hx hb d_MO_character_8 (by decide) ?_
  refine lv_icmp_ge (tgt := 16) hx hb d_MO_character_11 (by decide) (fun c_2 => ?_) (fun c_2 => ?_)
  · refine l_MO_character_r16 C0 hs l D cB cI aM aMst aMdcs aMtot aMfrm aMsiz aMffr aMfsz aMlkd aMlat aMkkd aMkat aModr aMgrp aMikd aMiat fu thr tpd frs frt top bgn mst ovr tgr lvs its hgh loo dfl st hP hk p0 p1 (st p0.toNatClampNeg) (K := (fun (y4_17 : Int32) =>
        if y4_17 = 0 then
          some 0
        else
          if (p0 + y4_17) ≤ p1 then
            if 0 ≤ (p0 + 1) ∧ (p0 + 1) < 136400 then
              tw_MO_character_r98 fu (fun (y6_51 : Bool) =>
            tw_MO_character_h168 fu (fun (x6_58 : Bool) (x7_58 : Int32) =>
            if (b2i x6_58) = 0 then
              some 0
            else
              some y4_17) st p0 y4_17 fu y6_51 1) st p0 (st p0.toNatClampNeg) y4_17 (st (p0 + 1).toNatClampNeg)
            else
              none
          else
            some 0)) ?_ (by rw [tw_MO_character, if_pos c_1, if_pos c_2]) ls (lv_sub hl [1, 2, 3, 0] rfl)
    intro y4_17 hV_17 ls hl
    refine lv_iload hx hb d_MO_character_73 (lv_at hl 4 rfl) ?_
    refine lv_if_eq (tgt := 86) hx hb d_MO_character_75 (by decide) (fun c_18 => ?_) (fun c_18 => ?_)
    · refine lv_iconst (v := 0) hx hb d_MO_character_86 (by decide) ?_
      exact W.iret (v := 0) hx hb hr (fun t ht hW => ⟨0, rfl, (op_eq hs (by rw [hV_17, if_pos c_18])), ht⟩) (fun _ h => by cases h) d_MO_character_87
    · refine lv_iload_n hx hb d_MO_character_78 rfl (lv_at hl 1 rfl) ?_
      refine lv_iload hx hb d_MO_character_79 (lv_at hl 4 rfl) ?_
      refine lv_iadd hx hb d_MO_character_81 ?_
      refine lv_iload_n hx hb d_MO_character_82 rfl (lv_at hl 2 rfl) ?_
      refine lv_icmp_le (tgt := 88) hx hb d_MO_character_83 (by decide) (fun c_19 => ?_) (fun c_19 => ?_)
      · refine lv_aload_n hx hb d_MO_character_88 rfl (lv_at hl 0 rfl) ?_
        refine va_get (D := D) (ci := 11) (v := .ref aMst) (C := R_MO) (T := T_MO) (N := 29) hx hb hT u_MO hown hK hP 0 rfl rfl 1 (by decide) (hT _ k_1044) (fun _ h9 => h9) rfl d_MO_character_89 ?_
        refine lv_iload_n hx hb d_MO_character_92 rfl (lv_at hl 1 rfl) ?_
        refine lv_iconst (v := 1) hx hb d_MO_character_93 (by decide) ?_
        refine lv_iadd hx hb d_MO_character_94 ?_
        by_cases c_20 : 0 ≤ (p0 + 1) ∧ (p0 + 1) < 136400
        rotate_left
        · exact op_no hs (by rw [hV_17, if_neg c_18, if_pos c_19, if_neg c_20])
        refine va_iald hx hb hK hP 1 1 rfl rfl (in_pp c_20.1 c_20.2 rfl) d_MO_character_95 ?_
        refine lv_istore (lv' := [(5, .int (st (p0 + 1).toNatClampNeg)), (0, .ref aM), (1, .int p0), (2, .int p1), (3, .int (st p0.toNatClampNeg)), (4, .int y4_17)]) hx hb d_MO_character_96 hl (by decide) rfl (fun ls hl => ?_)
        refine l_MO_character_r98 C0 hs l D cB cI aM aMst aMdcs aMtot aMfrm aMsiz aMffr aMfsz aMlkd aMlat aMkkd aMkat aModr aMgrp aMikd aMiat fu thr tpd frs frt top bgn mst ovr tgr lvs its hgh loo dfl st hP hk p0 (st p0.toNatClampNeg) y4_17 (st (p0 + 1).toNatClampNeg) (K := (fun (y6_51 : Bool) =>
            tw_MO_character_h168 fu (fun (x6_58 : Bool) (x7_58 : Int32) =>
            if (b2i x6_58) = 0 then
              some 0
            else
              some y4_17) st p0 y4_17 fu y6_51 1)) ?_ (by rw [hV_17, if_neg c_18, if_pos c_19, if_pos c_20]) ls (lv_sub hl [1, 2, 4, 5, 0] rfl)
        intro y6_51 hV_51 ls hl
        refine lv_iconst (v := 1) hx hb d_MO_character_165 (by decide) ?_
        refine lv_istore (lv' := [(7, .int 1), (0, .ref aM), (1, .int p0), (4, .int y4_17), (6, .int (b2i y6_51))]) hx hb d_MO_character_166 hl (by decide) rfl (fun ls hl => ?_)
        refine l_MO_character_h168 C0 hs l D cB cI aM aMst aMdcs aMtot aMfrm aMsiz aMffr aMfsz aMlkd aMlat aMkkd aMkat aModr aMgrp aMikd aMiat fu thr tpd frs frt top bgn mst ovr tgr lvs its hgh loo dfl st hP hk p0 y4_17  (K := (fun (x6_58 : Bool) (x7_58 : Int32) =>
            if (b2i x6_58) = 0 then
              some 0
            else
              some y4_17)) ?_ fu y6_51 1  (by rw [hV_51]) ls (lv_sub hl [1, 2, 3, 4, 0] rfl)
        intro x6_58 x7_58 hV_58 ls hl
        refine lv_iload hx hb d_MO_character_222 (lv_at hl 1 rfl) ?_
        refine lv_if_eq (tgt := 232) hx hb d_MO_character_224 (by decide) (fun c_59 => ?_) (fun c_59 => ?_)
        · refine lv_iconst (v := 0) hx hb d_MO_character_232 (by decide) ?_
          exact W.iret (v := 0) hx hb hr (fun t ht hW => ⟨0, rfl, (op_eq hs (by rw [hV_58, if_pos c_59])), ht⟩) (fun _ h => by cases h) d_MO_character_233
        · refine lv_iload hx hb d_MO_character_227 (lv_at hl 0 rfl) ?_
          refine lv_goto (tgt := 233) hx hb d_MO_character_229 (by decide) ?_
          exact W.iret (v := y4_17) hx hb hr (fun t ht hW => ⟨y4_17, rfl, (op_eq hs (by rw [hV_58, if_neg c_59])), ht⟩) (fun _ h => by cases h) d_MO_character_233
      · refine lv_iconst (v := 0) hx hb d_MO_character_86 (by decide) ?_
        exact W.iret (v := 0) hx hb hr (fun t ht hW => ⟨0, rfl, (op_eq hs (by rw [hV_17, if_neg c_18, if_neg c_19])), ht⟩) (fun _ h => by cases h) d_MO_character_87
  · refine lv_iconst (v := 1) hx hb d_MO_character_14 (by decide) ?_
    exact W.iret (v := 1) hx hb hr (fun t ht hW => ⟨1, rfl, (op_eq hs (by rw [tw_MO_character, if_pos c_1, if_neg c_2])), ht⟩) (fun _ h => by cases h) d_MO_character_15
set_option maxHeartbeats 4000000 in
set_option maxRecDepth 100000 in
theorem l_MO_isRightText_h5 {p : Program} {e : Env} {s : State} {m : MethodId} {args : Array Value} {below : List Frame} {meth : Method} {c : Code} {V : Option (Bool)} {V0 : Bool} (C0 : lc_C p s m meth c args b_MO_isRightText 5 (some .boolean) R_MO lw_g) (hs : V = some V0) (l : Launch) (D : va_G) (cB cI : ClassId) (aM aMst aMdcs aMtot aMfrm aMsiz aMffr aMfsz aMlkd aMlat aMkkd aMkat aModr aMgrp aMikd aMiat : Nat) (fu : Nat) (thr : Int32) (tpd : Int32) (frs : Int32) (frt : Int32) (top : Int32) (bgn : Int32) (mst : Int32) (ovr : Bool) (tgr : Bool) (lvs : Int32) (its : Int32) (hgh : Int64) (loo : Int64) (dfl : Bool) (st : Nat → Int32) (hP : va_P D vwCl [(aM, .inr (11, [.int thr, .ref aMst, .int tpd, .ref aMdcs, .ref aMtot, .ref aMfrm, .ref aMsiz, .int frs, .int frt, .ref aMffr, .ref aMfsz, .int top, .int bgn, .int mst, .int (b2i ovr), .int (b2i tgr), .int lvs, .ref aMlkd, .ref aMlat, .ref aMkkd, .ref aMkat, .ref aModr, .ref aMgrp, .int its, .ref aMikd, .ref aMiat, .long hgh, .long loo, .int (b2i dfl)])), (aMst, .inl (cI, 136400, .inl st))] s.heap) (hk : hk_ D cB cI s) (p1 : Int32) {K : Int32 → Int32 → Option (Bool)} (hKx : ∀ (x3 : Int32) (x4 : Int32), V = K x3 x4 → ∀ ls : Array Slot, lv_has ls 5 [(2, .int p1), (3, .int x3)] → W p l e ({ frames := 1, cells := 0, slots := 0, locals := 27 }) s m args below meth c s.heap [] 0 0 (MQ below (vp_Si (fun r => r = b2i V0)) args s 0 0 (fun _ => False)) (F0 m 31 ls [])) : ∀ (n : Nat) (x3 : Int32) (x4 : Int32), V = tw_MO_isRightText_h5 fu K st p1 n x3 x4 → ∀ ls : Array Slot, lv_has ls 5 [(0, .ref aM), (2, .int p1), (3, .int x3), (4, .int x4)] → W p l e ({ frames := 1, cells := 0, slots := 0, locals := 27 }) s m args below meth c s.heap [] 0 0 (MQ below (vp_Si (fun r => r = b2i V0)) args s 0 0 (fun _ => False)) (F0 m 5 ls []) := by
  obtain ⟨hx, hb, hml, hr, hown, hlocks, hT⟩ := id C0
  have hK := hk.1
  have hN := hk.2.1
  intro n
  induction n with
  | zero =>
    intro x3 x4 hV
    exact op_no hs (hV.trans rfl)
  | succ n ih =>
    intro x3 x4 hV ls hl
    refine lv_iload_n hx hb d_MO_isRightText_5 rfl (lv_at hl 2 rfl) ?_
    refine lv_iload_n hx hb d_MO_isRightText_6 rfl (lv_at hl 1 rfl) ?_
    refine lv_icmp_ge (tgt := 31) hx hb d_MO_isRightText_7 (by decide) (fun c_1 => ?_) (fun c_1 => ?_)
    · exact hKx x3 x4 (by rw [hV, tw_MO_isRightText_h5, if_pos c_1]) ls (lv_sub hl [1, 2] rfl)
    · refine lv_iload hx hb d_MO_isRightText_10 (lv_at hl 3 rfl) ?_
      refine lv_if_le (tgt := 31) hx hb d_MO_isRightText_12 (by decide) (fun c_2 => ?_) (fun c_2 => ?_)
      · exact hKx x3 x4 (by rw [hV, tw_MO_isRightText_h5, if_neg c_1, if_pos c_2]) ls (lv_sub hl [1, 2] rfl)
      · refine lv_aload_n hx hb d_MO_isRightText_15 rfl (lv_at hl 0 rfl) ?_
        refine lv_iload_n hx hb d_MO_isRightText_16 rfl (lv_at hl 2 rfl) ?_
        refine lv_iload_n hx hb d_MO_isRightText_17 rfl (lv_at hl 1 rfl) ?_
        rcases h_3 : tw_MO_character fu st x3 p1 with _ | r_3
        · exact op_no hs (by rw [hV, tw_MO_isRightText_h5, if_neg c_1, if_neg c_2, h_3, ob1_no])
        refine rd_V (val := r_3) (As := [.int x3, .int p1]) (rest := []) ⟨hx, hb, hml, hown, hT⟩ (c_MO_character l D cB cI aM aMst aMdcs aMtot aMfrm aMsiz aMffr aMfsz aMlkd aMlat aMkkd aMkat aModr aMgrp aMikd aMiat fu thr tpd frs frt top bgn mst ovr tgr lvs its hgh loo dfl st x3 p1 r_3 h_3) (cwV 2 hT (gV_of k_1166 k_1168 kp_MO_character k_12 kc_MO_character) rfl rfl rfl hd_MO_character ⟨Nat.le_of_ble_eq_true rfl, Nat.le_of_ble_eq_true rfl⟩) hk hP (q0 := 0) rfl rfl rfl rfl hl.1 rfl (Nat.le_of_ble_eq_true rfl) d_MO_isRightText_18 ⟨Nat.zero_le _, Nat.zero_le _⟩ ?_
        refine lv_istore (lv' := [(4, .int r_3), (0, .ref aM), (2, .int p1), (3, .int x3)]) hx hb d_MO_isRightText_21 hl (by decide) rfl (fun ls hl => ?_)
        refine lv_iload_n hx hb d_MO_isRightText_23 rfl (lv_at hl 3 rfl) ?_
        refine lv_iload hx hb d_MO_isRightText_24 (lv_at hl 0 rfl) ?_
        refine lv_iadd hx hb d_MO_isRightText_26 ?_
        refine lv_istore_n (lv' := [(3, .int (x3 + r_3)), (4, .int r_3), (0, .ref aM), (2, .int p1)]) hx hb d_MO_isRightText_27 rfl hl (by decide) rfl (fun ls hl => ?_)
        refine lv_goto (tgt := 5) hx hb d_MO_isRightText_28 (by decide) ?_
        exact ih (x3 + r_3) r_3 (by rw [hV, tw_MO_isRightText_h5, if_neg c_1, if_neg c_2, h_3, ob1_mk]) ls (lv_sub hl [2, 3, 0, 1] rfl)
set_option maxHeartbeats 4000000 in
set_option maxRecDepth 100000 in
theorem c_MO_isRightText (l : Launch) (D : va_G) (cB cI : ClassId) (aM aMst aMdcs aMtot aMfrm aMsiz aMffr aMfsz aMlkd aMlat aMkkd aMkat aModr aMgrp aMikd aMiat : Nat) (fu : Nat) (thr : Int32) (tpd : Int32) (frs : Int32) (frt : Int32) (top : Int32) (bgn : Int32) (mst : Int32) (ovr : Bool) (tgr : Bool) (lvs : Int32) (its : Int32) (hgh : Int64) (loo : Int64) (dfl : Bool) (st : Nat → Int32) (p0 : Int32) (p1 : Int32) (V0 : Bool) (hs : tw_MO_isRightText fu st p0 p1 = some V0) : Met l y_MO_isRightText mw_MO_isRightText { frames := 1, cells := 0, slots := 0, locals := 27 } (va_Pc [.ref aM, .int p0, .int p1] (fun U => va_P D vwCl [(aM, .inr (11, [.int thr, .ref aMst, .int tpd, .ref aMdcs, .ref aMtot, .ref aMfrm, .ref aMsiz, .int frs, .int frt, .ref aMffr, .ref aMfsz, .int top, .int bgn, .int mst, .int (b2i ovr), .int (b2i tgr), .int lvs, .ref aMlkd, .ref aMlat, .ref aMkkd, .ref aMkat, .ref aModr, .ref aMgrp, .int its, .ref aMikd, .ref aMiat, .long hgh, .long loo, .int (b2i dfl)])), (aMst, .inl (cI, 136400, .inl st))] U.heap ∧ hk_ D cB cI U)) (vp_Si (fun r => r = b2i V0)) 0 0 (fun _ => False) := by
  refine Met.ofW (cc := b_MO_isRightText) (maxL := 5) (ret := (some .boolean)) (by decide) rfl ?_
  intro p e s m args below meth c s₁ B0 hml hv
  obtain ⟨rfl, hP, hk⟩ := hv
  have hK := hk.1
  have hN := hk.2.1
  have hx := B0.exec
  have hb := B0.bytes
  have hr := B0.returns
  have hT : ∀ w ∈ lw_g, w.before _ s = true := fun w h => atoms_spec (ws := mw_MO_isRightText) B0.pre w (List.mem_cons_of_mem _ h)
  have hown : s.vm.findClass R_MO = some m.cls := findClass_of_methodNamed B0.named
  have hlocks := B0.notSynchronized
  have hl := lv_entry ([.ref aM, .int p0, .int p1]) (n := 5) (Nat.le_of_ble_eq_true rfl)
  rw [lg_entry_eq]
  generalize (lg_sl ([.ref aM, .int p0, .int p1]) ++ List.replicate (5 - (lg_sl ([.ref aM, .int p0, .int p1])).length) Slot.unset).toArray = ls at hl ⊢
  have hl : lv_has ls 5 [(0, .ref aM), (1, .int p0), (2, .int p1)] := hl
  have C0 : lc_C p s m meth c _ b_MO_isRightText 5 (some .boolean) R_MO lw_g := ⟨hx, hb, hml, hr, hown, hlocks, hT⟩
  refine lv_iload_n hx hb d_MO_isRightText_0 rfl (lv_at hl 1 rfl) ?_
  refine lv_istore_n (lv' := [(3, .int p0), (0, .ref aM), (1, .int p0), (2, .int p1)]) hx hb d_MO_isRightText_1 rfl hl (by decide) rfl (fun ls hl => ?_)
  refine lv_iconst (v := 1) hx hb d_MO_isRightText_2 (by decide) ?_
  refine lv_istore (lv' := [(4, .int 1), (3, .int p0), (0, .ref aM), (1, .int p0), (2, .int p1)]) hx hb d_MO_isRightText_3 hl (by decide) rfl (fun ls hl => ?_)
  refine l_MO_isRightText_h5 C0 hs l D cB cI aM aMst aMdcs aMtot aMfrm aMsiz aMffr aMfsz aMlkd aMlat aMkkd aMkat aModr aMgrp aMikd aMiat fu thr tpd frs frt top bgn mst ovr tgr lvs its hgh loo dfl st hP hk p1  (K := (fun (x3_4 : Int32) (x4_4 : Int32) =>
      if x3_4 = p1 then
        some true
      else
        some false)) ?_ fu p0 1  (by rw [tw_MO_isRightText]) ls (lv_sub hl [2, 4, 1, 0] rfl)
  intro x3_4 x4_4 hV_4 ls hl
  refine lv_iload_n hx hb d_MO_isRightText_31 rfl (lv_at hl 1 rfl) ?_
  refine lv_iload_n hx hb d_MO_isRightText_32 rfl (lv_at hl 0 rfl) ?_
  refine lv_icmp_ne (tgt := 40) hx hb d_MO_isRightText_33 (by decide) (fun c_5 => ?_) (fun c_5 => ?_)
  · refine lv_iconst (v := 0) hx hb d_MO_isRightText_40 (by decide) ?_
    exact W.zret (v := 0) (ty := .boolean) hx hb hr (rfl) (fun t ht hW => ⟨0, rfl, (op_b (x := false) hs (by rw [hV_4, if_neg c_5])), ht⟩) (fun _ h => by cases h) d_MO_isRightText_41
  · refine lv_iconst (v := 1) hx hb d_MO_isRightText_36 (by decide) ?_
    refine lv_goto (tgt := 41) hx hb d_MO_isRightText_37 (by decide) ?_
    exact W.zret (v := 1) (ty := .boolean) hx hb hr (rfl) (fun t ht hW => ⟨1, rfl, (op_b (x := true) hs (by rw [hV_4, if_pos c_5])), ht⟩) (fun _ h => by cases h) d_MO_isRightText_41
set_option maxHeartbeats 4000000 in
set_option maxRecDepth 100000 in
theorem l_MO_isNumber_r8 {p : Program} {e : Env} {s : State} {m : MethodId} {args : Array Value} {below : List Frame} {meth : Method} {c : Code} {V : Option (Bool)} {V0 : Bool} (C0 : lc_C p s m meth c args b_MO_isNumber 7 (some .boolean) R_MO lw_g) (hs : V = some V0) (l : Launch) (D : va_G) (cB cI : ClassId) (aM aMst aMdcs aMtot aMfrm aMsiz aMffr aMfsz aMlkd aMlat aMkkd aMkat aModr aMgrp aMikd aMiat : Nat) (fu : Nat) (thr : Int32) (tpd : Int32) (frs : Int32) (frt : Int32) (top : Int32) (bgn : Int32) (mst : Int32) (ovr : Bool) (tgr : Bool) (lvs : Int32) (its : Int32) (hgh : Int64) (loo : Int64) (dfl : Bool) (st : Nat → Int32) (hP : va_P D vwCl [(aM, .inr (11, [.int thr, .ref aMst, .int tpd, .ref aMdcs, .ref aMtot, .ref aMfrm, .ref aMsiz, .int frs, .int frt, .ref aMffr, .ref aMfsz, .int top, .int bgn, .int mst, .int (b2i ovr), .int (b2i tgr), .int lvs, .ref aMlkd, .ref aMlat, .ref aMkkd, .ref aMkat, .ref aModr, .ref aMgrp, .int its, .ref aMikd, .ref aMiat, .long hgh, .long loo, .int (b2i dfl)])), (aMst, .inl (cI, 136400, .inl st))] s.heap) (hk : hk_ D cB cI s) (x1 : Int32) (x2 : Int32) (x4 : Int32) (x5 : Int32) {K : Bool → Option (Bool)} (hKx : ∀ (y6 : Bool), V = K y6 → ∀ ls : Array Slot, lv_has ls 7 [(0, .ref aM), (1, .int x1), (2, .int x2), (4, .int x4), (5, .int x5), (6, .int (b2i y6))] → W p l e ({ frames := 0, cells := 0, slots := 0, locals := 0 }) s m args below meth c s.heap [] 0 0 (MQ below (vp_Si (fun r => r = b2i V0)) args s 0 0 (fun _ => False)) (F0 m 21 ls [])) (hV : V = tw_MO_isNumber_r8 fu K st x1 x2 x4 x5) : ∀ ls : Array Slot, lv_has ls 7 [(0, .ref aM), (1, .int x1), (2, .int x2), (4, .int x4), (5, .int x5)] → W p l e ({ frames := 0, cells := 0, slots := 0, locals := 0 }) s m args below meth c s.heap [] 0 0 (MQ below (vp_Si (fun r => r = b2i V0)) args s 0 0 (fun _ => False)) (F0 m 8 ls []) := by
  obtain ⟨hx, hb, hml, hr, hown, hlocks, hT⟩ := id C0
  have hK := hk.1
  have hN := hk.2.1
  intro ls hl
  refine lv_iload hx hb d_MO_isNumber_8 (lv_at hl 4 rfl) ?_
  refine lv_iload_n hx hb d_MO_isNumber_10 rfl (lv_at hl 1 rfl) ?_
  refine lv_icmp_lt (tgt := 18) hx hb d_MO_isNumber_11 (by decide) (fun c_1 => ?_) (fun c_1 => ?_)
  · refine lv_iconst (v := 0) hx hb d_MO_isNumber_18 (by decide) ?_
    refine lv_istore (lv' := [(6, .int 0), (0, .ref aM), (1, .int x1), (2, .int x2), (4, .int x4), (5, .int x5)]) hx hb d_MO_isNumber_19 hl (by decide) rfl (fun ls hl => ?_)
    exact hKx false (by rw [hV, tw_MO_isNumber_r8, if_pos c_1]) ls (lv_sub hl [1, 2, 3, 4, 5, 0] rfl)
  · refine lv_iconst (v := 1) hx hb d_MO_isNumber_14 (by decide) ?_
    refine lv_goto (tgt := 19) hx hb d_MO_isNumber_15 (by decide) ?_
    refine lv_istore (lv' := [(6, .int 1), (0, .ref aM), (1, .int x1), (2, .int x2), (4, .int x4), (5, .int x5)]) hx hb d_MO_isNumber_19 hl (by decide) rfl (fun ls hl => ?_)
    exact hKx true (by rw [hV, tw_MO_isNumber_r8, if_neg c_1]) ls (lv_sub hl [1, 2, 3, 4, 5, 0] rfl)
set_option maxHeartbeats 4000000 in
set_option maxRecDepth 100000 in
theorem l_MO_isNumber_r32 {p : Program} {e : Env} {s : State} {m : MethodId} {args : Array Value} {below : List Frame} {meth : Method} {c : Code} {V : Option (Bool)} {V0 : Bool} (C0 : lc_C p s m meth c args b_MO_isNumber 7 (some .boolean) R_MO lw_g) (hs : V = some V0) (l : Launch) (D : va_G) (cB cI : ClassId) (aM aMst aMdcs aMtot aMfrm aMsiz aMffr aMfsz aMlkd aMlat aMkkd aMkat aModr aMgrp aMikd aMiat : Nat) (fu : Nat) (thr : Int32) (tpd : Int32) (frs : Int32) (frt : Int32) (top : Int32) (bgn : Int32) (mst : Int32) (ovr : Bool) (tgr : Bool) (lvs : Int32) (its : Int32) (hgh : Int64) (loo : Int64) (dfl : Bool) (st : Nat → Int32) (hP : va_P D vwCl [(aM, .inr (11, [.int thr, .ref aMst, .int tpd, .ref aMdcs, .ref aMtot, .ref aMfrm, .ref aMsiz, .int frs, .int frt, .ref aMffr, .ref aMfsz, .int top, .int bgn, .int mst, .int (b2i ovr), .int (b2i tgr), .int lvs, .ref aMlkd, .ref aMlat, .ref aMkkd, .ref aMkat, .ref aModr, .ref aMgrp, .int its, .ref aMikd, .ref aMiat, .long hgh, .long loo, .int (b2i dfl)])), (aMst, .inl (cI, 136400, .inl st))] s.heap) (hk : hk_ D cB cI s) (x1 : Int32) (x2 : Int32) (x4 : Int32) (x5 : Int32) {K : Bool → Option (Bool)} (hKx : ∀ (y6 : Bool), V = K y6 → ∀ ls : Array Slot, lv_has ls 7 [(0, .ref aM), (1, .int x1), (2, .int x2), (4, .int x4), (5, .int x5), (6, .int (b2i y6))] → W p l e ({ frames := 0, cells := 0, slots := 0, locals := 0 }) s m args below meth c s.heap [] 0 0 (MQ below (vp_Si (fun r => r = b2i V0)) args s 0 0 (fun _ => False)) (F0 m 70 ls [])) (hV : V = tw_MO_isNumber_r32 fu K st x1 x2 x4 x5) : ∀ ls : Array Slot, lv_has ls 7 [(0, .ref aM), (1, .int x1), (2, .int x2), (4, .int x4), (5, .int x5)] → W p l e ({ frames := 0, cells := 0, slots := 0, locals := 0 }) s m args below meth c s.heap [] 0 0 (MQ below (vp_Si (fun r => r = b2i V0)) args s 0 0 (fun _ => False)) (F0 m 32 ls []) := by
  obtain ⟨hx, hb, hml, hr, hown, hlocks, hT⟩ := id C0
  have hK := hk.1
  have hN := hk.2.1
  intro ls hl
  refine lv_aload_n hx hb d_MO_isNumber_32 rfl (lv_at hl 0 rfl) ?_
  refine va_get (D := D) (ci := 11) (v := .ref aMst) (C := R_MO) (T := T_MO) (N := 29) hx hb hT u_MO hown hK hP 0 rfl rfl 1 (by decide) (hT _ k_1044) (fun _ h9 => h9) rfl d_MO_isNumber_33 ?_
  refine lv_iload hx hb d_MO_isNumber_36 (lv_at hl 4 rfl) ?_
  by_cases c_9 : 0 ≤ x5 ∧ x5 < 136400
  rotate_left
  · exact op_no hs (by rw [hV, tw_MO_isNumber_r32, if_neg c_9])
  refine va_iald hx hb hK hP 1 1 rfl rfl (in_pp c_9.1 c_9.2 rfl) d_MO_isNumber_38 ?_
  refine lv_bipush (v := 48) hx hb d_MO_isNumber_39 (by decide) ?_
  refine lv_iload hx hb d_MO_isNumber_41 (lv_at hl 3 rfl) ?_
  refine lv_bipush (v := 10) hx hb d_MO_isNumber_43 (by decide) ?_
  refine lv_irem hx hb d_MO_isNumber_45 (by decide) ?_
  refine lv_iadd hx hb d_MO_isNumber_46 ?_
  refine lv_icmp_ne (tgt := 67) hx hb d_MO_isNumber_47 (by decide) (fun c_10 => ?_) (fun c_10 => ?_)
  · refine lv_iconst (v := 0) hx hb d_MO_isNumber_67 (by decide) ?_
    refine lv_istore (lv' := [(6, .int 0), (0, .ref aM), (1, .int x1), (2, .int x2), (4, .int x4), (5, .int x5)]) hx hb d_MO_isNumber_68 hl (by decide) rfl (fun ls hl => ?_)
    exact hKx false (by rw [hV, tw_MO_isNumber_r32, if_pos c_9, if_neg c_10]) ls (lv_sub hl [1, 2, 3, 4, 5, 0] rfl)
  · refine lv_iload hx hb d_MO_isNumber_50 (lv_at hl 3 rfl) ?_
    refine lv_if_gt (tgt := 63) hx hb d_MO_isNumber_52 (by decide) (fun c_11 => ?_) (fun c_11 => ?_)
    · refine lv_iconst (v := 1) hx hb d_MO_isNumber_63 (by decide) ?_
      refine lv_goto (tgt := 68) hx hb d_MO_isNumber_64 (by decide) ?_
      refine lv_istore (lv' := [(6, .int 1), (0, .ref aM), (1, .int x1), (2, .int x2), (4, .int x4), (5, .int x5)]) hx hb d_MO_isNumber_68 hl (by decide) rfl (fun ls hl => ?_)
      exact hKx true (by rw [hV, tw_MO_isNumber_r32, if_pos c_9, if_pos c_10, if_pos c_11]) ls (lv_sub hl [1, 2, 3, 4, 5, 0] rfl)
    · refine lv_iload hx hb d_MO_isNumber_55 (lv_at hl 4 rfl) ?_
      refine lv_iload_n hx hb d_MO_isNumber_57 rfl (lv_at hl 2 rfl) ?_
      refine lv_iconst (v := 1) hx hb d_MO_isNumber_58 (by decide) ?_
      refine lv_isub hx hb d_MO_isNumber_59 ?_
      refine lv_icmp_ne (tgt := 67) hx hb d_MO_isNumber_60 (by decide) (fun c_12 => ?_) (fun c_12 => ?_)
      · refine lv_iconst (v := 0) hx hb d_MO_isNumber_67 (by decide) ?_
        refine lv_istore (lv' := [(6, .int 0), (0, .ref aM), (1, .int x1), (2, .int x2), (4, .int x4), (5, .int x5)]) hx hb d_MO_isNumber_68 hl (by decide) rfl (fun ls hl => ?_)
        exact hKx false (by rw [hV, tw_MO_isNumber_r32, if_pos c_9, if_pos c_10, if_neg c_11, if_neg c_12]) ls (lv_sub hl [1, 2, 3, 4, 5, 0] rfl)
      · refine lv_iconst (v := 1) hx hb d_MO_isNumber_63 (by decide) ?_
        refine lv_goto (tgt := 68) hx hb d_MO_isNumber_64 (by decide) ?_
        refine lv_istore (lv' := [(6, .int 1), (0, .ref aM), (1, .int x1), (2, .int x2), (4, .int x4), (5, .int x5)]) hx hb d_MO_isNumber_68 hl (by decide) rfl (fun ls hl => ?_)
        exact hKx true (by rw [hV, tw_MO_isNumber_r32, if_pos c_9, if_pos c_10, if_neg c_11, if_pos c_12]) ls (lv_sub hl [1, 2, 3, 4, 5, 0] rfl)
set_option maxHeartbeats 4000000 in
set_option maxRecDepth 100000 in
theorem l_MO_isNumber_h21 {p : Program} {e : Env} {s : State} {m : MethodId} {args : Array Value} {below : List Frame} {meth : Method} {c : Code} {V : Option (Bool)} {V0 : Bool} (C0 : lc_C p s m meth c args b_MO_isNumber 7 (some .boolean) R_MO lw_g) (hs : V = some V0) (l : Launch) (D : va_G) (cB cI : ClassId) (aM aMst aMdcs aMtot aMfrm aMsiz aMffr aMfsz aMlkd aMlat aMkkd aMkat aModr aMgrp aMikd aMiat : Nat) (fu : Nat) (thr : Int32) (tpd : Int32) (frs : Int32) (frt : Int32) (top : Int32) (bgn : Int32) (mst : Int32) (ovr : Bool) (tgr : Bool) (lvs : Int32) (its : Int32) (hgh : Int64) (loo : Int64) (dfl : Bool) (st : Nat → Int32) (hP : va_P D vwCl [(aM, .inr (11, [.int thr, .ref aMst, .int tpd, .ref aMdcs, .ref aMtot, .ref aMfrm, .ref aMsiz, .int frs, .int frt, .ref aMffr, .ref aMfsz, .int top, .int bgn, .int mst, .int (b2i ovr), .int (b2i tgr), .int lvs, .ref aMlkd, .ref aMlat, .ref aMkkd, .ref aMkat, .ref aModr, .ref aMgrp, .int its, .ref aMikd, .ref aMiat, .long hgh, .long loo, .int (b2i dfl)])), (aMst, .inl (cI, 136400, .inl st))] s.heap) (hk : hk_ D cB cI s) (p0 : Int32) (p1 : Int32) {K : Int32 → Int32 → Bool → Option (Bool)} (hKx : ∀ (x4 : Int32) (x5 : Int32) (x6 : Bool), V = K x4 x5 x6 → ∀ ls : Array Slot, lv_has ls 7 [(4, .int x4), (6, .int (b2i x6))] → W p l e ({ frames := 0, cells := 0, slots := 0, locals := 0 }) s m args below meth c s.heap [] 0 0 (MQ below (vp_Si (fun r => r = b2i V0)) args s 0 0 (fun _ => False)) (F0 m 83 ls [])) : ∀ (n : Nat) (x4 : Int32) (x5 : Int32) (x6 : Bool), V = tw_MO_isNumber_h21 fu K st p0 p1 n x4 x5 x6 → ∀ ls : Array Slot, lv_has ls 7 [(0, .ref aM), (1, .int p0), (2, .int p1), (4, .int x4), (5, .int x5), (6, .int (b2i x6))] → W p l e ({ frames := 0, cells := 0, slots := 0, locals := 0 }) s m args below meth c s.heap [] 0 0 (MQ below (vp_Si (fun r => r = b2i V0)) args s 0 0 (fun _ => False)) (F0 m 21 ls []) := by
  obtain ⟨hx, hb, hml, hr, hown, hlocks, hT⟩ := id C0
  have hK := hk.1
  have hN := hk.2.1
  intro n
  induction n with
  | zero =>
    intro x4 x5 x6 hV
    exact op_no hs (hV.trans rfl)
  | succ n ih =>
    intro x4 x5 x6 hV ls hl
    refine lv_iload hx hb d_MO_isNumber_21 (lv_at hl 5 rfl) ?_
    refine lv_if_eq (tgt := 83) hx hb d_MO_isNumber_23 (by decide) (fun c_14 => ?_) (fun c_14 => ?_)
    · exact hKx x4 x5 x6 (by rw [hV, tw_MO_isNumber_h21, if_pos c_14]) ls (lv_sub hl [3, 5] rfl)
    · refine lv_iload hx hb d_MO_isNumber_26 (lv_at hl 4 rfl) ?_
      refine lv_iload_n hx hb d_MO_isNumber_28 rfl (lv_at hl 1 rfl) ?_
      refine lv_icmp_lt (tgt := 83) hx hb d_MO_isNumber_29 (by decide) (fun c_15 => ?_) (fun c_15 => ?_)
      · exact hKx x4 x5 x6 (by rw [hV, tw_MO_isNumber_h21, if_neg c_14, if_pos c_15]) ls (lv_sub hl [3, 5] rfl)
      · refine l_MO_isNumber_r32 C0 hs l D cB cI aM aMst aMdcs aMtot aMfrm aMsiz aMffr aMfsz aMlkd aMlat aMkkd aMkat aModr aMgrp aMikd aMiat fu thr tpd frs frt top bgn mst ovr tgr lvs its hgh loo dfl st hP hk p0 p1 x4 x5 (K := (fun (y6_16 : Bool) =>
            tw_MO_isNumber_h21 fu K st p0 p1 n (x4 / 10) (x5 + (-1)) y6_16)) ?_ (by rw [hV, tw_MO_isNumber_h21, if_neg c_14, if_neg c_15]) ls (lv_sub hl [0, 1, 2, 3, 4] rfl)
        intro y6_16 hV_16 ls hl
        refine lv_iload hx hb d_MO_isNumber_70 (lv_at hl 3 rfl) ?_
        refine lv_bipush (v := 10) hx hb d_MO_isNumber_72 (by decide) ?_
        refine lv_idiv hx hb d_MO_isNumber_74 (by decide) ?_
        refine lv_istore (lv' := [(4, .int (x4 / 10)), (0, .ref aM), (1, .int p0), (2, .int p1), (5, .int x5), (6, .int (b2i y6_16))]) hx hb d_MO_isNumber_75 hl (by decide) rfl (fun ls hl => ?_)
        refine lv_iinc (v := x5 + (-1)) (lv' := [(5, .int (x5 + (-1))), (4, .int (x4 / 10)), (0, .ref aM), (1, .int p0), (2, .int p1), (6, .int (b2i y6_16))]) hx hb d_MO_isNumber_77 hl (k := 4) rfl rfl (by decide) rfl (fun ls hl => ?_)
        refine lv_goto (tgt := 21) hx hb d_MO_isNumber_80 (by decide) ?_
        exact ih (x4 / 10) (x5 + (-1)) y6_16 (by rw [hV_16]) ls (lv_sub hl [2, 3, 4, 1, 0, 5] rfl)
set_option maxHeartbeats 4000000 in
set_option maxRecDepth 100000 in
theorem c_MO_isNumber (l : Launch) (D : va_G) (cB cI : ClassId) (aM aMst aMdcs aMtot aMfrm aMsiz aMffr aMfsz aMlkd aMlat aMkkd aMkat aModr aMgrp aMikd aMiat : Nat) (fu : Nat) (thr : Int32) (tpd : Int32) (frs : Int32) (frt : Int32) (top : Int32) (bgn : Int32) (mst : Int32) (ovr : Bool) (tgr : Bool) (lvs : Int32) (its : Int32) (hgh : Int64) (loo : Int64) (dfl : Bool) (st : Nat → Int32) (p0 : Int32) (p1 : Int32) (p2 : Int32) (V0 : Bool) (hs : tw_MO_isNumber fu st p0 p1 p2 = some V0) : Met l y_MO_isNumber mw_MO_isNumber { frames := 0, cells := 0, slots := 0, locals := 0 } (va_Pc [.ref aM, .int p0, .int p1, .int p2] (fun U => va_P D vwCl [(aM, .inr (11, [.int thr, .ref aMst, .int tpd, .ref aMdcs, .ref aMtot, .ref aMfrm, .ref aMsiz, .int frs, .int frt, .ref aMffr, .ref aMfsz, .int top, .int bgn, .int mst, .int (b2i ovr), .int (b2i tgr), .int lvs, .ref aMlkd, .ref aMlat, .ref aMkkd, .ref aMkat, .ref aModr, .ref aMgrp, .int its, .ref aMikd, .ref aMiat, .long hgh, .long loo, .int (b2i dfl)])), (aMst, .inl (cI, 136400, .inl st))] U.heap ∧ hk_ D cB cI U)) (vp_Si (fun r => r = b2i V0)) 0 0 (fun _ => False) := by
  refine Met.ofW (cc := b_MO_isNumber) (maxL := 7) (ret := (some .boolean)) (by decide) rfl ?_
  intro p e s m args below meth c s₁ B0 hml hv
  obtain ⟨rfl, hP, hk⟩ := hv
  have hK := hk.1
  have hN := hk.2.1
  have hx := B0.exec
  have hb := B0.bytes
  have hr := B0.returns
  have hT : ∀ w ∈ lw_g, w.before _ s = true := fun w h => atoms_spec (ws := mw_MO_isNumber) B0.pre w (List.mem_cons_of_mem _ h)
  have hown : s.vm.findClass R_MO = some m.cls := findClass_of_methodNamed B0.named
  have hlocks := B0.notSynchronized
  have hl := lv_entry ([.ref aM, .int p0, .int p1, .int p2]) (n := 7) (Nat.le_of_ble_eq_true rfl)
  rw [lg_entry_eq]
  generalize (lg_sl ([.ref aM, .int p0, .int p1, .int p2]) ++ List.replicate (7 - (lg_sl ([.ref aM, .int p0, .int p1, .int p2])).length) Slot.unset).toArray = ls at hl ⊢
  have hl : lv_has ls 7 [(0, .ref aM), (1, .int p0), (2, .int p1), (3, .int p2)] := hl
  have C0 : lc_C p s m meth c _ b_MO_isNumber 7 (some .boolean) R_MO lw_g := ⟨hx, hb, hml, hr, hown, hlocks, hT⟩
  refine lv_iload_n hx hb d_MO_isNumber_0 rfl (lv_at hl 3 rfl) ?_
  refine lv_istore (lv' := [(4, .int p2), (0, .ref aM), (1, .int p0), (2, .int p1), (3, .int p2)]) hx hb d_MO_isNumber_1 hl (by decide) rfl (fun ls hl => ?_)
  refine lv_iload_n hx hb d_MO_isNumber_3 rfl (lv_at hl 3 rfl) ?_
  refine lv_iconst (v := 1) hx hb d_MO_isNumber_4 (by decide) ?_
  refine lv_isub hx hb d_MO_isNumber_5 ?_
  refine lv_istore (lv' := [(5, .int (p1 - 1)), (4, .int p2), (0, .ref aM), (1, .int p0), (2, .int p1), (3, .int p2)]) hx hb d_MO_isNumber_6 hl (by decide) rfl (fun ls hl => ?_)
  refine l_MO_isNumber_r8 C0 hs l D cB cI aM aMst aMdcs aMtot aMfrm aMsiz aMffr aMfsz aMlkd aMlat aMkkd aMkat aModr aMgrp aMikd aMiat fu thr tpd frs frt top bgn mst ovr tgr lvs its hgh loo dfl st hP hk p0 p1 p2 (p1 - 1) (K := (fun (y6_2 : Bool) =>
      if (b2i y6_2) = 0 then
        if (b2i y6_2) = 0 then
          some false
        else
          if p2 = 0 then
            some true
          else
            some false
      else
        if (p1 - 1) < p0 then
          if (b2i y6_2) = 0 then
            some false
          else
            if p2 = 0 then
              some true
            else
              some false
        else
          tw_MO_isNumber_r32 fu (fun (y6_13 : Bool) =>
          tw_MO_isNumber_h21 fu (fun (x4_17 : Int32) (x5_17 : Int32) (x6_17 : Bool) =>
          if (b2i x6_17) = 0 then
            some false
          else
            if x4_17 = 0 then
              some true
            else
              some false) st p0 p1 fu (p2 / 10) ((p1 - 1) + (-1)) y6_13) st p0 p1 p2 (p1 - 1))) ?_ (by rw [tw_MO_isNumber]) ls (lv_sub hl [2, 3, 4, 1, 0] rfl)
  intro y6_2 hV_2 ls hl
  refine lv_iload hx hb d_MO_isNumber_21 (lv_at hl 5 rfl) ?_
  refine lv_if_eq (tgt := 83) hx hb d_MO_isNumber_23 (by decide) (fun c_3 => ?_) (fun c_3 => ?_)
  · refine lv_iload hx hb d_MO_isNumber_83 (lv_at hl 5 rfl) ?_
    refine lv_if_eq (tgt := 97) hx hb d_MO_isNumber_85 (by decide) (fun c_4 => ?_) (fun c_4 => ?_)
    · refine lv_iconst (v := 0) hx hb d_MO_isNumber_97 (by decide) ?_
      exact W.zret (v := 0) (ty := .boolean) hx hb hr (rfl) (fun t ht hW => ⟨0, rfl, (op_b (x := false) hs (by rw [hV_2, if_pos c_3, if_pos c_4])), ht⟩) (fun _ h => by cases h) d_MO_isNumber_98
    · refine lv_iload hx hb d_MO_isNumber_88 (lv_at hl 3 rfl) ?_
      refine lv_if_ne (tgt := 97) hx hb d_MO_isNumber_90 (by decide) (fun c_5 => ?_) (fun c_5 => ?_)
      · refine lv_iconst (v := 0) hx hb d_MO_isNumber_97 (by decide) ?_
        exact W.zret (v := 0) (ty := .boolean) hx hb hr (rfl) (fun t ht hW => ⟨0, rfl, (op_b (x := false) hs (by rw [hV_2, if_pos c_3, if_neg c_4, if_neg c_5])), ht⟩) (fun _ h => by cases h) d_MO_isNumber_98
      · refine lv_iconst (v := 1) hx hb d_MO_isNumber_93 (by decide) ?_
        refine lv_goto (tgt := 98) hx hb d_MO_isNumber_94 (by decide) ?_
        exact W.zret (v := 1) (ty := .boolean) hx hb hr (rfl) (fun t ht hW => ⟨1, rfl, (op_b (x := true) hs (by rw [hV_2, if_pos c_3, if_neg c_4, if_pos c_5])), ht⟩) (fun _ h => by cases h) d_MO_isNumber_98
  · refine lv_iload hx hb d_MO_isNumber_26 (lv_at hl 4 rfl) ?_
    refine lv_iload_n hx hb d_MO_isNumber_28 rfl (lv_at hl 1 rfl) ?_
    refine lv_icmp_lt (tgt := 83) hx hb d_MO_isNumber_29 (by decide) (fun c_6 => ?_) (fun c_6 => ?_)
    · refine lv_iload hx hb d_MO_isNumber_83 (lv_at hl 5 rfl) ?_
      refine lv_if_eq (tgt := 97) hx hb d_MO_isNumber_85 (by decide) (fun c_7 => ?_) (fun c_7 => ?_)
      · refine lv_iconst (v := 0) hx hb d_MO_isNumber_97 (by decide) ?_
        exact W.zret (v := 0) (ty := .boolean) hx hb hr (rfl) (fun t ht hW => ⟨0, rfl, (op_b (x := false) hs (by rw [hV_2, if_neg c_3, if_pos c_6, if_pos c_7])), ht⟩) (fun _ h => by cases h) d_MO_isNumber_98
      · refine lv_iload hx hb d_MO_isNumber_88 (lv_at hl 3 rfl) ?_
        refine lv_if_ne (tgt := 97) hx hb d_MO_isNumber_90 (by decide) (fun c_8 => ?_) (fun c_8 => ?_)
        · refine lv_iconst (v := 0) hx hb d_MO_isNumber_97 (by decide) ?_
          exact W.zret (v := 0) (ty := .boolean) hx hb hr (rfl) (fun t ht hW => ⟨0, rfl, (op_b (x := false) hs (by rw [hV_2, if_neg c_3, if_pos c_6, if_neg c_7, if_neg c_8])), ht⟩) (fun _ h => by cases h) d_MO_isNumber_98
        · refine lv_iconst (v := 1) hx hb d_MO_isNumber_93 (by decide) ?_
          refine lv_goto (tgt := 98) hx hb d_MO_isNumber_94 (by decide) ?_
          exact W.zret (v := 1) (ty := .boolean) hx hb hr (rfl) (fun t ht hW => ⟨1, rfl, (op_b (x := true) hs (by rw [hV_2, if_neg c_3, if_pos c_6, if_neg c_7, if_pos c_8])), ht⟩) (fun _ h => by cases h) d_MO_isNumber_98
    · refine l_MO_isNumber_r32 C0 hs l D cB cI aM aMst aMdcs aMtot aMfrm aMsiz aMffr aMfsz aMlkd aMlat aMkkd aMkat aModr aMgrp aMikd aMiat fu thr tpd frs frt top bgn mst ovr tgr lvs its hgh loo dfl st hP hk p0 p1 p2 (p1 - 1) (K := (fun (y6_13 : Bool) =>
          tw_MO_isNumber_h21 fu (fun (x4_17 : Int32) (x5_17 : Int32) (x6_17 : Bool) =>
          if (b2i x6_17) = 0 then
            some false
          else
            if x4_17 = 0 then
              some true
            else
              some false) st p0 p1 fu (p2 / 10) ((p1 - 1) + (-1)) y6_13)) ?_ (by rw [hV_2, if_neg c_3, if_neg c_6]) ls (lv_sub hl [0, 1, 2, 3, 4] rfl)
      intro y6_13 hV_13 ls hl
      refine lv_iload hx hb d_MO_isNumber_70 (lv_at hl 3 rfl) ?_
      refine lv_bipush (v := 10) hx hb d_MO_isNumber_72 (by decide) ?_
      refine lv_idiv hx hb d_MO_isNumber_74 (by decide) ?_
      refine lv_istore (lv' := [(4, .int (p2 / 10)), (0, .ref aM), (1, .int p0), (2, .int p1), (5, .int (p1 - 1)), (6, .int (b2i y6_13))]) hx hb d_MO_isNumber_75 hl (by decide) rfl (fun ls hl => ?_)
      refine lv_iinc (v := (p1 - 1) + (-1)) (lv' := [(5, .int ((p1 - 1) + (-1))), (4, .int (p2 / 10)), (0, .ref aM), (1, .int p0), (2, .int p1), (6, .int (b2i y6_13))]) hx hb d_MO_isNumber_77 hl (k := 4) rfl rfl (by decide) rfl (fun ls hl => ?_)
      refine lv_goto (tgt := 21) hx hb d_MO_isNumber_80 (by decide) ?_
      refine l_MO_isNumber_h21 C0 hs l D cB cI aM aMst aMdcs aMtot aMfrm aMsiz aMffr aMfsz aMlkd aMlat aMkkd aMkat aModr aMgrp aMikd aMiat fu thr tpd frs frt top bgn mst ovr tgr lvs its hgh loo dfl st hP hk p0 p1  (K := (fun (x4_17 : Int32) (x5_17 : Int32) (x6_17 : Bool) =>
          if (b2i x6_17) = 0 then
            some false
          else
            if x4_17 = 0 then
              some true
            else
              some false)) ?_ fu (p2 / 10) ((p1 - 1) + (-1)) y6_13  (by rw [hV_13]) ls (lv_sub hl [2, 3, 4, 1, 0, 5] rfl)
      intro x4_17 x5_17 x6_17 hV_17 ls hl
      refine lv_iload hx hb d_MO_isNumber_83 (lv_at hl 1 rfl) ?_
      refine lv_if_eq (tgt := 97) hx hb d_MO_isNumber_85 (by decide) (fun c_18 => ?_) (fun c_18 => ?_)
      · refine lv_iconst (v := 0) hx hb d_MO_isNumber_97 (by decide) ?_
        exact W.zret (v := 0) (ty := .boolean) hx hb hr (rfl) (fun t ht hW => ⟨0, rfl, (op_b (x := false) hs (by rw [hV_17, if_pos c_18])), ht⟩) (fun _ h => by cases h) d_MO_isNumber_98
      · refine lv_iload hx hb d_MO_isNumber_88 (lv_at hl 0 rfl) ?_
        refine lv_if_ne (tgt := 97) hx hb d_MO_isNumber_90 (by decide) (fun c_19 => ?_) (fun c_19 => ?_)
        · refine lv_iconst (v := 0) hx hb d_MO_isNumber_97 (by decide) ?_
          exact W.zret (v := 0) (ty := .boolean) hx hb hr (rfl) (fun t ht hW => ⟨0, rfl, (op_b (x := false) hs (by rw [hV_17, if_neg c_18, if_neg c_19])), ht⟩) (fun _ h => by cases h) d_MO_isNumber_98
        · refine lv_iconst (v := 1) hx hb d_MO_isNumber_93 (by decide) ?_
          refine lv_goto (tgt := 98) hx hb d_MO_isNumber_94 (by decide) ?_
          exact W.zret (v := 1) (ty := .boolean) hx hb hr (rfl) (fun t ht hW => ⟨1, rfl, (op_b (x := true) hs (by rw [hV_17, if_neg c_18, if_pos c_19])), ht⟩) (fun _ h => by cases h) d_MO_isNumber_98
set_option maxHeartbeats 4000000 in
set_option maxRecDepth 100000 in
theorem l_MO_isPath_r2 {p : Program} {e : Env} {s : State} {m : MethodId} {args : Array Value} {below : List Frame} {meth : Method} {c : Code} {V : Option (Bool)} {V0 : Bool} (C0 : lc_C p s m meth c args b_MO_isPath 8 (some .boolean) R_MO lw_g) (hs : V = some V0) (l : Launch) (D : va_G) (cB cI : ClassId) (aM aMst aMdcs aMtot aMfrm aMsiz aMffr aMfsz aMlkd aMlat aMkkd aMkat aModr aMgrp aMikd aMiat : Nat) (fu : Nat) (thr : Int32) (tpd : Int32) (frs : Int32) (frt : Int32) (top : Int32) (bgn : Int32) (mst : Int32) (ovr : Bool) (tgr : Bool) (lvs : Int32) (its : Int32) (hgh : Int64) (loo : Int64) (dfl : Bool) (st : Nat → Int32) (hP : va_P D vwCl [(aM, .inr (11, [.int thr, .ref aMst, .int tpd, .ref aMdcs, .ref aMtot, .ref aMfrm, .ref aMsiz, .int frs, .int frt, .ref aMffr, .ref aMfsz, .int top, .int bgn, .int mst, .int (b2i ovr), .int (b2i tgr), .int lvs, .ref aMlkd, .ref aMlat, .ref aMkkd, .ref aMkat, .ref aModr, .ref aMgrp, .int its, .ref aMikd, .ref aMiat, .long hgh, .long loo, .int (b2i dfl)])), (aMst, .inl (cI, 136400, .inl st))] s.heap) (hk : hk_ D cB cI s) (x1 : Int32) (x2 : Int32) (x3 : Int32) {K : Bool → Option (Bool)} (hKx : ∀ (y4 : Bool), V = K y4 → ∀ ls : Array Slot, lv_has ls 8 [(0, .ref aM), (1, .int x1), (2, .int x2), (3, .int x3), (4, .int (b2i y4))] → W p l e ({ frames := 0, cells := 0, slots := 0, locals := 0 }) s m args below meth c s.heap [] 0 0 (MQ below (vp_Si (fun r => r = b2i V0)) args s 0 0 (fun _ => False)) (F0 m 13 ls [])) (hV : V = tw_MO_isPath_r2 fu K st x1 x2 x3) : ∀ ls : Array Slot, lv_has ls 8 [(0, .ref aM), (1, .int x1), (2, .int x2), (3, .int x3)] → W p l e ({ frames := 0, cells := 0, slots := 0, locals := 0 }) s m args below meth c s.heap [] 0 0 (MQ below (vp_Si (fun r => r = b2i V0)) args s 0 0 (fun _ => False)) (F0 m 2 ls []) := by
  obtain ⟨hx, hb, hml, hr, hown, hlocks, hT⟩ := id C0
  have hK := hk.1
  have hN := hk.2.1
  intro ls hl
  refine lv_iload_n hx hb d_MO_isPath_2 rfl (lv_at hl 2 rfl) ?_
  refine lv_if_le (tgt := 10) hx hb d_MO_isPath_3 (by decide) (fun c_1 => ?_) (fun c_1 => ?_)
  · refine lv_iconst (v := 0) hx hb d_MO_isPath_10 (by decide) ?_
    refine lv_istore (lv' := [(4, .int 0), (0, .ref aM), (1, .int x1), (2, .int x2), (3, .int x3)]) hx hb d_MO_isPath_11 hl (by decide) rfl (fun ls hl => ?_)
    exact hKx false (by rw [hV, tw_MO_isPath_r2, if_pos c_1]) ls (lv_sub hl [1, 2, 3, 4, 0] rfl)
  · refine lv_iconst (v := 1) hx hb d_MO_isPath_6 (by decide) ?_
    refine lv_goto (tgt := 11) hx hb d_MO_isPath_7 (by decide) ?_
    refine lv_istore (lv' := [(4, .int 1), (0, .ref aM), (1, .int x1), (2, .int x2), (3, .int x3)]) hx hb d_MO_isPath_11 hl (by decide) rfl (fun ls hl => ?_)
    exact hKx true (by rw [hV, tw_MO_isPath_r2, if_neg c_1]) ls (lv_sub hl [1, 2, 3, 4, 0] rfl)
set_option maxHeartbeats 4000000 in
set_option maxRecDepth 100000 in
theorem l_MO_isPath_r27 {p : Program} {e : Env} {s : State} {m : MethodId} {args : Array Value} {below : List Frame} {meth : Method} {c : Code} {V : Option (Bool)} {V0 : Bool} (C0 : lc_C p s m meth c args b_MO_isPath 8 (some .boolean) R_MO lw_g) (hs : V = some V0) (l : Launch) (D : va_G) (cB cI : ClassId) (aM aMst aMdcs aMtot aMfrm aMsiz aMffr aMfsz aMlkd aMlat aMkkd aMkat aModr aMgrp aMikd aMiat : Nat) (fu : Nat) (thr : Int32) (tpd : Int32) (frs : Int32) (frt : Int32) (top : Int32) (bgn : Int32) (mst : Int32) (ovr : Bool) (tgr : Bool) (lvs : Int32) (its : Int32) (hgh : Int64) (loo : Int64) (dfl : Bool) (st : Nat → Int32) (hP : va_P D vwCl [(aM, .inr (11, [.int thr, .ref aMst, .int tpd, .ref aMdcs, .ref aMtot, .ref aMfrm, .ref aMsiz, .int frs, .int frt, .ref aMffr, .ref aMfsz, .int top, .int bgn, .int mst, .int (b2i ovr), .int (b2i tgr), .int lvs, .ref aMlkd, .ref aMlat, .ref aMkkd, .ref aMkat, .ref aModr, .ref aMgrp, .int its, .ref aMikd, .ref aMiat, .long hgh, .long loo, .int (b2i dfl)])), (aMst, .inl (cI, 136400, .inl st))] s.heap) (hk : hk_ D cB cI s) (x1 : Int32) (x2 : Int32) (x3 : Int32) (x4 : Bool) (x5 : Int32) {K : Bool → Option (Bool)} (hKx : ∀ (y6 : Bool), V = K y6 → ∀ ls : Array Slot, lv_has ls 8 [(0, .ref aM), (1, .int x1), (2, .int x2), (3, .int x3), (4, .int (b2i x4)), (5, .int x5), (6, .int (b2i y6))] → W p l e ({ frames := 0, cells := 0, slots := 0, locals := 0 }) s m args below meth c s.heap [] 0 0 (MQ below (vp_Si (fun r => r = b2i V0)) args s 0 0 (fun _ => False)) (F0 m 54 ls [])) (hV : V = tw_MO_isPath_r27 fu K st x1 x2 x3 x4 x5) : ∀ ls : Array Slot, lv_has ls 8 [(0, .ref aM), (1, .int x1), (2, .int x2), (3, .int x3), (4, .int (b2i x4)), (5, .int x5)] → W p l e ({ frames := 0, cells := 0, slots := 0, locals := 0 }) s m args below meth c s.heap [] 0 0 (MQ below (vp_Si (fun r => r = b2i V0)) args s 0 0 (fun _ => False)) (F0 m 27 ls []) := by
  obtain ⟨hx, hb, hml, hr, hown, hlocks, hT⟩ := id C0
  have hK := hk.1
  have hN := hk.2.1
  intro ls hl
  refine lv_iload hx hb d_MO_isPath_27 (lv_at hl 5 rfl) ?_
  refine lv_iload_n hx hb d_MO_isPath_29 rfl (lv_at hl 2 rfl) ?_
  refine lv_icmp_eq (tgt := 47) hx hb d_MO_isPath_30 (by decide) (fun c_5 => ?_) (fun c_5 => ?_)
  · refine lv_iconst (v := 1) hx hb d_MO_isPath_47 (by decide) ?_
    refine lv_goto (tgt := 52) hx hb d_MO_isPath_48 (by decide) ?_
    refine lv_istore (lv' := [(6, .int 1), (0, .ref aM), (1, .int x1), (2, .int x2), (3, .int x3), (4, .int (b2i x4)), (5, .int x5)]) hx hb d_MO_isPath_52 hl (by decide) rfl (fun ls hl => ?_)
    exact hKx true (by rw [hV, tw_MO_isPath_r27, if_pos c_5]) ls (lv_sub hl [1, 2, 3, 4, 5, 6, 0] rfl)
  · refine lv_aload_n hx hb d_MO_isPath_33 rfl (lv_at hl 0 rfl) ?_
    refine va_get (D := D) (ci := 11) (v := .ref aMst) (C := R_MO) (T := T_MO) (N := 29) hx hb hT u_MO hown hK hP 0 rfl rfl 1 (by decide) (hT _ k_1044) (fun _ h9 => h9) rfl d_MO_isPath_34 ?_
    refine lv_iload_n hx hb d_MO_isPath_37 rfl (lv_at hl 1 rfl) ?_
    refine lv_iload hx hb d_MO_isPath_38 (lv_at hl 5 rfl) ?_
    refine lv_iadd hx hb d_MO_isPath_40 ?_
    by_cases c_6 : 0 ≤ (x1 + x5) ∧ (x1 + x5) < 136400
    rotate_left
    · exact op_no hs (by rw [hV, tw_MO_isPath_r27, if_neg c_5, if_neg c_6])
    refine va_iald hx hb hK hP 1 1 rfl rfl (in_pp c_6.1 c_6.2 rfl) d_MO_isPath_41 ?_
    refine lv_bipush (v := 46) hx hb d_MO_isPath_42 (by decide) ?_
    refine lv_icmp_ne (tgt := 51) hx hb d_MO_isPath_44 (by decide) (fun c_7 => ?_) (fun c_7 => ?_)
    · refine lv_iconst (v := 0) hx hb d_MO_isPath_51 (by decide) ?_
      refine lv_istore (lv' := [(6, .int 0), (0, .ref aM), (1, .int x1), (2, .int x2), (3, .int x3), (4, .int (b2i x4)), (5, .int x5)]) hx hb d_MO_isPath_52 hl (by decide) rfl (fun ls hl => ?_)
      exact hKx false (by rw [hV, tw_MO_isPath_r27, if_neg c_5, if_pos c_6, if_neg c_7]) ls (lv_sub hl [1, 2, 3, 4, 5, 6, 0] rfl)
    · refine lv_iconst (v := 1) hx hb d_MO_isPath_47 (by decide) ?_
      refine lv_goto (tgt := 52) hx hb d_MO_isPath_48 (by decide) ?_
      refine lv_istore (lv' := [(6, .int 1), (0, .ref aM), (1, .int x1), (2, .int x2), (3, .int x3), (4, .int (b2i x4)), (5, .int x5)]) hx hb d_MO_isPath_52 hl (by decide) rfl (fun ls hl => ?_)
      exact hKx true (by rw [hV, tw_MO_isPath_r27, if_neg c_5, if_pos c_6, if_pos c_7]) ls (lv_sub hl [1, 2, 3, 4, 5, 6, 0] rfl)
set_option maxHeartbeats 4000000 in
set_option maxRecDepth 100000 in
theorem l_MO_isPath_r82 {p : Program} {e : Env} {s : State} {m : MethodId} {args : Array Value} {below : List Frame} {meth : Method} {c : Code} {V : Option (Bool)} {V0 : Bool} (C0 : lc_C p s m meth c args b_MO_isPath 8 (some .boolean) R_MO lw_g) (hs : V = some V0) (l : Launch) (D : va_G) (cB cI : ClassId) (aM aMst aMdcs aMtot aMfrm aMsiz aMffr aMfsz aMlkd aMlat aMkkd aMkat aModr aMgrp aMikd aMiat : Nat) (fu : Nat) (thr : Int32) (tpd : Int32) (frs : Int32) (frt : Int32) (top : Int32) (bgn : Int32) (mst : Int32) (ovr : Bool) (tgr : Bool) (lvs : Int32) (its : Int32) (hgh : Int64) (loo : Int64) (dfl : Bool) (st : Nat → Int32) (hP : va_P D vwCl [(aM, .inr (11, [.int thr, .ref aMst, .int tpd, .ref aMdcs, .ref aMtot, .ref aMfrm, .ref aMsiz, .int frs, .int frt, .ref aMffr, .ref aMfsz, .int top, .int bgn, .int mst, .int (b2i ovr), .int (b2i tgr), .int lvs, .ref aMlkd, .ref aMlat, .ref aMkkd, .ref aMkat, .ref aModr, .ref aMgrp, .int its, .ref aMikd, .ref aMiat, .long hgh, .long loo, .int (b2i dfl)])), (aMst, .inl (cI, 136400, .inl st))] s.heap) (hk : hk_ D cB cI s) (x1 : Int32) (x2 : Int32) (x3 : Int32) (x4 : Bool) (x5 : Int32) (x6 : Bool) (x7 : Bool) {K : Bool → Option (Bool)} (hKx : ∀ (y4 : Bool), V = K y4 → ∀ ls : Array Slot, lv_has ls 8 [(0, .ref aM), (1, .int x1), (2, .int x2), (3, .int x3), (4, .int (b2i y4)), (5, .int x5), (6, .int (b2i x6))] → W p l e ({ frames := 0, cells := 0, slots := 0, locals := 0 }) s m args below meth c s.heap [] 0 0 (MQ below (vp_Si (fun r => r = b2i V0)) args s 0 0 (fun _ => False)) (F0 m 127 ls [])) (hV : V = tw_MO_isPath_r82 fu K st x1 x2 x3 x4 x5 x6 x7) : ∀ ls : Array Slot, lv_has ls 8 [(0, .ref aM), (1, .int x1), (2, .int x2), (3, .int x3), (4, .int (b2i x4)), (5, .int x5), (6, .int (b2i x6)), (7, .int (b2i x7))] → W p l e ({ frames := 0, cells := 0, slots := 0, locals := 0 }) s m args below meth c s.heap [] 0 0 (MQ below (vp_Si (fun r => r = b2i V0)) args s 0 0 (fun _ => False)) (F0 m 82 ls []) := by
  obtain ⟨hx, hb, hml, hr, hown, hlocks, hT⟩ := id C0
  have hK := hk.1
  have hN := hk.2.1
  intro ls hl
  refine lv_iload hx hb d_MO_isPath_82 (lv_at hl 5 rfl) ?_
  refine lv_iload_n hx hb d_MO_isPath_84 rfl (lv_at hl 2 rfl) ?_
  refine lv_icmp_ge (tgt := 100) hx hb d_MO_isPath_85 (by decide) (fun c_10 => ?_) (fun c_10 => ?_)
  · refine lv_iload hx hb d_MO_isPath_100 (lv_at hl 7 rfl) ?_
    refine lv_if_eq (tgt := 127) hx hb d_MO_isPath_102 (by decide) (fun c_11 => ?_) (fun c_11 => ?_)
    · exact hKx x4 (by rw [hV, tw_MO_isPath_r82, if_pos c_10, if_pos c_11]) ls (lv_sub hl [0, 1, 2, 3, 4, 5, 6] rfl)
    · refine lv_iload hx hb d_MO_isPath_105 (lv_at hl 6 rfl) ?_
      refine lv_if_ne (tgt := 124) hx hb d_MO_isPath_107 (by decide) (fun c_12 => ?_) (fun c_12 => ?_)
      · refine lv_iconst (v := 0) hx hb d_MO_isPath_124 (by decide) ?_
        refine lv_istore (lv' := [(4, .int 0), (0, .ref aM), (1, .int x1), (2, .int x2), (3, .int x3), (5, .int x5), (6, .int (b2i x6)), (7, .int (b2i x7))]) hx hb d_MO_isPath_125 hl (by decide) rfl (fun ls hl => ?_)
        exact hKx false (by rw [hV, tw_MO_isPath_r82, if_pos c_10, if_neg c_11, if_neg c_12]) ls (lv_sub hl [1, 2, 3, 4, 0, 5, 6] rfl)
      · refine lv_aload_n hx hb d_MO_isPath_110 rfl (lv_at hl 0 rfl) ?_
        refine va_get (D := D) (ci := 11) (v := .ref aMst) (C := R_MO) (T := T_MO) (N := 29) hx hb hT u_MO hown hK hP 0 rfl rfl 1 (by decide) (hT _ k_1044) (fun _ h9 => h9) rfl d_MO_isPath_111 ?_
        refine lv_iload_n hx hb d_MO_isPath_114 rfl (lv_at hl 1 rfl) ?_
        refine lv_iload hx hb d_MO_isPath_115 (lv_at hl 5 rfl) ?_
        refine lv_iadd hx hb d_MO_isPath_117 ?_
        by_cases c_13 : 0 ≤ (x1 + x5) ∧ (x1 + x5) < 136400
        rotate_left
        · exact op_no hs (by rw [hV, tw_MO_isPath_r82, if_pos c_10, if_neg c_11, if_pos c_12, if_neg c_13])
        refine va_iald hx hb hK hP 1 1 rfl rfl (in_pp c_13.1 c_13.2 rfl) d_MO_isPath_118 ?_
        refine lv_bipush (v := 36) hx hb d_MO_isPath_119 (by decide) ?_
        refine lv_icmp_ne (tgt := 127) hx hb d_MO_isPath_121 (by decide) (fun c_14 => ?_) (fun c_14 => ?_)
        · exact hKx x4 (by rw [hV, tw_MO_isPath_r82, if_pos c_10, if_neg c_11, if_pos c_12, if_pos c_13, if_neg c_14]) ls (lv_sub hl [0, 1, 2, 3, 4, 5, 6] rfl)
        · refine lv_iconst (v := 0) hx hb d_MO_isPath_124 (by decide) ?_
          refine lv_istore (lv' := [(4, .int 0), (0, .ref aM), (1, .int x1), (2, .int x2), (3, .int x3), (5, .int x5), (6, .int (b2i x6)), (7, .int (b2i x7))]) hx hb d_MO_isPath_125 hl (by decide) rfl (fun ls hl => ?_)
          exact hKx false (by rw [hV, tw_MO_isPath_r82, if_pos c_10, if_neg c_11, if_pos c_12, if_pos c_13, if_pos c_14]) ls (lv_sub hl [1, 2, 3, 4, 0, 5, 6] rfl)
  · refine lv_aload_n hx hb d_MO_isPath_88 rfl (lv_at hl 0 rfl) ?_
    refine va_get (D := D) (ci := 11) (v := .ref aMst) (C := R_MO) (T := T_MO) (N := 29) hx hb hT u_MO hown hK hP 0 rfl rfl 1 (by decide) (hT _ k_1044) (fun _ h9 => h9) rfl d_MO_isPath_89 ?_
    refine lv_iload_n hx hb d_MO_isPath_92 rfl (lv_at hl 1 rfl) ?_
    refine lv_iload hx hb d_MO_isPath_93 (lv_at hl 5 rfl) ?_
    refine lv_iadd hx hb d_MO_isPath_95 ?_
    by_cases c_15 : 0 ≤ (x1 + x5) ∧ (x1 + x5) < 136400
    rotate_left
    · exact op_no hs (by rw [hV, tw_MO_isPath_r82, if_neg c_10, if_neg c_15])
    refine va_iald hx hb hK hP 1 1 rfl rfl (in_pp c_15.1 c_15.2 rfl) d_MO_isPath_96 ?_
    refine lv_if_eq (tgt := 124) hx hb d_MO_isPath_97 (by decide) (fun c_16 => ?_) (fun c_16 => ?_)
    · refine lv_iconst (v := 0) hx hb d_MO_isPath_124 (by decide) ?_
      refine lv_istore (lv' := [(4, .int 0), (0, .ref aM), (1, .int x1), (2, .int x2), (3, .int x3), (5, .int x5), (6, .int (b2i x6)), (7, .int (b2i x7))]) hx hb d_MO_isPath_125 hl (by decide) rfl (fun ls hl => ?_)
      exact hKx false (by rw [hV, tw_MO_isPath_r82, if_neg c_10, if_pos c_15, if_pos c_16]) ls (lv_sub hl [1, 2, 3, 4, 0, 5, 6] rfl)
    · refine lv_iload hx hb d_MO_isPath_100 (lv_at hl 7 rfl) ?_
      refine lv_if_eq (tgt := 127) hx hb d_MO_isPath_102 (by decide) (fun c_17 => ?_) (fun c_17 => ?_)
      · exact hKx x4 (by rw [hV, tw_MO_isPath_r82, if_neg c_10, if_pos c_15, if_neg c_16, if_pos c_17]) ls (lv_sub hl [0, 1, 2, 3, 4, 5, 6] rfl)
      · refine lv_iload hx hb d_MO_isPath_105 (lv_at hl 6 rfl) ?_
        refine lv_if_ne (tgt := 124) hx hb d_MO_isPath_107 (by decide) (fun c_18 => ?_) (fun c_18 => ?_)
        · refine lv_iconst (v := 0) hx hb d_MO_isPath_124 (by decide) ?_
          refine lv_istore (lv' := [(4, .int 0), (0, .ref aM), (1, .int x1), (2, .int x2), (3, .int x3), (5, .int x5), (6, .int (b2i x6)), (7, .int (b2i x7))]) hx hb d_MO_isPath_125 hl (by decide) rfl (fun ls hl => ?_)
          exact hKx false (by rw [hV, tw_MO_isPath_r82, if_neg c_10, if_pos c_15, if_neg c_16, if_neg c_17, if_neg c_18]) ls (lv_sub hl [1, 2, 3, 4, 0, 5, 6] rfl)
        · refine lv_aload_n hx hb d_MO_isPath_110 rfl (lv_at hl 0 rfl) ?_
          refine va_get (D := D) (ci := 11) (v := .ref aMst) (C := R_MO) (T := T_MO) (N := 29) hx hb hT u_MO hown hK hP 0 rfl rfl 1 (by decide) (hT _ k_1044) (fun _ h9 => h9) rfl d_MO_isPath_111 ?_
          refine lv_iload_n hx hb d_MO_isPath_114 rfl (lv_at hl 1 rfl) ?_
          refine lv_iload hx hb d_MO_isPath_115 (lv_at hl 5 rfl) ?_
          refine lv_iadd hx hb d_MO_isPath_117 ?_
          refine va_iald hx hb hK hP 1 1 rfl rfl (in_pp c_15.1 c_15.2 rfl) d_MO_isPath_118 ?_
          refine lv_bipush (v := 36) hx hb d_MO_isPath_119 (by decide) ?_
          refine lv_icmp_ne (tgt := 127) hx hb d_MO_isPath_121 (by decide) (fun c_19 => ?_) (fun c_19 => ?_)
          · exact hKx x4 (by rw [hV, tw_MO_isPath_r82, if_neg c_10, if_pos c_15, if_neg c_16, if_neg c_17, if_pos c_18, if_neg c_19]) ls (lv_sub hl [0, 1, 2, 3, 4, 5, 6] rfl)
          · refine lv_iconst (v := 0) hx hb d_MO_isPath_124 (by decide) ?_
            refine lv_istore (lv' := [(4, .int 0), (0, .ref aM), (1, .int x1), (2, .int x2), (3, .int x3), (5, .int x5), (6, .int (b2i x6)), (7, .int (b2i x7))]) hx hb d_MO_isPath_125 hl (by decide) rfl (fun ls hl => ?_)
            exact hKx false (by rw [hV, tw_MO_isPath_r82, if_neg c_10, if_pos c_15, if_neg c_16, if_neg c_17, if_pos c_18, if_pos c_19]) ls (lv_sub hl [1, 2, 3, 4, 0, 5, 6] rfl)
set_option maxHeartbeats 4000000 in
set_option maxRecDepth 100000 in
theorem l_MO_isPath_h16 {p : Program} {e : Env} {s : State} {m : MethodId} {args : Array Value} {below : List Frame} {meth : Method} {c : Code} {V : Option (Bool)} {V0 : Bool} (C0 : lc_C p s m meth c args b_MO_isPath 8 (some .boolean) R_MO lw_g) (hs : V = some V0) (l : Launch) (D : va_G) (cB cI : ClassId) (aM aMst aMdcs aMtot aMfrm aMsiz aMffr aMfsz aMlkd aMlat aMkkd aMkat aModr aMgrp aMikd aMiat : Nat) (fu : Nat) (thr : Int32) (tpd : Int32) (frs : Int32) (frt : Int32) (top : Int32) (bgn : Int32) (mst : Int32) (ovr : Bool) (tgr : Bool) (lvs : Int32) (its : Int32) (hgh : Int64) (loo : Int64) (dfl : Bool) (st : Nat → Int32) (hP : va_P D vwCl [(aM, .inr (11, [.int thr, .ref aMst, .int tpd, .ref aMdcs, .ref aMtot, .ref aMfrm, .ref aMsiz, .int frs, .int frt, .ref aMffr, .ref aMfsz, .int top, .int bgn, .int mst, .int (b2i ovr), .int (b2i tgr), .int lvs, .ref aMlkd, .ref aMlat, .ref aMkkd, .ref aMkat, .ref aModr, .ref aMgrp, .int its, .ref aMikd, .ref aMiat, .long hgh, .long loo, .int (b2i dfl)])), (aMst, .inl (cI, 136400, .inl st))] s.heap) (hk : hk_ D cB cI s) (p0 : Int32) (p1 : Int32) {K : Int32 → Bool → Int32 → Option (Bool)} (hKx : ∀ (x3 : Int32) (x4 : Bool) (x5 : Int32), V = K x3 x4 x5 → ∀ ls : Array Slot, lv_has ls 8 [(3, .int x3), (4, .int (b2i x4))] → W p l e ({ frames := 0, cells := 0, slots := 0, locals := 0 }) s m args below meth c s.heap [] 0 0 (MQ below (vp_Si (fun r => r = b2i V0)) args s 0 0 (fun _ => False)) (F0 m 152 ls [])) : ∀ (n : Nat) (x3 : Int32) (x4 : Bool) (x5 : Int32), V = tw_MO_isPath_h16 fu K st p0 p1 n x3 x4 x5 → ∀ ls : Array Slot, lv_has ls 8 [(0, .ref aM), (1, .int p0), (2, .int p1), (3, .int x3), (4, .int (b2i x4)), (5, .int x5)] → W p l e ({ frames := 0, cells := 0, slots := 0, locals := 0 }) s m args below meth c s.heap [] 0 0 (MQ below (vp_Si (fun r => r = b2i V0)) args s 0 0 (fun _ => False)) (F0 m 16 ls []) := by
  obtain ⟨hx, hb, hml, hr, hown, hlocks, hT⟩ := id C0
  have hK := hk.1
  have hN := hk.2.1
  intro n
  induction n with
  | zero =>
    intro x3 x4 x5 hV
    exact op_no hs (hV.trans rfl)
  | succ n ih =>
    intro x3 x4 x5 hV ls hl
    refine lv_iload hx hb d_MO_isPath_16 (lv_at hl 5 rfl) ?_
    refine lv_iload_n hx hb d_MO_isPath_18 rfl (lv_at hl 2 rfl) ?_
    refine lv_icmp_gt (tgt := 152) hx hb d_MO_isPath_19 (by decide) (fun c_3 => ?_) (fun c_3 => ?_)
    · exact hKx x3 x4 x5 (by rw [hV, tw_MO_isPath_h16, if_pos c_3]) ls (lv_sub hl [3, 4] rfl)
    · refine lv_iload hx hb d_MO_isPath_22 (lv_at hl 4 rfl) ?_
      refine lv_if_eq (tgt := 152) hx hb d_MO_isPath_24 (by decide) (fun c_4 => ?_) (fun c_4 => ?_)
      · exact hKx x3 x4 x5 (by rw [hV, tw_MO_isPath_h16, if_neg c_3, if_pos c_4]) ls (lv_sub hl [3, 4] rfl)
      · refine l_MO_isPath_r27 C0 hs l D cB cI aM aMst aMdcs aMtot aMfrm aMsiz aMffr aMfsz aMlkd aMlat aMkkd aMkat aModr aMgrp aMikd aMiat fu thr tpd frs frt top bgn mst ovr tgr lvs its hgh loo dfl st hP hk p0 p1 x3 x4 x5 (K := (fun (y6_8 : Bool) =>
            if x5 = 0 then
              tw_MO_isPath_r82 fu (fun (y4_20 : Bool) =>
              if p1 ≤ x5 then
                tw_MO_isPath_h16 fu K st p0 p1 n (x3 + 0) y4_20 (x5 + 1)
              else
                if (b2i y6_8) = 0 then
                  tw_MO_isPath_h16 fu K st p0 p1 n (x3 + 0) y4_20 (x5 + 1)
                else
                  tw_MO_isPath_h16 fu K st p0 p1 n (x3 + 1) y4_20 (x5 + 1)) st p0 p1 x3 x4 x5 y6_8 true
            else
              if 0 ≤ ((p0 + x5) - 1) ∧ ((p0 + x5) - 1) < 136400 then
                if (st ((p0 + x5) - 1).toNatClampNeg) = 46 then
                  tw_MO_isPath_r82 fu (fun (y4_28 : Bool) =>
                if p1 ≤ x5 then
                  tw_MO_isPath_h16 fu K st p0 p1 n (x3 + 0) y4_28 (x5 + 1)
                else
                  if (b2i y6_8) = 0 then
                    tw_MO_isPath_h16 fu K st p0 p1 n (x3 + 0) y4_28 (x5 + 1)
                  else
                    tw_MO_isPath_h16 fu K st p0 p1 n (x3 + 1) y4_28 (x5 + 1)) st p0 p1 x3 x4 x5 y6_8 true
                else
                  tw_MO_isPath_r82 fu (fun (y4_25 : Bool) =>
                if p1 ≤ x5 then
                  tw_MO_isPath_h16 fu K st p0 p1 n (x3 + 0) y4_25 (x5 + 1)
                else
                  if (b2i y6_8) = 0 then
                    tw_MO_isPath_h16 fu K st p0 p1 n (x3 + 0) y4_25 (x5 + 1)
                  else
                    tw_MO_isPath_h16 fu K st p0 p1 n (x3 + 1) y4_25 (x5 + 1)) st p0 p1 x3 x4 x5 y6_8 false
              else
                none)) ?_ (by rw [hV, tw_MO_isPath_h16, if_neg c_3, if_neg c_4]) ls (lv_sub hl [0, 1, 2, 3, 4, 5] rfl)
        intro y6_8 hV_8 ls hl
        refine lv_iload hx hb d_MO_isPath_54 (lv_at hl 5 rfl) ?_
        refine lv_if_eq (tgt := 75) hx hb d_MO_isPath_56 (by decide) (fun c_9 => ?_) (fun c_9 => ?_)
        · refine lv_iconst (v := 1) hx hb d_MO_isPath_75 (by decide) ?_
          refine lv_goto (tgt := 80) hx hb d_MO_isPath_76 (by decide) ?_
          refine lv_istore (lv' := [(7, .int 1), (0, .ref aM), (1, .int p0), (2, .int p1), (3, .int x3), (4, .int (b2i x4)), (5, .int x5), (6, .int (b2i y6_8))]) hx hb d_MO_isPath_80 hl (by decide) rfl (fun ls hl => ?_)
          refine l_MO_isPath_r82 C0 hs l D cB cI aM aMst aMdcs aMtot aMfrm aMsiz aMffr aMfsz aMlkd aMlat aMkkd aMkat aModr aMgrp aMikd aMiat fu thr tpd frs frt top bgn mst ovr tgr lvs its hgh loo dfl st hP hk p0 p1 x3 x4 x5 y6_8 true (K := (fun (y4_20 : Bool) =>
              if p1 ≤ x5 then
                tw_MO_isPath_h16 fu K st p0 p1 n (x3 + 0) y4_20 (x5 + 1)
              else
                if (b2i y6_8) = 0 then
                  tw_MO_isPath_h16 fu K st p0 p1 n (x3 + 0) y4_20 (x5 + 1)
                else
                  tw_MO_isPath_h16 fu K st p0 p1 n (x3 + 1) y4_20 (x5 + 1))) ?_ (by rw [hV_8, if_pos c_9]) ls (lv_sub hl [1, 2, 3, 4, 5, 6, 7, 0] rfl)
          intro y4_20 hV_20 ls hl
          refine lv_iload_n hx hb d_MO_isPath_127 rfl (lv_at hl 3 rfl) ?_
          refine lv_iload hx hb d_MO_isPath_128 (lv_at hl 5 rfl) ?_
          refine lv_iload_n hx hb d_MO_isPath_130 rfl (lv_at hl 2 rfl) ?_
          refine lv_icmp_ge (tgt := 143) hx hb d_MO_isPath_131 (by decide) (fun c_21 => ?_) (fun c_21 => ?_)
          · refine lv_iconst (v := 0) hx hb d_MO_isPath_143 (by decide) ?_
            refine lv_iadd hx hb d_MO_isPath_144 ?_
            refine lv_istore_n (lv' := [(3, .int (x3 + 0)), (0, .ref aM), (1, .int p0), (2, .int p1), (4, .int (b2i y4_20)), (5, .int x5), (6, .int (b2i y6_8))]) hx hb d_MO_isPath_145 rfl hl (by decide) rfl (fun ls hl => ?_)
            refine lv_iinc (v := x5 + 1) (lv' := [(5, .int (x5 + 1)), (3, .int (x3 + 0)), (0, .ref aM), (1, .int p0), (2, .int p1), (4, .int (b2i y4_20)), (6, .int (b2i y6_8))]) hx hb d_MO_isPath_146 hl (k := 5) rfl rfl (by decide) rfl (fun ls hl => ?_)
            refine lv_goto (tgt := 16) hx hb d_MO_isPath_149 (by decide) ?_
            exact ih (x3 + 0) y4_20 (x5 + 1) (by rw [hV_20, if_pos c_21]) ls (lv_sub hl [2, 3, 4, 1, 5, 0] rfl)
          · refine lv_iload hx hb d_MO_isPath_134 (lv_at hl 6 rfl) ?_
            refine lv_if_eq (tgt := 143) hx hb d_MO_isPath_136 (by decide) (fun c_22 => ?_) (fun c_22 => ?_)
            · refine lv_iconst (v := 0) hx hb d_MO_isPath_143 (by decide) ?_
              refine lv_iadd hx hb d_MO_isPath_144 ?_
              refine lv_istore_n (lv' := [(3, .int (x3 + 0)), (0, .ref aM), (1, .int p0), (2, .int p1), (4, .int (b2i y4_20)), (5, .int x5), (6, .int (b2i y6_8))]) hx hb d_MO_isPath_145 rfl hl (by decide) rfl (fun ls hl => ?_)
              refine lv_iinc (v := x5 + 1) (lv' := [(5, .int (x5 + 1)), (3, .int (x3 + 0)), (0, .ref aM), (1, .int p0), (2, .int p1), (4, .int (b2i y4_20)), (6, .int (b2i y6_8))]) hx hb d_MO_isPath_146 hl (k := 5) rfl rfl (by decide) rfl (fun ls hl => ?_)
              refine lv_goto (tgt := 16) hx hb d_MO_isPath_149 (by decide) ?_
              exact ih (x3 + 0) y4_20 (x5 + 1) (by rw [hV_20, if_neg c_21, if_pos c_22]) ls (lv_sub hl [2, 3, 4, 1, 5, 0] rfl)
            · refine lv_iconst (v := 1) hx hb d_MO_isPath_139 (by decide) ?_
              refine lv_goto (tgt := 144) hx hb d_MO_isPath_140 (by decide) ?_
              refine lv_iadd hx hb d_MO_isPath_144 ?_
              refine lv_istore_n (lv' := [(3, .int (x3 + 1)), (0, .ref aM), (1, .int p0), (2, .int p1), (4, .int (b2i y4_20)), (5, .int x5), (6, .int (b2i y6_8))]) hx hb d_MO_isPath_145 rfl hl (by decide) rfl (fun ls hl => ?_)
              refine lv_iinc (v := x5 + 1) (lv' := [(5, .int (x5 + 1)), (3, .int (x3 + 1)), (0, .ref aM), (1, .int p0), (2, .int p1), (4, .int (b2i y4_20)), (6, .int (b2i y6_8))]) hx hb d_MO_isPath_146 hl (k := 5) rfl rfl (by decide) rfl (fun ls hl => ?_)
              refine lv_goto (tgt := 16) hx hb d_MO_isPath_149 (by decide) ?_
              exact ih (x3 + 1) y4_20 (x5 + 1) (by rw [hV_20, if_neg c_21, if_neg c_22]) ls (lv_sub hl [2, 3, 4, 1, 5, 0] rfl)
        · refine lv_aload_n hx hb d_MO_isPath_59 rfl (lv_at hl 0 rfl) ?_
          refine va_get (D := D) (ci := 11) (v := .ref aMst) (C := R_MO) (T := T_MO) (N := 29) hx hb hT u_MO hown hK hP 0 rfl rfl 1 (by decide) (hT _ k_1044) (fun _ h9 => h9) rfl d_MO_isPath_60 ?_
          refine lv_iload_n hx hb d_MO_isPath_63 rfl (lv_at hl 1 rfl) ?_
          refine lv_iload hx hb d_MO_isPath_64 (lv_at hl 5 rfl) ?_
          refine lv_iadd hx hb d_MO_isPath_66 ?_
          refine lv_iconst (v := 1) hx hb d_MO_isPath_67 (by decide) ?_
          refine lv_isub hx hb d_MO_isPath_68 ?_
          by_cases c_23 : 0 ≤ ((p0 + x5) - 1) ∧ ((p0 + x5) - 1) < 136400
          rotate_left
          · exact op_no hs (by rw [hV_8, if_neg c_9, if_neg c_23])
          refine va_iald hx hb hK hP 1 1 rfl rfl (in_pp c_23.1 c_23.2 rfl) d_MO_isPath_69 ?_
          refine lv_bipush (v := 46) hx hb d_MO_isPath_70 (by decide) ?_
          refine lv_icmp_ne (tgt := 79) hx hb d_MO_isPath_72 (by decide) (fun c_24 => ?_) (fun c_24 => ?_)
          · refine lv_iconst (v := 0) hx hb d_MO_isPath_79 (by decide) ?_
            refine lv_istore (lv' := [(7, .int 0), (0, .ref aM), (1, .int p0), (2, .int p1), (3, .int x3), (4, .int (b2i x4)), (5, .int x5), (6, .int (b2i y6_8))]) hx hb d_MO_isPath_80 hl (by decide) rfl (fun ls hl => ?_)
            refine l_MO_isPath_r82 C0 hs l D cB cI aM aMst aMdcs aMtot aMfrm aMsiz aMffr aMfsz aMlkd aMlat aMkkd aMkat aModr aMgrp aMikd aMiat fu thr tpd frs frt top bgn mst ovr tgr lvs its hgh loo dfl st hP hk p0 p1 x3 x4 x5 y6_8 false (K := (fun (y4_25 : Bool) =>
                if p1 ≤ x5 then
                  tw_MO_isPath_h16 fu K st p0 p1 n (x3 + 0) y4_25 (x5 + 1)
                else
                  if (b2i y6_8) = 0 then
                    tw_MO_isPath_h16 fu K st p0 p1 n (x3 + 0) y4_25 (x5 + 1)
                  else
                    tw_MO_isPath_h16 fu K st p0 p1 n (x3 + 1) y4_25 (x5 + 1))) ?_ (by rw [hV_8, if_neg c_9, if_pos c_23, if_neg c_24]) ls (lv_sub hl [1, 2, 3, 4, 5, 6, 7, 0] rfl)
            intro y4_25 hV_25 ls hl
            refine lv_iload_n hx hb d_MO_isPath_127 rfl (lv_at hl 3 rfl) ?_
            refine lv_iload hx hb d_MO_isPath_128 (lv_at hl 5 rfl) ?_
            refine lv_iload_n hx hb d_MO_isPath_130 rfl (lv_at hl 2 rfl) ?_
            refine lv_icmp_ge (tgt := 143) hx hb d_MO_isPath_131 (by decide) (fun c_26 => ?_) (fun c_26 => ?_)
            · refine lv_iconst (v := 0) hx hb d_MO_isPath_143 (by decide) ?_
              refine lv_iadd hx hb d_MO_isPath_144 ?_
              refine lv_istore_n (lv' := [(3, .int (x3 + 0)), (0, .ref aM), (1, .int p0), (2, .int p1), (4, .int (b2i y4_25)), (5, .int x5), (6, .int (b2i y6_8))]) hx hb d_MO_isPath_145 rfl hl (by decide) rfl (fun ls hl => ?_)
              refine lv_iinc (v := x5 + 1) (lv' := [(5, .int (x5 + 1)), (3, .int (x3 + 0)), (0, .ref aM), (1, .int p0), (2, .int p1), (4, .int (b2i y4_25)), (6, .int (b2i y6_8))]) hx hb d_MO_isPath_146 hl (k := 5) rfl rfl (by decide) rfl (fun ls hl => ?_)
              refine lv_goto (tgt := 16) hx hb d_MO_isPath_149 (by decide) ?_
              exact ih (x3 + 0) y4_25 (x5 + 1) (by rw [hV_25, if_pos c_26]) ls (lv_sub hl [2, 3, 4, 1, 5, 0] rfl)
            · refine lv_iload hx hb d_MO_isPath_134 (lv_at hl 6 rfl) ?_
              refine lv_if_eq (tgt := 143) hx hb d_MO_isPath_136 (by decide) (fun c_27 => ?_) (fun c_27 => ?_)
              · refine lv_iconst (v := 0) hx hb d_MO_isPath_143 (by decide) ?_
                refine lv_iadd hx hb d_MO_isPath_144 ?_
                refine lv_istore_n (lv' := [(3, .int (x3 + 0)), (0, .ref aM), (1, .int p0), (2, .int p1), (4, .int (b2i y4_25)), (5, .int x5), (6, .int (b2i y6_8))]) hx hb d_MO_isPath_145 rfl hl (by decide) rfl (fun ls hl => ?_)
                refine lv_iinc (v := x5 + 1) (lv' := [(5, .int (x5 + 1)), (3, .int (x3 + 0)), (0, .ref aM), (1, .int p0), (2, .int p1), (4, .int (b2i y4_25)), (6, .int (b2i y6_8))]) hx hb d_MO_isPath_146 hl (k := 5) rfl rfl (by decide) rfl (fun ls hl => ?_)
                refine lv_goto (tgt := 16) hx hb d_MO_isPath_149 (by decide) ?_
                exact ih (x3 + 0) y4_25 (x5 + 1) (by rw [hV_25, if_neg c_26, if_pos c_27]) ls (lv_sub hl [2, 3, 4, 1, 5, 0] rfl)
              · refine lv_iconst (v := 1) hx hb d_MO_isPath_139 (by decide) ?_
                refine lv_goto (tgt := 144) hx hb d_MO_isPath_140 (by decide) ?_
                refine lv_iadd hx hb d_MO_isPath_144 ?_
                refine lv_istore_n (lv' := [(3, .int (x3 + 1)), (0, .ref aM), (1, .int p0), (2, .int p1), (4, .int (b2i y4_25)), (5, .int x5), (6, .int (b2i y6_8))]) hx hb d_MO_isPath_145 rfl hl (by decide) rfl (fun ls hl => ?_)
                refine lv_iinc (v := x5 + 1) (lv' := [(5, .int (x5 + 1)), (3, .int (x3 + 1)), (0, .ref aM), (1, .int p0), (2, .int p1), (4, .int (b2i y4_25)), (6, .int (b2i y6_8))]) hx hb d_MO_isPath_146 hl (k := 5) rfl rfl (by decide) rfl (fun ls hl => ?_)
                refine lv_goto (tgt := 16) hx hb d_MO_isPath_149 (by decide) ?_
                exact ih (x3 + 1) y4_25 (x5 + 1) (by rw [hV_25, if_neg c_26, if_neg c_27]) ls (lv_sub hl [2, 3, 4, 1, 5, 0] rfl)
          · refine lv_iconst (v := 1) hx hb d_MO_isPath_75 (by decide) ?_
            refine lv_goto (tgt := 80) hx hb d_MO_isPath_76 (by decide) ?_
            refine lv_istore (lv' := [(7, .int 1), (0, .ref aM), (1, .int p0), (2, .int p1), (3, .int x3), (4, .int (b2i x4)), (5, .int x5), (6, .int (b2i y6_8))]) hx hb d_MO_isPath_80 hl (by decide) rfl (fun ls hl => ?_)
            refine l_MO_isPath_r82 C0 hs l D cB cI aM aMst aMdcs aMtot aMfrm aMsiz aMffr aMfsz aMlkd aMlat aMkkd aMkat aModr aMgrp aMikd aMiat fu thr tpd frs frt top bgn mst ovr tgr lvs its hgh loo dfl st hP hk p0 p1 x3 x4 x5 y6_8 true (K := (fun (y4_28 : Bool) =>
                if p1 ≤ x5 then
                  tw_MO_isPath_h16 fu K st p0 p1 n (x3 + 0) y4_28 (x5 + 1)
                else
                  if (b2i y6_8) = 0 then
                    tw_MO_isPath_h16 fu K st p0 p1 n (x3 + 0) y4_28 (x5 + 1)
                  else
                    tw_MO_isPath_h16 fu K st p0 p1 n (x3 + 1) y4_28 (x5 + 1))) ?_ (by rw [hV_8, if_neg c_9, if_pos c_23, if_pos c_24]) ls (lv_sub hl [1, 2, 3, 4, 5, 6, 7, 0] rfl)
            intro y4_28 hV_28 ls hl
            refine lv_iload_n hx hb d_MO_isPath_127 rfl (lv_at hl 3 rfl) ?_
            refine lv_iload hx hb d_MO_isPath_128 (lv_at hl 5 rfl) ?_
            refine lv_iload_n hx hb d_MO_isPath_130 rfl (lv_at hl 2 rfl) ?_
            refine lv_icmp_ge (tgt := 143) hx hb d_MO_isPath_131 (by decide) (fun c_29 => ?_) (fun c_29 => ?_)
            · refine lv_iconst (v := 0) hx hb d_MO_isPath_143 (by decide) ?_
              refine lv_iadd hx hb d_MO_isPath_144 ?_
              refine lv_istore_n (lv' := [(3, .int (x3 + 0)), (0, .ref aM), (1, .int p0), (2, .int p1), (4, .int (b2i y4_28)), (5, .int x5), (6, .int (b2i y6_8))]) hx hb d_MO_isPath_145 rfl hl (by decide) rfl (fun ls hl => ?_)
              refine lv_iinc (v := x5 + 1) (lv' := [(5, .int (x5 + 1)), (3, .int (x3 + 0)), (0, .ref aM), (1, .int p0), (2, .int p1), (4, .int (b2i y4_28)), (6, .int (b2i y6_8))]) hx hb d_MO_isPath_146 hl (k := 5) rfl rfl (by decide) rfl (fun ls hl => ?_)
              refine lv_goto (tgt := 16) hx hb d_MO_isPath_149 (by decide) ?_
              exact ih (x3 + 0) y4_28 (x5 + 1) (by rw [hV_28, if_pos c_29]) ls (lv_sub hl [2, 3, 4, 1, 5, 0] rfl)
            · refine lv_iload hx hb d_MO_isPath_134 (lv_at hl 6 rfl) ?_
              refine lv_if_eq (tgt := 143) hx hb d_MO_isPath_136 (by decide) (fun c_30 => ?_) (fun c_30 => ?_)
              · refine lv_iconst (v := 0) hx hb d_MO_isPath_143 (by decide) ?_
                refine lv_iadd hx hb d_MO_isPath_144 ?_
                refine lv_istore_n (lv' := [(3, .int (x3 + 0)), (0, .ref aM), (1, .int p0), (2, .int p1), (4, .int (b2i y4_28)), (5, .int x5), (6, .int (b2i y6_8))]) hx hb d_MO_isPath_145 rfl hl (by decide) rfl (fun ls hl => ?_)
                refine lv_iinc (v := x5 + 1) (lv' := [(5, .int (x5 + 1)), (3, .int (x3 + 0)), (0, .ref aM), (1, .int p0), (2, .int p1), (4, .int (b2i y4_28)), (6, .int (b2i y6_8))]) hx hb d_MO_isPath_146 hl (k := 5) rfl rfl (by decide) rfl (fun ls hl => ?_)
                refine lv_goto (tgt := 16) hx hb d_MO_isPath_149 (by decide) ?_
                exact ih (x3 + 0) y4_28 (x5 + 1) (by rw [hV_28, if_neg c_29, if_pos c_30]) ls (lv_sub hl [2, 3, 4, 1, 5, 0] rfl)
              · refine lv_iconst (v := 1) hx hb d_MO_isPath_139 (by decide) ?_
                refine lv_goto (tgt := 144) hx hb d_MO_isPath_140 (by decide) ?_
                refine lv_iadd hx hb d_MO_isPath_144 ?_
                refine lv_istore_n (lv' := [(3, .int (x3 + 1)), (0, .ref aM), (1, .int p0), (2, .int p1), (4, .int (b2i y4_28)), (5, .int x5), (6, .int (b2i y6_8))]) hx hb d_MO_isPath_145 rfl hl (by decide) rfl (fun ls hl => ?_)
                refine lv_iinc (v := x5 + 1) (lv' := [(5, .int (x5 + 1)), (3, .int (x3 + 1)), (0, .ref aM), (1, .int p0), (2, .int p1), (4, .int (b2i y4_28)), (6, .int (b2i y6_8))]) hx hb d_MO_isPath_146 hl (k := 5) rfl rfl (by decide) rfl (fun ls hl => ?_)
                refine lv_goto (tgt := 16) hx hb d_MO_isPath_149 (by decide) ?_
                exact ih (x3 + 1) y4_28 (x5 + 1) (by rw [hV_28, if_neg c_29, if_neg c_30]) ls (lv_sub hl [2, 3, 4, 1, 5, 0] rfl)
set_option maxHeartbeats 4000000 in
set_option maxRecDepth 100000 in
theorem c_MO_isPath (l : Launch) (D : va_G) (cB cI : ClassId) (aM aMst aMdcs aMtot aMfrm aMsiz aMffr aMfsz aMlkd aMlat aMkkd aMkat aModr aMgrp aMikd aMiat : Nat) (fu : Nat) (thr : Int32) (tpd : Int32) (frs : Int32) (frt : Int32) (top : Int32) (bgn : Int32) (mst : Int32) (ovr : Bool) (tgr : Bool) (lvs : Int32) (its : Int32) (hgh : Int64) (loo : Int64) (dfl : Bool) (st : Nat → Int32) (p0 : Int32) (p1 : Int32) (V0 : Bool) (hs : tw_MO_isPath fu st p0 p1 = some V0) : Met l y_MO_isPath mw_MO_isPath { frames := 0, cells := 0, slots := 0, locals := 0 } (va_Pc [.ref aM, .int p0, .int p1] (fun U => va_P D vwCl [(aM, .inr (11, [.int thr, .ref aMst, .int tpd, .ref aMdcs, .ref aMtot, .ref aMfrm, .ref aMsiz, .int frs, .int frt, .ref aMffr, .ref aMfsz, .int top, .int bgn, .int mst, .int (b2i ovr), .int (b2i tgr), .int lvs, .ref aMlkd, .ref aMlat, .ref aMkkd, .ref aMkat, .ref aModr, .ref aMgrp, .int its, .ref aMikd, .ref aMiat, .long hgh, .long loo, .int (b2i dfl)])), (aMst, .inl (cI, 136400, .inl st))] U.heap ∧ hk_ D cB cI U)) (vp_Si (fun r => r = b2i V0)) 0 0 (fun _ => False) := by
  refine Met.ofW (cc := b_MO_isPath) (maxL := 8) (ret := (some .boolean)) (by decide) rfl ?_
  intro p e s m args below meth c s₁ B0 hml hv
  obtain ⟨rfl, hP, hk⟩ := hv
  have hK := hk.1
  have hN := hk.2.1
  have hx := B0.exec
  have hb := B0.bytes
  have hr := B0.returns
  have hT : ∀ w ∈ lw_g, w.before _ s = true := fun w h => atoms_spec (ws := mw_MO_isPath) B0.pre w (List.mem_cons_of_mem _ h)
  have hown : s.vm.findClass R_MO = some m.cls := findClass_of_methodNamed B0.named
  have hlocks := B0.notSynchronized
  have hl := lv_entry ([.ref aM, .int p0, .int p1]) (n := 8) (Nat.le_of_ble_eq_true rfl)
  rw [lg_entry_eq]
  generalize (lg_sl ([.ref aM, .int p0, .int p1]) ++ List.replicate (8 - (lg_sl ([.ref aM, .int p0, .int p1])).length) Slot.unset).toArray = ls at hl ⊢
  have hl : lv_has ls 8 [(0, .ref aM), (1, .int p0), (2, .int p1)] := hl
  have C0 : lc_C p s m meth c _ b_MO_isPath 8 (some .boolean) R_MO lw_g := ⟨hx, hb, hml, hr, hown, hlocks, hT⟩
  refine lv_iconst (v := 1) hx hb d_MO_isPath_0 (by decide) ?_
  refine lv_istore_n (lv' := [(3, .int 1), (0, .ref aM), (1, .int p0), (2, .int p1)]) hx hb d_MO_isPath_1 rfl hl (by decide) rfl (fun ls hl => ?_)
  refine l_MO_isPath_r2 C0 hs l D cB cI aM aMst aMdcs aMtot aMfrm aMsiz aMffr aMfsz aMlkd aMlat aMkkd aMkat aModr aMgrp aMikd aMiat fu thr tpd frs frt top bgn mst ovr tgr lvs its hgh loo dfl st hP hk p0 p1 1 (K := (fun (y4_2 : Bool) =>
      tw_MO_isPath_h16 fu (fun (x3_31 : Int32) (x4_31 : Bool) (x5_31 : Int32) =>
      if (b2i x4_31) = 0 then
        some false
      else
        if 9 ≤ x3_31 then
          some false
        else
          some true) st p0 p1 fu 1 y4_2 0)) ?_ (by rw [tw_MO_isPath]) ls (lv_sub hl [1, 2, 3, 0] rfl)
  intro y4_2 hV_2 ls hl
  refine lv_iconst (v := 0) hx hb d_MO_isPath_13 (by decide) ?_
  refine lv_istore (lv' := [(5, .int 0), (0, .ref aM), (1, .int p0), (2, .int p1), (3, .int 1), (4, .int (b2i y4_2))]) hx hb d_MO_isPath_14 hl (by decide) rfl (fun ls hl => ?_)
  refine l_MO_isPath_h16 C0 hs l D cB cI aM aMst aMdcs aMtot aMfrm aMsiz aMffr aMfsz aMlkd aMlat aMkkd aMkat aModr aMgrp aMikd aMiat fu thr tpd frs frt top bgn mst ovr tgr lvs its hgh loo dfl st hP hk p0 p1  (K := (fun (x3_31 : Int32) (x4_31 : Bool) (x5_31 : Int32) =>
      if (b2i x4_31) = 0 then
        some false
      else
        if 9 ≤ x3_31 then
          some false
        else
          some true)) ?_ fu 1 y4_2 0  (by rw [hV_2]) ls (lv_sub hl [1, 2, 3, 4, 5, 0] rfl)
  intro x3_31 x4_31 x5_31 hV_31 ls hl
  refine lv_iload hx hb d_MO_isPath_152 (lv_at hl 1 rfl) ?_
  refine lv_if_eq (tgt := 167) hx hb d_MO_isPath_154 (by decide) (fun c_32 => ?_) (fun c_32 => ?_)
  · refine lv_iconst (v := 0) hx hb d_MO_isPath_167 (by decide) ?_
    exact W.zret (v := 0) (ty := .boolean) hx hb hr (rfl) (fun t ht hW => ⟨0, rfl, (op_b (x := false) hs (by rw [hV_31, if_pos c_32])), ht⟩) (fun _ h => by cases h) d_MO_isPath_168
  · refine lv_iload_n hx hb d_MO_isPath_157 rfl (lv_at hl 0 rfl) ?_
    refine lv_bipush (v := 9) hx hb d_MO_isPath_158 (by decide) ?_
    refine lv_icmp_ge (tgt := 167) hx hb d_MO_isPath_160 (by decide) (fun c_33 => ?_) (fun c_33 => ?_)
    · refine lv_iconst (v := 0) hx hb d_MO_isPath_167 (by decide) ?_
      exact W.zret (v := 0) (ty := .boolean) hx hb hr (rfl) (fun t ht hW => ⟨0, rfl, (op_b (x := false) hs (by rw [hV_31, if_neg c_32, if_pos c_33])), ht⟩) (fun _ h => by cases h) d_MO_isPath_168
    · refine lv_iconst (v := 1) hx hb d_MO_isPath_163 (by decide) ?_
      refine lv_goto (tgt := 168) hx hb d_MO_isPath_164 (by decide) ?_
      exact W.zret (v := 1) (ty := .boolean) hx hb hr (rfl) (fun t ht hW => ⟨1, rfl, (op_b (x := true) hs (by rw [hV_31, if_neg c_32, if_neg c_33])), ht⟩) (fun _ h => by cases h) d_MO_isPath_168
set_option maxHeartbeats 4000000 in
set_option maxRecDepth 100000 in
theorem l_MO_isSet_h35 {p : Program} {e : Env} {s : State} {m : MethodId} {args : Array Value} {below : List Frame} {meth : Method} {c : Code} {V : Option (Bool)} {V0 : Bool} (C0 : lc_C p s m meth c args b_MO_isSet 5 (some .boolean) R_MO lw_g) (hs : V = some V0) (l : Launch) (D : va_G) (cB cI : ClassId) (aM aMst aMdcs aMtot aMfrm aMsiz aMffr aMfsz aMlkd aMlat aMkkd aMkat aModr aMgrp aMikd aMiat : Nat) (fu : Nat) (thr : Int32) (tpd : Int32) (frs : Int32) (frt : Int32) (top : Int32) (bgn : Int32) (mst : Int32) (ovr : Bool) (tgr : Bool) (lvs : Int32) (its : Int32) (hgh : Int64) (loo : Int64) (dfl : Bool) (st : Nat → Int32) (hP : va_P D vwCl [(aM, .inr (11, [.int thr, .ref aMst, .int tpd, .ref aMdcs, .ref aMtot, .ref aMfrm, .ref aMsiz, .int frs, .int frt, .ref aMffr, .ref aMfsz, .int top, .int bgn, .int mst, .int (b2i ovr), .int (b2i tgr), .int lvs, .ref aMlkd, .ref aMlat, .ref aMkkd, .ref aMkat, .ref aModr, .ref aMgrp, .int its, .ref aMikd, .ref aMiat, .long hgh, .long loo, .int (b2i dfl)])), (aMst, .inl (cI, 136400, .inl st))] s.heap) (hk : hk_ D cB cI s) (p0 : Int32) {K : Int64 → Int32 → Option (Bool)} (hKx : ∀ (x2 : Int64) (x4 : Int32), V = K x2 x4 → ∀ ls : Array Slot, lv_has ls 5 [] → W p l e ({ frames := 1, cells := 0, slots := 0, locals := 22 }) s m args below meth c s.heap [] 0 0 (MQ below (vp_Si (fun r => r = b2i V0)) args s 0 0 (fun _ => False)) (F0 m 73 ls [])) : ∀ (n : Nat) (x2 : Int64) (x4 : Int32), V = tw_MO_isSet_h35 fu K st p0 n x2 x4 → ∀ ls : Array Slot, lv_has ls 5 [(0, .ref aM), (1, .int p0), (2, .long x2), (4, .int x4)] → W p l e ({ frames := 1, cells := 0, slots := 0, locals := 22 }) s m args below meth c s.heap [] 0 0 (MQ below (vp_Si (fun r => r = b2i V0)) args s 0 0 (fun _ => False)) (F0 m 35 ls []) := by
  obtain ⟨hx, hb, hml, hr, hown, hlocks, hT⟩ := id C0
  have hK := hk.1
  have hN := hk.2.1
  intro n
  induction n with
  | zero =>
    intro x2 x4 hV
    exact op_no hs (hV.trans rfl)
  | succ n ih =>
    intro x2 x4 hV ls hl
    refine lv_iload hx hb d_MO_isSet_35 (lv_at hl 3 rfl) ?_
    refine lv_bipush (v := 9) hx hb d_MO_isSet_37 (by decide) ?_
    refine lv_icmp_ge (tgt := 73) hx hb d_MO_isSet_39 (by decide) (fun c_5 => ?_) (fun c_5 => ?_)
    · exact hKx x2 x4 (by rw [hV, tw_MO_isSet_h35, if_pos c_5]) ls (lv_sub hl [] rfl)
    · refine lv_aload_n hx hb d_MO_isSet_42 rfl (lv_at hl 0 rfl) ?_
      refine va_get (D := D) (ci := 11) (v := .ref aMst) (C := R_MO) (T := T_MO) (N := 29) hx hb hT u_MO hown hK hP 0 rfl rfl 1 (by decide) (hT _ k_1044) (fun _ h9 => h9) rfl d_MO_isSet_43 ?_
      refine lv_iload_n hx hb d_MO_isSet_46 rfl (lv_at hl 1 rfl) ?_
      refine lv_iload hx hb d_MO_isSet_47 (lv_at hl 3 rfl) ?_
      refine lv_iadd hx hb d_MO_isSet_49 ?_
      by_cases c_6 : 0 ≤ (p0 + x4) ∧ (p0 + x4) < 136400
      rotate_left
      · exact op_no hs (by rw [hV, tw_MO_isSet_h35, if_neg c_5, if_neg c_6])
      refine va_iald hx hb hK hP 1 1 rfl rfl (in_pp c_6.1 c_6.2 rfl) d_MO_isSet_50 ?_
      refine lv_lload_n hx hb d_MO_isSet_51 rfl (lv_at hl 2 rfl) ?_
      refine lv_ldc2 (v := 255) hx hb hown (hT _ k_1221) d_MO_isSet_52 ?_
      refine lv_land hx hb d_MO_isSet_55 ?_
      refine lv_l2i (v := (x2 &&& 255).toInt32) hx hb d_MO_isSet_56 rfl ?_
      refine lv_icmp_eq (tgt := 62) hx hb d_MO_isSet_57 (by decide) (fun c_7 => ?_) (fun c_7 => ?_)
      · refine lv_lload_n hx hb d_MO_isSet_62 rfl (lv_at hl 2 rfl) ?_
        refine lv_bipush (v := 8) hx hb d_MO_isSet_63 (by decide) ?_
        refine lv_lshr hx hb d_MO_isSet_65 rfl ?_
        refine lv_lstore_n (lv' := [(2, .long (x2 >>> ((8 : Int32).toInt64 &&& 63))), (0, .ref aM), (1, .int p0), (4, .int x4)]) hx hb d_MO_isSet_66 rfl hl (by decide) rfl (fun ls hl => ?_)
        refine lv_iinc (v := x4 + 1) (lv' := [(4, .int (x4 + 1)), (2, .long (x2 >>> ((8 : Int32).toInt64 &&& 63))), (0, .ref aM), (1, .int p0)]) hx hb d_MO_isSet_67 hl (k := 3) rfl rfl (by decide) rfl (fun ls hl => ?_)
        refine lv_goto (tgt := 35) hx hb d_MO_isSet_70 (by decide) ?_
        exact ih (x2 >>> ((8 : Int32).toInt64 &&& 63)) (x4 + 1) (by rw [hV, tw_MO_isSet_h35, if_neg c_5, if_pos c_6, if_pos c_7]) ls (lv_sub hl [2, 3, 1, 0] rfl)
      · refine lv_iconst (v := 0) hx hb d_MO_isSet_60 (by decide) ?_
        exact W.zret (v := 0) (ty := .boolean) hx hb hr (rfl) (fun t ht hW => ⟨0, rfl, (op_b (x := false) hs (by rw [hV, tw_MO_isSet_h35, if_neg c_5, if_pos c_6, if_neg c_7])), ht⟩) (fun _ h => by cases h) d_MO_isSet_61
set_option maxHeartbeats 4000000 in
set_option maxRecDepth 100000 in
theorem c_MO_isSet (l : Launch) (D : va_G) (cB cI : ClassId) (aM aMst aMdcs aMtot aMfrm aMsiz aMffr aMfsz aMlkd aMlat aMkkd aMkat aModr aMgrp aMikd aMiat : Nat) (fu : Nat) (thr : Int32) (tpd : Int32) (frs : Int32) (frt : Int32) (top : Int32) (bgn : Int32) (mst : Int32) (ovr : Bool) (tgr : Bool) (lvs : Int32) (its : Int32) (hgh : Int64) (loo : Int64) (dfl : Bool) (st : Nat → Int32) (p0 : Int32) (V0 : Bool) (hs : tw_MO_isSet fu st p0 = some V0) : Met l y_MO_isSet mw_MO_isSet { frames := 1, cells := 0, slots := 0, locals := 22 } (va_Pc [.ref aM, .int p0] (fun U => va_P D vwCl [(aM, .inr (11, [.int thr, .ref aMst, .int tpd, .ref aMdcs, .ref aMtot, .ref aMfrm, .ref aMsiz, .int frs, .int frt, .ref aMffr, .ref aMfsz, .int top, .int bgn, .int mst, .int (b2i ovr), .int (b2i tgr), .int lvs, .ref aMlkd, .ref aMlat, .ref aMkkd, .ref aMkat, .ref aModr, .ref aMgrp, .int its, .ref aMikd, .ref aMiat, .long hgh, .long loo, .int (b2i dfl)])), (aMst, .inl (cI, 136400, .inl st))] U.heap ∧ hk_ D cB cI U)) (vp_Si (fun r => r = b2i V0)) 0 0 (fun _ => False) := by
  refine Met.ofW (cc := b_MO_isSet) (maxL := 5) (ret := (some .boolean)) (by decide) rfl ?_
  intro p e s m args below meth c s₁ B0 hml hv
  obtain ⟨rfl, hP, hk⟩ := hv
  have hK := hk.1
  have hN := hk.2.1
  have hx := B0.exec
  have hb := B0.bytes
  have hr := B0.returns
  have hT : ∀ w ∈ lw_g, w.before _ s = true := fun w h => atoms_spec (ws := mw_MO_isSet) B0.pre w (List.mem_cons_of_mem _ h)
  have hown : s.vm.findClass R_MO = some m.cls := findClass_of_methodNamed B0.named
  have hlocks := B0.notSynchronized
  have hl := lv_entry ([.ref aM, .int p0]) (n := 5) (Nat.le_of_ble_eq_true rfl)
  rw [lg_entry_eq]
  generalize (lg_sl ([.ref aM, .int p0]) ++ List.replicate (5 - (lg_sl ([.ref aM, .int p0])).length) Slot.unset).toArray = ls at hl ⊢
  have hl : lv_has ls 5 [(0, .ref aM), (1, .int p0)] := hl
  have C0 : lc_C p s m meth c _ b_MO_isSet 5 (some .boolean) R_MO lw_g := ⟨hx, hb, hml, hr, hown, hlocks, hT⟩
  refine lv_aload_n hx hb d_MO_isSet_0 rfl (lv_at hl 0 rfl) ?_
  refine lv_iload_n hx hb d_MO_isSet_1 rfl (lv_at hl 1 rfl) ?_
  rcases h_1 : tw_MO_nameEndOf fu st p0 with _ | r_1
  · exact op_no hs (by rw [tw_MO_isSet, h_1, ob1_no])
  refine rd_V (val := r_1) (As := [.int p0]) (rest := []) ⟨hx, hb, hml, hown, hT⟩ (c_MO_nameEndOf l D cB cI aM aMst aMdcs aMtot aMfrm aMsiz aMffr aMfsz aMlkd aMlat aMkkd aMkat aModr aMgrp aMikd aMiat fu thr tpd frs frt top bgn mst ovr tgr lvs its hgh loo dfl st p0 r_1 h_1) (cwV 1 hT (gV_of k_1174 k_1176 kp_MO_nameEndOf k_12 kc_MO_nameEndOf) rfl rfl rfl hd_MO_nameEndOf ⟨Nat.le_of_ble_eq_true rfl, Nat.le_of_ble_eq_true rfl⟩) hk hP (q0 := 0) rfl rfl rfl rfl hl.1 rfl (Nat.le_of_ble_eq_true rfl) d_MO_isSet_2 ⟨Nat.zero_le _, Nat.zero_le _⟩ ?_
  refine lv_iload_n hx hb d_MO_isSet_5 rfl (lv_at hl 1 rfl) ?_
  refine lv_bipush (v := 10) hx hb d_MO_isSet_6 (by decide) ?_
  refine lv_iadd hx hb d_MO_isSet_8 ?_
  refine lv_icmp_ne (tgt := 26) hx hb d_MO_isSet_9 (by decide) (fun c_2 => ?_) (fun c_2 => ?_)
  · refine lv_iconst (v := 0) hx hb d_MO_isSet_26 (by decide) ?_
    exact W.zret (v := 0) (ty := .boolean) hx hb hr (rfl) (fun t ht hW => ⟨0, rfl, (op_b (x := false) hs (by rw [tw_MO_isSet, h_1, ob1_mk, if_neg c_2])), ht⟩) (fun _ h => by cases h) d_MO_isSet_27
  · refine lv_aload_n hx hb d_MO_isSet_12 rfl (lv_at hl 0 rfl) ?_
    refine va_get (D := D) (ci := 11) (v := .ref aMst) (C := R_MO) (T := T_MO) (N := 29) hx hb hT u_MO hown hK hP 0 rfl rfl 1 (by decide) (hT _ k_1044) (fun _ h9 => h9) rfl d_MO_isSet_13 ?_
    refine lv_iload_n hx hb d_MO_isSet_16 rfl (lv_at hl 1 rfl) ?_
    refine lv_bipush (v := 9) hx hb d_MO_isSet_17 (by decide) ?_
    refine lv_iadd hx hb d_MO_isSet_19 ?_
    by_cases c_3 : 0 ≤ (p0 + 9) ∧ (p0 + 9) < 136400
    rotate_left
    · exact op_no hs (by rw [tw_MO_isSet, h_1, ob1_mk, if_pos c_2, if_neg c_3])
    refine va_iald hx hb hK hP 1 1 rfl rfl (in_pp c_3.1 c_3.2 rfl) d_MO_isSet_20 ?_
    refine lv_bipush (v := 116) hx hb d_MO_isSet_21 (by decide) ?_
    refine lv_icmp_eq (tgt := 28) hx hb d_MO_isSet_23 (by decide) (fun c_4 => ?_) (fun c_4 => ?_)
    · refine lv_ldc2 (v := 7301301829149942052) hx hb hown (hT _ k_1272) d_MO_isSet_28 ?_
      refine lv_lstore_n (lv' := [(2, .long 7301301829149942052), (0, .ref aM), (1, .int p0)]) hx hb d_MO_isSet_31 rfl hl (by decide) rfl (fun ls hl => ?_)
      refine lv_iconst (v := 1) hx hb d_MO_isSet_32 (by decide) ?_
      refine lv_istore (lv' := [(4, .int 1), (2, .long 7301301829149942052), (0, .ref aM), (1, .int p0)]) hx hb d_MO_isSet_33 hl (by decide) rfl (fun ls hl => ?_)
      refine l_MO_isSet_h35 C0 hs l D cB cI aM aMst aMdcs aMtot aMfrm aMsiz aMffr aMfsz aMlkd aMlat aMkkd aMkat aModr aMgrp aMikd aMiat fu thr tpd frs frt top bgn mst ovr tgr lvs its hgh loo dfl st hP hk p0  (K := (fun (x2_8 : Int64) (x4_8 : Int32) =>
          some true)) ?_ fu 7301301829149942052 1  (by rw [tw_MO_isSet, h_1, ob1_mk, if_pos c_2, if_pos c_3, if_pos c_4]) ls (lv_sub hl [2, 3, 1, 0] rfl)
      intro x2_8 x4_8 hV_8 ls hl
      refine lv_iconst (v := 1) hx hb d_MO_isSet_73 (by decide) ?_
      exact W.zret (v := 1) (ty := .boolean) hx hb hr (rfl) (fun t ht hW => ⟨1, rfl, (op_b (x := true) hs (by rw [hV_8])), ht⟩) (fun _ h => by cases h) d_MO_isSet_74
    · refine lv_iconst (v := 0) hx hb d_MO_isSet_26 (by decide) ?_
      exact W.zret (v := 0) (ty := .boolean) hx hb hr (rfl) (fun t ht hW => ⟨0, rfl, (op_b (x := false) hs (by rw [tw_MO_isSet, h_1, ob1_mk, if_pos c_2, if_pos c_3, if_neg c_4])), ht⟩) (fun _ h => by cases h) d_MO_isSet_27
set_option maxHeartbeats 4000000 in
set_option maxRecDepth 100000 in
theorem l_MO_isPlain_r30 {p : Program} {e : Env} {s : State} {m : MethodId} {args : Array Value} {below : List Frame} {meth : Method} {c : Code} {V : Option (Bool)} {V0 : Bool} (C0 : lc_C p s m meth c args b_MO_isPlain 5 (some .boolean) R_MO lw_g) (hs : V = some V0) (l : Launch) (D : va_G) (cB cI : ClassId) (aM aMst aMdcs aMtot aMfrm aMsiz aMffr aMfsz aMlkd aMlat aMkkd aMkat aModr aMgrp aMikd aMiat : Nat) (fu : Nat) (thr : Int32) (tpd : Int32) (frs : Int32) (frt : Int32) (top : Int32) (bgn : Int32) (mst : Int32) (ovr : Bool) (tgr : Bool) (lvs : Int32) (its : Int32) (hgh : Int64) (loo : Int64) (dfl : Bool) (st : Nat → Int32) (hP : va_P D vwCl [(aM, .inr (11, [.int thr, .ref aMst, .int tpd, .ref aMdcs, .ref aMtot, .ref aMfrm, .ref aMsiz, .int frs, .int frt, .ref aMffr, .ref aMfsz, .int top, .int bgn, .int mst, .int (b2i ovr), .int (b2i tgr), .int lvs, .ref aMlkd, .ref aMlat, .ref aMkkd, .ref aMkat, .ref aModr, .ref aMgrp, .int its, .ref aMikd, .ref aMiat, .long hgh, .long loo, .int (b2i dfl)])), (aMst, .inl (cI, 136400, .inl st))] s.heap) (hk : hk_ D cB cI s) (x1 : Int32) (x2 : Int32) (x3 : Bool) (x4 : Int32) {K : Bool → Option (Bool)} (hKx : ∀ (y3 : Bool), V = K y3 → ∀ ls : Array Slot, lv_has ls 5 [(0, .ref aM), (1, .int x1), (2, .int x2), (3, .int (b2i y3)), (4, .int x4)] → W p l e ({ frames := 0, cells := 0, slots := 0, locals := 0 }) s m args below meth c s.heap [] 0 0 (MQ below (vp_Si (fun r => r = b2i V0)) args s 0 0 (fun _ => False)) (F0 m 66 ls [])) (hV : V = tw_MO_isPlain_r30 fu K st x1 x2 x3 x4) : ∀ ls : Array Slot, lv_has ls 5 [(0, .ref aM), (1, .int x1), (2, .int x2), (3, .int (b2i x3)), (4, .int x4)] → W p l e ({ frames := 0, cells := 0, slots := 0, locals := 0 }) s m args below meth c s.heap [] 0 0 (MQ below (vp_Si (fun r => r = b2i V0)) args s 0 0 (fun _ => False)) (F0 m 30 ls []) := by
  obtain ⟨hx, hb, hml, hr, hown, hlocks, hT⟩ := id C0
  have hK := hk.1
  have hN := hk.2.1
  intro ls hl
  refine lv_iload_n hx hb d_MO_isPlain_30 rfl (lv_at hl 3 rfl) ?_
  refine lv_if_eq (tgt := 64) hx hb d_MO_isPlain_31 (by decide) (fun c_3 => ?_) (fun c_3 => ?_)
  · refine lv_iconst (v := 0) hx hb d_MO_isPlain_64 (by decide) ?_
    refine lv_istore_n (lv' := [(3, .int 0), (0, .ref aM), (1, .int x1), (2, .int x2), (4, .int x4)]) hx hb d_MO_isPlain_65 rfl hl (by decide) rfl (fun ls hl => ?_)
    exact hKx false (by rw [hV, tw_MO_isPlain_r30, if_pos c_3]) ls (lv_sub hl [1, 2, 3, 0, 4] rfl)
  · refine lv_aload_n hx hb d_MO_isPlain_34 rfl (lv_at hl 0 rfl) ?_
    refine va_get (D := D) (ci := 11) (v := .ref aMst) (C := R_MO) (T := T_MO) (N := 29) hx hb hT u_MO hown hK hP 0 rfl rfl 1 (by decide) (hT _ k_1044) (fun _ h9 => h9) rfl d_MO_isPlain_35 ?_
    refine lv_iload_n hx hb d_MO_isPlain_38 rfl (lv_at hl 1 rfl) ?_
    refine lv_iload hx hb d_MO_isPlain_39 (lv_at hl 4 rfl) ?_
    refine lv_iadd hx hb d_MO_isPlain_41 ?_
    by_cases c_4 : 0 ≤ (x1 + x4) ∧ (x1 + x4) < 136400
    rotate_left
    · exact op_no hs (by rw [hV, tw_MO_isPlain_r30, if_neg c_3, if_neg c_4])
    refine va_iald hx hb hK hP 1 1 rfl rfl (in_pp c_4.1 c_4.2 rfl) d_MO_isPlain_42 ?_
    refine lv_bipush (v := 46) hx hb d_MO_isPlain_43 (by decide) ?_
    refine lv_icmp_eq (tgt := 64) hx hb d_MO_isPlain_45 (by decide) (fun c_5 => ?_) (fun c_5 => ?_)
    · refine lv_iconst (v := 0) hx hb d_MO_isPlain_64 (by decide) ?_
      refine lv_istore_n (lv' := [(3, .int 0), (0, .ref aM), (1, .int x1), (2, .int x2), (4, .int x4)]) hx hb d_MO_isPlain_65 rfl hl (by decide) rfl (fun ls hl => ?_)
      exact hKx false (by rw [hV, tw_MO_isPlain_r30, if_neg c_3, if_pos c_4, if_pos c_5]) ls (lv_sub hl [1, 2, 3, 0, 4] rfl)
    · refine lv_aload_n hx hb d_MO_isPlain_48 rfl (lv_at hl 0 rfl) ?_
      refine va_get (D := D) (ci := 11) (v := .ref aMst) (C := R_MO) (T := T_MO) (N := 29) hx hb hT u_MO hown hK hP 0 rfl rfl 1 (by decide) (hT _ k_1044) (fun _ h9 => h9) rfl d_MO_isPlain_49 ?_
      refine lv_iload_n hx hb d_MO_isPlain_52 rfl (lv_at hl 1 rfl) ?_
      refine lv_iload hx hb d_MO_isPlain_53 (lv_at hl 4 rfl) ?_
      refine lv_iadd hx hb d_MO_isPlain_55 ?_
      refine va_iald hx hb hK hP 1 1 rfl rfl (in_pp c_4.1 c_4.2 rfl) d_MO_isPlain_56 ?_
      refine lv_if_eq (tgt := 64) hx hb d_MO_isPlain_57 (by decide) (fun c_6 => ?_) (fun c_6 => ?_)
      · refine lv_iconst (v := 0) hx hb d_MO_isPlain_64 (by decide) ?_
        refine lv_istore_n (lv' := [(3, .int 0), (0, .ref aM), (1, .int x1), (2, .int x2), (4, .int x4)]) hx hb d_MO_isPlain_65 rfl hl (by decide) rfl (fun ls hl => ?_)
        exact hKx false (by rw [hV, tw_MO_isPlain_r30, if_neg c_3, if_pos c_4, if_neg c_5, if_pos c_6]) ls (lv_sub hl [1, 2, 3, 0, 4] rfl)
      · refine lv_iconst (v := 1) hx hb d_MO_isPlain_60 (by decide) ?_
        refine lv_goto (tgt := 65) hx hb d_MO_isPlain_61 (by decide) ?_
        refine lv_istore_n (lv' := [(3, .int 1), (0, .ref aM), (1, .int x1), (2, .int x2), (4, .int x4)]) hx hb d_MO_isPlain_65 rfl hl (by decide) rfl (fun ls hl => ?_)
        exact hKx true (by rw [hV, tw_MO_isPlain_r30, if_neg c_3, if_pos c_4, if_neg c_5, if_neg c_6]) ls (lv_sub hl [1, 2, 3, 0, 4] rfl)
set_option maxHeartbeats 4000000 in
set_option maxRecDepth 100000 in
theorem l_MO_isPlain_h24 {p : Program} {e : Env} {s : State} {m : MethodId} {args : Array Value} {below : List Frame} {meth : Method} {c : Code} {V : Option (Bool)} {V0 : Bool} (C0 : lc_C p s m meth c args b_MO_isPlain 5 (some .boolean) R_MO lw_g) (hs : V = some V0) (l : Launch) (D : va_G) (cB cI : ClassId) (aM aMst aMdcs aMtot aMfrm aMsiz aMffr aMfsz aMlkd aMlat aMkkd aMkat aModr aMgrp aMikd aMiat : Nat) (fu : Nat) (thr : Int32) (tpd : Int32) (frs : Int32) (frt : Int32) (top : Int32) (bgn : Int32) (mst : Int32) (ovr : Bool) (tgr : Bool) (lvs : Int32) (its : Int32) (hgh : Int64) (loo : Int64) (dfl : Bool) (st : Nat → Int32) (hP : va_P D vwCl [(aM, .inr (11, [.int thr, .ref aMst, .int tpd, .ref aMdcs, .ref aMtot, .ref aMfrm, .ref aMsiz, .int frs, .int frt, .ref aMffr, .ref aMfsz, .int top, .int bgn, .int mst, .int (b2i ovr), .int (b2i tgr), .int lvs, .ref aMlkd, .ref aMlat, .ref aMkkd, .ref aMkat, .ref aModr, .ref aMgrp, .int its, .ref aMikd, .ref aMiat, .long hgh, .long loo, .int (b2i dfl)])), (aMst, .inl (cI, 136400, .inl st))] s.heap) (hk : hk_ D cB cI s) (p0 : Int32) (p1 : Int32) {K : Bool → Int32 → Option (Bool)} (hKx : ∀ (x3 : Bool) (x4 : Int32), V = K x3 x4 → ∀ ls : Array Slot, lv_has ls 5 [(3, .int (b2i x3))] → W p l e ({ frames := 0, cells := 0, slots := 0, locals := 0 }) s m args below meth c s.heap [] 0 0 (MQ below (vp_Si (fun r => r = b2i V0)) args s 0 0 (fun _ => False)) (F0 m 72 ls [])) : ∀ (n : Nat) (x3 : Bool) (x4 : Int32), V = tw_MO_isPlain_h24 fu K st p0 p1 n x3 x4 → ∀ ls : Array Slot, lv_has ls 5 [(0, .ref aM), (1, .int p0), (2, .int p1), (3, .int (b2i x3)), (4, .int x4)] → W p l e ({ frames := 0, cells := 0, slots := 0, locals := 0 }) s m args below meth c s.heap [] 0 0 (MQ below (vp_Si (fun r => r = b2i V0)) args s 0 0 (fun _ => False)) (F0 m 24 ls []) := by
  obtain ⟨hx, hb, hml, hr, hown, hlocks, hT⟩ := id C0
  have hK := hk.1
  have hN := hk.2.1
  intro n
  induction n with
  | zero =>
    intro x3 x4 hV
    exact op_no hs (hV.trans rfl)
  | succ n ih =>
    intro x3 x4 hV ls hl
    refine lv_iload hx hb d_MO_isPlain_24 (lv_at hl 4 rfl) ?_
    refine lv_iload_n hx hb d_MO_isPlain_26 rfl (lv_at hl 2 rfl) ?_
    refine lv_icmp_ge (tgt := 72) hx hb d_MO_isPlain_27 (by decide) (fun c_2 => ?_) (fun c_2 => ?_)
    · exact hKx x3 x4 (by rw [hV, tw_MO_isPlain_h24, if_pos c_2]) ls (lv_sub hl [3] rfl)
    · refine l_MO_isPlain_r30 C0 hs l D cB cI aM aMst aMdcs aMtot aMfrm aMsiz aMffr aMfsz aMlkd aMlat aMkkd aMkat aModr aMgrp aMikd aMiat fu thr tpd frs frt top bgn mst ovr tgr lvs its hgh loo dfl st hP hk p0 p1 x3 x4 (K := (fun (y3_7 : Bool) =>
          tw_MO_isPlain_h24 fu K st p0 p1 n y3_7 (x4 + 1))) ?_ (by rw [hV, tw_MO_isPlain_h24, if_neg c_2]) ls (lv_sub hl [0, 1, 2, 3, 4] rfl)
      intro y3_7 hV_7 ls hl
      refine lv_iinc (v := x4 + 1) (lv' := [(4, .int (x4 + 1)), (0, .ref aM), (1, .int p0), (2, .int p1), (3, .int (b2i y3_7))]) hx hb d_MO_isPlain_66 hl (k := 4) rfl rfl (by decide) rfl (fun ls hl => ?_)
      refine lv_goto (tgt := 24) hx hb d_MO_isPlain_69 (by decide) ?_
      exact ih y3_7 (x4 + 1) (by rw [hV_7]) ls (lv_sub hl [1, 2, 3, 4, 0] rfl)
set_option maxHeartbeats 4000000 in
set_option maxRecDepth 100000 in
theorem c_MO_isPlain (l : Launch) (D : va_G) (cB cI : ClassId) (aM aMst aMdcs aMtot aMfrm aMsiz aMffr aMfsz aMlkd aMlat aMkkd aMkat aModr aMgrp aMikd aMiat : Nat) (fu : Nat) (thr : Int32) (tpd : Int32) (frs : Int32) (frt : Int32) (top : Int32) (bgn : Int32) (mst : Int32) (ovr : Bool) (tgr : Bool) (lvs : Int32) (its : Int32) (hgh : Int64) (loo : Int64) (dfl : Bool) (st : Nat → Int32) (p0 : Int32) (p1 : Int32) (V0 : Bool) (hs : tw_MO_isPlain fu st p0 p1 = some V0) : Met l y_MO_isPlain mw_MO_isPlain { frames := 0, cells := 0, slots := 0, locals := 0 } (va_Pc [.ref aM, .int p0, .int p1] (fun U => va_P D vwCl [(aM, .inr (11, [.int thr, .ref aMst, .int tpd, .ref aMdcs, .ref aMtot, .ref aMfrm, .ref aMsiz, .int frs, .int frt, .ref aMffr, .ref aMfsz, .int top, .int bgn, .int mst, .int (b2i ovr), .int (b2i tgr), .int lvs, .ref aMlkd, .ref aMlat, .ref aMkkd, .ref aMkat, .ref aModr, .ref aMgrp, .int its, .ref aMikd, .ref aMiat, .long hgh, .long loo, .int (b2i dfl)])), (aMst, .inl (cI, 136400, .inl st))] U.heap ∧ hk_ D cB cI U)) (vp_Si (fun r => r = b2i V0)) 0 0 (fun _ => False) := by
  refine Met.ofW (cc := b_MO_isPlain) (maxL := 5) (ret := (some .boolean)) (by decide) rfl ?_
  intro p e s m args below meth c s₁ B0 hml hv
  obtain ⟨rfl, hP, hk⟩ := hv
  have hK := hk.1
  have hN := hk.2.1
  have hx := B0.exec
  have hb := B0.bytes
  have hr := B0.returns
  have hT : ∀ w ∈ lw_g, w.before _ s = true := fun w h => atoms_spec (ws := mw_MO_isPlain) B0.pre w (List.mem_cons_of_mem _ h)
  have hown : s.vm.findClass R_MO = some m.cls := findClass_of_methodNamed B0.named
  have hlocks := B0.notSynchronized
  have hl := lv_entry ([.ref aM, .int p0, .int p1]) (n := 5) (Nat.le_of_ble_eq_true rfl)
  rw [lg_entry_eq]
  generalize (lg_sl ([.ref aM, .int p0, .int p1]) ++ List.replicate (5 - (lg_sl ([.ref aM, .int p0, .int p1])).length) Slot.unset).toArray = ls at hl ⊢
  have hl : lv_has ls 5 [(0, .ref aM), (1, .int p0), (2, .int p1)] := hl
  have C0 : lc_C p s m meth c _ b_MO_isPlain 5 (some .boolean) R_MO lw_g := ⟨hx, hb, hml, hr, hown, hlocks, hT⟩
  refine lv_iload_n hx hb d_MO_isPlain_0 rfl (lv_at hl 2 rfl) ?_
  refine lv_if_le (tgt := 19) hx hb d_MO_isPlain_1 (by decide) (fun c_1 => ?_) (fun c_1 => ?_)
  · refine lv_iconst (v := 0) hx hb d_MO_isPlain_19 (by decide) ?_
    refine lv_istore_n (lv' := [(3, .int 0), (0, .ref aM), (1, .int p0), (2, .int p1)]) hx hb d_MO_isPlain_20 rfl hl (by decide) rfl (fun ls hl => ?_)
    refine lv_iconst (v := 0) hx hb d_MO_isPlain_21 (by decide) ?_
    refine lv_istore (lv' := [(4, .int 0), (3, .int 0), (0, .ref aM), (1, .int p0), (2, .int p1)]) hx hb d_MO_isPlain_22 hl (by decide) rfl (fun ls hl => ?_)
    refine l_MO_isPlain_h24 C0 hs l D cB cI aM aMst aMdcs aMtot aMfrm aMsiz aMffr aMfsz aMlkd aMlat aMkkd aMkat aModr aMgrp aMikd aMiat fu thr tpd frs frt top bgn mst ovr tgr lvs its hgh loo dfl st hP hk p0 p1  (K := (fun (x3_8 : Bool) (x4_8 : Int32) =>
        some x3_8)) ?_ fu false 0  (by rw [tw_MO_isPlain, if_pos c_1]) ls (lv_sub hl [2, 3, 4, 1, 0] rfl)
    intro x3_8 x4_8 hV_8 ls hl
    refine lv_iload_n hx hb d_MO_isPlain_72 rfl (lv_at hl 0 rfl) ?_
    exact W.zret (v := b2i x3_8) (ty := .boolean) hx hb hr (b2i_nar _) (fun t ht hW => ⟨b2i x3_8, rfl, (op_b (x := x3_8) hs (by rw [hV_8])), ht⟩) (fun _ h => by cases h) d_MO_isPlain_73
  · refine lv_aload_n hx hb d_MO_isPlain_4 rfl (lv_at hl 0 rfl) ?_
    refine va_get (D := D) (ci := 11) (v := .ref aMst) (C := R_MO) (T := T_MO) (N := 29) hx hb hT u_MO hown hK hP 0 rfl rfl 1 (by decide) (hT _ k_1044) (fun _ h9 => h9) rfl d_MO_isPlain_5 ?_
    refine lv_iload_n hx hb d_MO_isPlain_8 rfl (lv_at hl 1 rfl) ?_
    by_cases c_9 : 0 ≤ p0 ∧ p0 < 136400
    rotate_left
    · exact op_no hs (by rw [tw_MO_isPlain, if_neg c_1, if_neg c_9])
    refine va_iald hx hb hK hP 1 1 rfl rfl (in_pp c_9.1 c_9.2 rfl) d_MO_isPlain_9 ?_
    refine lv_bipush (v := 36) hx hb d_MO_isPlain_10 (by decide) ?_
    refine lv_icmp_eq (tgt := 19) hx hb d_MO_isPlain_12 (by decide) (fun c_10 => ?_) (fun c_10 => ?_)
    · refine lv_iconst (v := 0) hx hb d_MO_isPlain_19 (by decide) ?_
      refine lv_istore_n (lv' := [(3, .int 0), (0, .ref aM), (1, .int p0), (2, .int p1)]) hx hb d_MO_isPlain_20 rfl hl (by decide) rfl (fun ls hl => ?_)
      refine lv_iconst (v := 0) hx hb d_MO_isPlain_21 (by decide) ?_
      refine lv_istore (lv' := [(4, .int 0), (3, .int 0), (0, .ref aM), (1, .int p0), (2, .int p1)]) hx hb d_MO_isPlain_22 hl (by decide) rfl (fun ls hl => ?_)
      refine l_MO_isPlain_h24 C0 hs l D cB cI aM aMst aMdcs aMtot aMfrm aMsiz aMffr aMfsz aMlkd aMlat aMkkd aMkat aModr aMgrp aMikd aMiat fu thr tpd frs frt top bgn mst ovr tgr lvs its hgh loo dfl st hP hk p0 p1  (K := (fun (x3_11 : Bool) (x4_11 : Int32) =>
          some x3_11)) ?_ fu false 0  (by rw [tw_MO_isPlain, if_neg c_1, if_pos c_9, if_pos c_10]) ls (lv_sub hl [2, 3, 4, 1, 0] rfl)
      intro x3_11 x4_11 hV_11 ls hl
      refine lv_iload_n hx hb d_MO_isPlain_72 rfl (lv_at hl 0 rfl) ?_
      exact W.zret (v := b2i x3_11) (ty := .boolean) hx hb hr (b2i_nar _) (fun t ht hW => ⟨b2i x3_11, rfl, (op_b (x := x3_11) hs (by rw [hV_11])), ht⟩) (fun _ h => by cases h) d_MO_isPlain_73
    · refine lv_iconst (v := 1) hx hb d_MO_isPlain_15 (by decide) ?_
      refine lv_goto (tgt := 20) hx hb d_MO_isPlain_16 (by decide) ?_
      refine lv_istore_n (lv' := [(3, .int 1), (0, .ref aM), (1, .int p0), (2, .int p1)]) hx hb d_MO_isPlain_20 rfl hl (by decide) rfl (fun ls hl => ?_)
      refine lv_iconst (v := 0) hx hb d_MO_isPlain_21 (by decide) ?_
      refine lv_istore (lv' := [(4, .int 0), (3, .int 1), (0, .ref aM), (1, .int p0), (2, .int p1)]) hx hb d_MO_isPlain_22 hl (by decide) rfl (fun ls hl => ?_)
      refine l_MO_isPlain_h24 C0 hs l D cB cI aM aMst aMdcs aMtot aMfrm aMsiz aMffr aMfsz aMlkd aMlat aMkkd aMkat aModr aMgrp aMikd aMiat fu thr tpd frs frt top bgn mst ovr tgr lvs its hgh loo dfl st hP hk p0 p1  (K := (fun (x3_12 : Bool) (x4_12 : Int32) =>
          some x3_12)) ?_ fu true 0  (by rw [tw_MO_isPlain, if_neg c_1, if_pos c_9, if_neg c_10]) ls (lv_sub hl [2, 3, 4, 1, 0] rfl)
      intro x3_12 x4_12 hV_12 ls hl
      refine lv_iload_n hx hb d_MO_isPlain_72 rfl (lv_at hl 0 rfl) ?_
      exact W.zret (v := b2i x3_12) (ty := .boolean) hx hb hr (b2i_nar _) (fun t ht hW => ⟨b2i x3_12, rfl, (op_b (x := x3_12) hs (by rw [hV_12])), ht⟩) (fun _ h => by cases h) d_MO_isPlain_73
set_option maxHeartbeats 4000000 in
set_option maxRecDepth 100000 in
theorem c_MO_isPlainName (l : Launch) (D : va_G) (cB cI : ClassId) (aM aMst aMdcs aMtot aMfrm aMsiz aMffr aMfsz aMlkd aMlat aMkkd aMkat aModr aMgrp aMikd aMiat : Nat) (fu : Nat) (thr : Int32) (tpd : Int32) (frs : Int32) (frt : Int32) (top : Int32) (bgn : Int32) (mst : Int32) (ovr : Bool) (tgr : Bool) (lvs : Int32) (its : Int32) (hgh : Int64) (loo : Int64) (dfl : Bool) (st : Nat → Int32) (p0 : Int32) (V0 : Bool) (hs : tw_MO_isPlainName fu st p0 = some V0) : Met l y_MO_isPlainName mw_MO_isPlainName { frames := 1, cells := 0, slots := 0, locals := 24 } (va_Pc [.ref aM, .int p0] (fun U => va_P D vwCl [(aM, .inr (11, [.int thr, .ref aMst, .int tpd, .ref aMdcs, .ref aMtot, .ref aMfrm, .ref aMsiz, .int frs, .int frt, .ref aMffr, .ref aMfsz, .int top, .int bgn, .int mst, .int (b2i ovr), .int (b2i tgr), .int lvs, .ref aMlkd, .ref aMlat, .ref aMkkd, .ref aMkat, .ref aModr, .ref aMgrp, .int its, .ref aMikd, .ref aMiat, .long hgh, .long loo, .int (b2i dfl)])), (aMst, .inl (cI, 136400, .inl st))] U.heap ∧ hk_ D cB cI U)) (vp_Si (fun r => r = b2i V0)) 0 0 (fun _ => False) := by
  refine Met.ofW (cc := b_MO_isPlainName) (maxL := 2) (ret := (some .boolean)) (by decide) rfl ?_
  intro p e s m args below meth c s₁ B0 hml hv
  obtain ⟨rfl, hP, hk⟩ := hv
  have hK := hk.1
  have hN := hk.2.1
  have hx := B0.exec
  have hb := B0.bytes
  have hr := B0.returns
  have hT : ∀ w ∈ lw_g, w.before _ s = true := fun w h => atoms_spec (ws := mw_MO_isPlainName) B0.pre w (List.mem_cons_of_mem _ h)
  have hown : s.vm.findClass R_MO = some m.cls := findClass_of_methodNamed B0.named
  have hlocks := B0.notSynchronized
  have hl := lv_entry ([.ref aM, .int p0]) (n := 2) (Nat.le_of_ble_eq_true rfl)
  rw [lg_entry_eq]
  generalize (lg_sl ([.ref aM, .int p0]) ++ List.replicate (2 - (lg_sl ([.ref aM, .int p0])).length) Slot.unset).toArray = ls at hl ⊢
  have hl : lv_has ls 2 [(0, .ref aM), (1, .int p0)] := hl
  refine lv_aload_n hx hb d_MO_isPlainName_0 rfl (lv_at hl 0 rfl) ?_
  refine lv_iload_n hx hb d_MO_isPlainName_1 rfl (lv_at hl 1 rfl) ?_
  refine lv_iconst (v := 1) hx hb d_MO_isPlainName_2 (by decide) ?_
  refine lv_iadd hx hb d_MO_isPlainName_3 ?_
  refine lv_aload_n hx hb d_MO_isPlainName_4 rfl (lv_at hl 0 rfl) ?_
  refine lv_iload_n hx hb d_MO_isPlainName_5 rfl (lv_at hl 1 rfl) ?_
  rcases h_1 : tw_MO_nameEndOf fu st p0 with _ | r_1
  · exact op_no hs (by rw [tw_MO_isPlainName, h_1, ob1_no])
  refine rd_V (val := r_1) (As := [.int p0]) (rest := [.int (p0 + 1), .ref aM]) ⟨hx, hb, hml, hown, hT⟩ (c_MO_nameEndOf l D cB cI aM aMst aMdcs aMtot aMfrm aMsiz aMffr aMfsz aMlkd aMlat aMkkd aMkat aModr aMgrp aMikd aMiat fu thr tpd frs frt top bgn mst ovr tgr lvs its hgh loo dfl st p0 r_1 h_1) (cwV 1 hT (gV_of k_1174 k_1176 kp_MO_nameEndOf k_12 kc_MO_nameEndOf) rfl rfl rfl hd_MO_nameEndOf ⟨Nat.le_of_ble_eq_true rfl, Nat.le_of_ble_eq_true rfl⟩) hk hP (q0 := 0) rfl rfl rfl rfl hl.1 rfl (Nat.le_of_ble_eq_true rfl) d_MO_isPlainName_6 ⟨Nat.zero_le _, Nat.zero_le _⟩ ?_
  refine lv_iload_n hx hb d_MO_isPlainName_9 rfl (lv_at hl 1 rfl) ?_
  refine lv_isub hx hb d_MO_isPlainName_10 ?_
  refine lv_iconst (v := 1) hx hb d_MO_isPlainName_11 (by decide) ?_
  refine lv_isub hx hb d_MO_isPlainName_12 ?_
  rcases h_2 : tw_MO_isPlain fu st (p0 + 1) ((r_1 - p0) - 1) with _ | r_2
  · exact op_no hs (by rw [tw_MO_isPlainName, h_1, ob1_mk, h_2, ob1_no])
  refine rd_V (val := b2i r_2) (As := [.int (p0 + 1), .int ((r_1 - p0) - 1)]) (rest := []) ⟨hx, hb, hml, hown, hT⟩ (c_MO_isPlain l D cB cI aM aMst aMdcs aMtot aMfrm aMsiz aMffr aMfsz aMlkd aMlat aMkkd aMkat aModr aMgrp aMikd aMiat fu thr tpd frs frt top bgn mst ovr tgr lvs its hgh loo dfl st (p0 + 1) ((r_1 - p0) - 1) r_2 h_2) (cwV 2 hT (gV_of k_1236 k_1238 kp_MO_isPlain k_12 kc_MO_isPlain) rfl rfl rfl hd_MO_isPlain ⟨Nat.le_of_ble_eq_true rfl, Nat.le_of_ble_eq_true rfl⟩) hk hP (q0 := 0) rfl rfl rfl rfl hl.1 rfl (Nat.le_of_ble_eq_true rfl) d_MO_isPlainName_13 ⟨Nat.zero_le _, Nat.zero_le _⟩ ?_
  exact W.zret (v := b2i r_2) (ty := .boolean) hx hb hr (b2i_nar _) (fun t ht hW => ⟨b2i r_2, rfl, (op_b (x := r_2) hs (by rw [tw_MO_isPlainName, h_1, ob1_mk, h_2, ob1_mk])), ht⟩) (fun _ h => by cases h) d_MO_isPlainName_16
set_option maxHeartbeats 4000000 in
set_option maxRecDepth 100000 in
theorem c_MO_isExpressionPath (l : Launch) (D : va_G) (cB cI : ClassId) (aM aMst aMdcs aMtot aMfrm aMsiz aMffr aMfsz aMlkd aMlat aMkkd aMkat aModr aMgrp aMikd aMiat : Nat) (fu : Nat) (thr : Int32) (tpd : Int32) (frs : Int32) (frt : Int32) (top : Int32) (bgn : Int32) (mst : Int32) (ovr : Bool) (tgr : Bool) (lvs : Int32) (its : Int32) (hgh : Int64) (loo : Int64) (dfl : Bool) (st : Nat → Int32) (p0 : Int32) (V0 : Bool) (hs : tw_MO_isExpressionPath fu st p0 = some V0) : Met l y_MO_isExpressionPath mw_MO_isExpressionPath { frames := 2, cells := 0, slots := 0, locals := 43 } (va_Pc [.ref aM, .int p0] (fun U => va_P D vwCl [(aM, .inr (11, [.int thr, .ref aMst, .int tpd, .ref aMdcs, .ref aMtot, .ref aMfrm, .ref aMsiz, .int frs, .int frt, .ref aMffr, .ref aMfsz, .int top, .int bgn, .int mst, .int (b2i ovr), .int (b2i tgr), .int lvs, .ref aMlkd, .ref aMlat, .ref aMkkd, .ref aMkat, .ref aModr, .ref aMgrp, .int its, .ref aMikd, .ref aMiat, .long hgh, .long loo, .int (b2i dfl)])), (aMst, .inl (cI, 136400, .inl st))] U.heap ∧ hk_ D cB cI U)) (vp_Si (fun r => r = b2i V0)) 0 0 (fun _ => False) := by
  refine Met.ofW (cc := b_MO_isExpressionPath) (maxL := 2) (ret := (some .boolean)) (by decide) rfl ?_
  intro p e s m args below meth c s₁ B0 hml hv
  obtain ⟨rfl, hP, hk⟩ := hv
  have hK := hk.1
  have hN := hk.2.1
  have hx := B0.exec
  have hb := B0.bytes
  have hr := B0.returns
  have hT : ∀ w ∈ lw_g, w.before _ s = true := fun w h => atoms_spec (ws := mw_MO_isExpressionPath) B0.pre w (List.mem_cons_of_mem _ h)
  have hown : s.vm.findClass R_MO = some m.cls := findClass_of_methodNamed B0.named
  have hlocks := B0.notSynchronized
  have hl := lv_entry ([.ref aM, .int p0]) (n := 2) (Nat.le_of_ble_eq_true rfl)
  rw [lg_entry_eq]
  generalize (lg_sl ([.ref aM, .int p0]) ++ List.replicate (2 - (lg_sl ([.ref aM, .int p0])).length) Slot.unset).toArray = ls at hl ⊢
  have hl : lv_has ls 2 [(0, .ref aM), (1, .int p0)] := hl
  refine lv_aload_n hx hb d_MO_isExpressionPath_0 rfl (lv_at hl 0 rfl) ?_
  refine va_get (D := D) (ci := 11) (v := .ref aMst) (C := R_MO) (T := T_MO) (N := 29) hx hb hT u_MO hown hK hP 0 rfl rfl 1 (by decide) (hT _ k_1044) (fun _ h9 => h9) rfl d_MO_isExpressionPath_1 ?_
  refine lv_iload_n hx hb d_MO_isExpressionPath_4 rfl (lv_at hl 1 rfl) ?_
  by_cases c_1 : 0 ≤ p0 ∧ p0 < 136400
  rotate_left
  · exact op_no hs (by rw [tw_MO_isExpressionPath, if_neg c_1])
  refine va_iald hx hb hK hP 1 1 rfl rfl (in_pp c_1.1 c_1.2 rfl) d_MO_isExpressionPath_5 ?_
  refine lv_iconst (v := 2) hx hb d_MO_isExpressionPath_6 (by decide) ?_
  refine lv_icmp_ne (tgt := 44) hx hb d_MO_isExpressionPath_7 (by decide) (fun c_2 => ?_) (fun c_2 => ?_)
  · refine lv_iconst (v := 0) hx hb d_MO_isExpressionPath_44 (by decide) ?_
    exact W.zret (v := 0) (ty := .boolean) hx hb hr (rfl) (fun t ht hW => ⟨0, rfl, (op_b (x := false) hs (by rw [tw_MO_isExpressionPath, if_pos c_1, if_neg c_2])), ht⟩) (fun _ h => by cases h) d_MO_isExpressionPath_45
  · refine lv_aload_n hx hb d_MO_isExpressionPath_10 rfl (lv_at hl 0 rfl) ?_
    refine lv_aload_n hx hb d_MO_isExpressionPath_11 rfl (lv_at hl 0 rfl) ?_
    refine lv_iload_n hx hb d_MO_isExpressionPath_12 rfl (lv_at hl 1 rfl) ?_
    rcases h_3 : tw_MO_valueOf fu st p0 with _ | r_3
    · exact op_no hs (by rw [tw_MO_isExpressionPath, if_pos c_1, if_pos c_2, h_3, ob1_no])
    refine rd_V (val := r_3) (As := [.int p0]) (rest := [.ref aM]) ⟨hx, hb, hml, hown, hT⟩ (c_MO_valueOf l D cB cI aM aMst aMdcs aMtot aMfrm aMsiz aMffr aMfsz aMlkd aMlat aMkkd aMkat aModr aMgrp aMikd aMiat fu thr tpd frs frt top bgn mst ovr tgr lvs its hgh loo dfl st p0 r_3 h_3) (cwV 1 hT (gV_of k_1182 k_1184 kp_MO_valueOf k_12 kc_MO_valueOf) rfl rfl rfl hd_MO_valueOf ⟨Nat.le_of_ble_eq_true rfl, Nat.le_of_ble_eq_true rfl⟩) hk hP (q0 := 0) rfl rfl rfl rfl hl.1 rfl (Nat.le_of_ble_eq_true rfl) d_MO_isExpressionPath_13 ⟨Nat.zero_le _, Nat.zero_le _⟩ ?_
    rcases h_4 : tw_MO_whole fu st r_3 with _ | r_4
    · exact op_no hs (by rw [tw_MO_isExpressionPath, if_pos c_1, if_pos c_2, h_3, ob1_mk, h_4, ob1_no])
    refine rd_V (val := r_4) (As := [.int r_3]) (rest := []) ⟨hx, hb, hml, hown, hT⟩ (c_MO_whole l D cB cI aM aMst aMdcs aMtot aMfrm aMsiz aMffr aMfsz aMlkd aMlat aMkkd aMkat aModr aMgrp aMikd aMiat fu thr tpd frs frt top bgn mst ovr tgr lvs its hgh loo dfl st r_3 r_4 h_4) (cwV 1 hT (gV_of k_1148 k_1150 kp_MO_whole k_12 kc_MO_whole) rfl rfl rfl hd_MO_whole ⟨Nat.le_of_ble_eq_true rfl, Nat.le_of_ble_eq_true rfl⟩) hk hP (q0 := 0) rfl rfl rfl rfl hl.1 rfl (Nat.le_of_ble_eq_true rfl) d_MO_isExpressionPath_16 ⟨Nat.zero_le _, Nat.zero_le _⟩ ?_
    refine lv_iconst (v := 1) hx hb d_MO_isExpressionPath_19 (by decide) ?_
    refine lv_icmp_le (tgt := 44) hx hb d_MO_isExpressionPath_20 (by decide) (fun c_5 => ?_) (fun c_5 => ?_)
    · refine lv_iconst (v := 0) hx hb d_MO_isExpressionPath_44 (by decide) ?_
      exact W.zret (v := 0) (ty := .boolean) hx hb hr (rfl) (fun t ht hW => ⟨0, rfl, (op_b (x := false) hs (by rw [tw_MO_isExpressionPath, if_pos c_1, if_pos c_2, h_3, ob1_mk, h_4, ob1_mk, if_pos c_5])), ht⟩) (fun _ h => by cases h) d_MO_isExpressionPath_45
    · refine lv_aload_n hx hb d_MO_isExpressionPath_23 rfl (lv_at hl 0 rfl) ?_
      refine va_get (D := D) (ci := 11) (v := .ref aMst) (C := R_MO) (T := T_MO) (N := 29) hx hb hT u_MO hown hK hP 0 rfl rfl 1 (by decide) (hT _ k_1044) (fun _ h9 => h9) rfl d_MO_isExpressionPath_24 ?_
      refine lv_aload_n hx hb d_MO_isExpressionPath_27 rfl (lv_at hl 0 rfl) ?_
      refine lv_iload_n hx hb d_MO_isExpressionPath_28 rfl (lv_at hl 1 rfl) ?_
      refine rd_V (val := r_3) (As := [.int p0]) (rest := [.ref aMst]) ⟨hx, hb, hml, hown, hT⟩ (c_MO_valueOf l D cB cI aM aMst aMdcs aMtot aMfrm aMsiz aMffr aMfsz aMlkd aMlat aMkkd aMkat aModr aMgrp aMikd aMiat fu thr tpd frs frt top bgn mst ovr tgr lvs its hgh loo dfl st p0 r_3 h_3) (cwV 1 hT (gV_of k_1182 k_1184 kp_MO_valueOf k_12 kc_MO_valueOf) rfl rfl rfl hd_MO_valueOf ⟨Nat.le_of_ble_eq_true rfl, Nat.le_of_ble_eq_true rfl⟩) hk hP (q0 := 0) rfl rfl rfl rfl hl.1 rfl (Nat.le_of_ble_eq_true rfl) d_MO_isExpressionPath_29 ⟨Nat.zero_le _, Nat.zero_le _⟩ ?_
      refine lv_iconst (v := 4) hx hb d_MO_isExpressionPath_32 (by decide) ?_
      refine lv_iadd hx hb d_MO_isExpressionPath_33 ?_
      by_cases c_6 : 0 ≤ (r_3 + 4) ∧ (r_3 + 4) < 136400
      rotate_left
      · exact op_no hs (by rw [tw_MO_isExpressionPath, if_pos c_1, if_pos c_2, h_3, ob1_mk, h_4, ob1_mk, if_neg c_5, if_neg c_6])
      refine va_iald hx hb hK hP 1 1 rfl rfl (in_pp c_6.1 c_6.2 rfl) d_MO_isExpressionPath_34 ?_
      refine lv_bipush (v := 36) hx hb d_MO_isExpressionPath_35 (by decide) ?_
      refine lv_icmp_ne (tgt := 44) hx hb d_MO_isExpressionPath_37 (by decide) (fun c_7 => ?_) (fun c_7 => ?_)
      · refine lv_iconst (v := 0) hx hb d_MO_isExpressionPath_44 (by decide) ?_
        exact W.zret (v := 0) (ty := .boolean) hx hb hr (rfl) (fun t ht hW => ⟨0, rfl, (op_b (x := false) hs (by rw [tw_MO_isExpressionPath, if_pos c_1, if_pos c_2, h_3, ob1_mk, h_4, ob1_mk, if_neg c_5, if_pos c_6, if_neg c_7])), ht⟩) (fun _ h => by cases h) d_MO_isExpressionPath_45
      · refine lv_iconst (v := 1) hx hb d_MO_isExpressionPath_40 (by decide) ?_
        refine lv_goto (tgt := 45) hx hb d_MO_isExpressionPath_41 (by decide) ?_
        exact W.zret (v := 1) (ty := .boolean) hx hb hr (rfl) (fun t ht hW => ⟨1, rfl, (op_b (x := true) hs (by rw [tw_MO_isExpressionPath, if_pos c_1, if_pos c_2, h_3, ob1_mk, h_4, ob1_mk, if_neg c_5, if_pos c_6, if_pos c_7])), ht⟩) (fun _ h => by cases h) d_MO_isExpressionPath_45
set_option maxHeartbeats 4000000 in
set_option maxRecDepth 100000 in
theorem c_MO_expressionFault (l : Launch) (D : va_G) (cB cI : ClassId) (aM aMst aMdcs aMtot aMfrm aMsiz aMffr aMfsz aMlkd aMlat aMkkd aMkat aModr aMgrp aMikd aMiat : Nat) (fu : Nat) (thr : Int32) (tpd : Int32) (frs : Int32) (frt : Int32) (top : Int32) (bgn : Int32) (mst : Int32) (ovr : Bool) (tgr : Bool) (lvs : Int32) (its : Int32) (hgh : Int64) (loo : Int64) (dfl : Bool) (st : Nat → Int32) (p0 : Int32) (V0 : Int32) (hs : tw_MO_expressionFault fu st p0 = some V0) : Met l y_MO_expressionFault mw_MO_expressionFault { frames := 3, cells := 0, slots := 0, locals := 64 } (va_Pc [.ref aM, .int p0] (fun U => va_P D vwCl [(aM, .inr (11, [.int thr, .ref aMst, .int tpd, .ref aMdcs, .ref aMtot, .ref aMfrm, .ref aMsiz, .int frs, .int frt, .ref aMffr, .ref aMfsz, .int top, .int bgn, .int mst, .int (b2i ovr), .int (b2i tgr), .int lvs, .ref aMlkd, .ref aMlat, .ref aMkkd, .ref aMkat, .ref aModr, .ref aMgrp, .int its, .ref aMikd, .ref aMiat, .long hgh, .long loo, .int (b2i dfl)])), (aMst, .inl (cI, 136400, .inl st))] U.heap ∧ hk_ D cB cI U)) (vp_Si (fun r => r = V0)) 0 0 (fun _ => False) := by
  refine Met.ofW (cc := b_MO_expressionFault) (maxL := 2) (ret := (some .int)) (by decide) rfl ?_
  intro p e s m args below meth c s₁ B0 hml hv
  obtain ⟨rfl, hP, hk⟩ := hv
  have hK := hk.1
  have hN := hk.2.1
  have hx := B0.exec
  have hb := B0.bytes
  have hr := B0.returns
  have hT : ∀ w ∈ lw_g, w.before _ s = true := fun w h => atoms_spec (ws := mw_MO_expressionFault) B0.pre w (List.mem_cons_of_mem _ h)
  have hown : s.vm.findClass R_MO = some m.cls := findClass_of_methodNamed B0.named
  have hlocks := B0.notSynchronized
  have hl := lv_entry ([.ref aM, .int p0]) (n := 2) (Nat.le_of_ble_eq_true rfl)
  rw [lg_entry_eq]
  generalize (lg_sl ([.ref aM, .int p0]) ++ List.replicate (2 - (lg_sl ([.ref aM, .int p0])).length) Slot.unset).toArray = ls at hl ⊢
  have hl : lv_has ls 2 [(0, .ref aM), (1, .int p0)] := hl
  refine lv_aload_n hx hb d_MO_expressionFault_0 rfl (lv_at hl 0 rfl) ?_
  refine lv_iload_n hx hb d_MO_expressionFault_1 rfl (lv_at hl 1 rfl) ?_
  rcases h_1 : tw_MO_isExpressionPath fu st p0 with _ | r_1
  · exact op_no hs (by rw [tw_MO_expressionFault, h_1, ob1_no])
  refine rd_V (val := b2i r_1) (As := [.int p0]) (rest := []) ⟨hx, hb, hml, hown, hT⟩ (c_MO_isExpressionPath l D cB cI aM aMst aMdcs aMtot aMfrm aMsiz aMffr aMfsz aMlkd aMlat aMkkd aMkat aModr aMgrp aMikd aMiat fu thr tpd frs frt top bgn mst ovr tgr lvs its hgh loo dfl st p0 r_1 h_1) (cwV 1 hT (gV_of k_1244 k_1246 kp_MO_isExpressionPath k_12 kc_MO_isExpressionPath) rfl rfl rfl hd_MO_isExpressionPath ⟨Nat.le_of_ble_eq_true rfl, Nat.le_of_ble_eq_true rfl⟩) hk hP (q0 := 0) rfl rfl rfl rfl hl.1 rfl (Nat.le_of_ble_eq_true rfl) d_MO_expressionFault_2 ⟨Nat.zero_le _, Nat.zero_le _⟩ ?_
  refine lv_if_eq (tgt := 37) hx hb d_MO_expressionFault_5 (by decide) (fun c_2 => ?_) (fun c_2 => ?_)
  · refine lv_iconst (v := 0) hx hb d_MO_expressionFault_37 (by decide) ?_
    exact W.iret (v := 0) hx hb hr (fun t ht hW => ⟨0, rfl, (op_eq hs (by rw [tw_MO_expressionFault, h_1, ob1_mk, if_pos c_2])), ht⟩) (fun _ h => by cases h) d_MO_expressionFault_38
  · refine lv_aload_n hx hb d_MO_expressionFault_8 rfl (lv_at hl 0 rfl) ?_
    refine lv_aload_n hx hb d_MO_expressionFault_9 rfl (lv_at hl 0 rfl) ?_
    refine lv_iload_n hx hb d_MO_expressionFault_10 rfl (lv_at hl 1 rfl) ?_
    rcases h_3 : tw_MO_valueOf fu st p0 with _ | r_3
    · exact op_no hs (by rw [tw_MO_expressionFault, h_1, ob1_mk, if_neg c_2, h_3, ob1_no])
    refine rd_V (val := r_3) (As := [.int p0]) (rest := [.ref aM]) ⟨hx, hb, hml, hown, hT⟩ (c_MO_valueOf l D cB cI aM aMst aMdcs aMtot aMfrm aMsiz aMffr aMfsz aMlkd aMlat aMkkd aMkat aModr aMgrp aMikd aMiat fu thr tpd frs frt top bgn mst ovr tgr lvs its hgh loo dfl st p0 r_3 h_3) (cwV 1 hT (gV_of k_1182 k_1184 kp_MO_valueOf k_12 kc_MO_valueOf) rfl rfl rfl hd_MO_valueOf ⟨Nat.le_of_ble_eq_true rfl, Nat.le_of_ble_eq_true rfl⟩) hk hP (q0 := 0) rfl rfl rfl rfl hl.1 rfl (Nat.le_of_ble_eq_true rfl) d_MO_expressionFault_11 ⟨Nat.zero_le _, Nat.zero_le _⟩ ?_
    refine lv_iconst (v := 5) hx hb d_MO_expressionFault_14 (by decide) ?_
    refine lv_iadd hx hb d_MO_expressionFault_15 ?_
    refine lv_aload_n hx hb d_MO_expressionFault_16 rfl (lv_at hl 0 rfl) ?_
    refine lv_aload_n hx hb d_MO_expressionFault_17 rfl (lv_at hl 0 rfl) ?_
    refine lv_iload_n hx hb d_MO_expressionFault_18 rfl (lv_at hl 1 rfl) ?_
    refine rd_V (val := r_3) (As := [.int p0]) (rest := [.ref aM, .int (r_3 + 5), .ref aM]) ⟨hx, hb, hml, hown, hT⟩ (c_MO_valueOf l D cB cI aM aMst aMdcs aMtot aMfrm aMsiz aMffr aMfsz aMlkd aMlat aMkkd aMkat aModr aMgrp aMikd aMiat fu thr tpd frs frt top bgn mst ovr tgr lvs its hgh loo dfl st p0 r_3 h_3) (cwV 1 hT (gV_of k_1182 k_1184 kp_MO_valueOf k_12 kc_MO_valueOf) rfl rfl rfl hd_MO_valueOf ⟨Nat.le_of_ble_eq_true rfl, Nat.le_of_ble_eq_true rfl⟩) hk hP (q0 := 0) rfl rfl rfl rfl hl.1 rfl (Nat.le_of_ble_eq_true rfl) d_MO_expressionFault_19 ⟨Nat.zero_le _, Nat.zero_le _⟩ ?_
    rcases h_4 : tw_MO_whole fu st r_3 with _ | r_4
    · exact op_no hs (by rw [tw_MO_expressionFault, h_1, ob1_mk, if_neg c_2, h_3, ob1_mk, h_4, ob1_no])
    refine rd_V (val := r_4) (As := [.int r_3]) (rest := [.int (r_3 + 5), .ref aM]) ⟨hx, hb, hml, hown, hT⟩ (c_MO_whole l D cB cI aM aMst aMdcs aMtot aMfrm aMsiz aMffr aMfsz aMlkd aMlat aMkkd aMkat aModr aMgrp aMikd aMiat fu thr tpd frs frt top bgn mst ovr tgr lvs its hgh loo dfl st r_3 r_4 h_4) (cwV 1 hT (gV_of k_1148 k_1150 kp_MO_whole k_12 kc_MO_whole) rfl rfl rfl hd_MO_whole ⟨Nat.le_of_ble_eq_true rfl, Nat.le_of_ble_eq_true rfl⟩) hk hP (q0 := 0) rfl rfl rfl rfl hl.1 rfl (Nat.le_of_ble_eq_true rfl) d_MO_expressionFault_22 ⟨Nat.zero_le _, Nat.zero_le _⟩ ?_
    refine lv_iconst (v := 2) hx hb d_MO_expressionFault_25 (by decide) ?_
    refine lv_isub hx hb d_MO_expressionFault_26 ?_
    rcases h_5 : tw_MO_isPath fu st (r_3 + 5) (r_4 - 2) with _ | r_5
    · exact op_no hs (by rw [tw_MO_expressionFault, h_1, ob1_mk, if_neg c_2, h_3, ob1_mk, h_4, ob1_mk, h_5, ob1_no])
    refine rd_V (val := b2i r_5) (As := [.int (r_3 + 5), .int (r_4 - 2)]) (rest := []) ⟨hx, hb, hml, hown, hT⟩ (c_MO_isPath l D cB cI aM aMst aMdcs aMtot aMfrm aMsiz aMffr aMfsz aMlkd aMlat aMkkd aMkat aModr aMgrp aMikd aMiat fu thr tpd frs frt top bgn mst ovr tgr lvs its hgh loo dfl st (r_3 + 5) (r_4 - 2) r_5 h_5) (cwV 2 hT (gV_of k_1248 k_1250 kp_MO_isPath k_12 kc_MO_isPath) rfl rfl rfl hd_MO_isPath ⟨Nat.le_of_ble_eq_true rfl, Nat.le_of_ble_eq_true rfl⟩) hk hP (q0 := 0) rfl rfl rfl rfl hl.1 rfl (Nat.le_of_ble_eq_true rfl) d_MO_expressionFault_27 ⟨Nat.zero_le _, Nat.zero_le _⟩ ?_
    refine lv_if_ne (tgt := 37) hx hb d_MO_expressionFault_30 (by decide) (fun c_6 => ?_) (fun c_6 => ?_)
    · refine lv_iconst (v := 0) hx hb d_MO_expressionFault_37 (by decide) ?_
      exact W.iret (v := 0) hx hb hr (fun t ht hW => ⟨0, rfl, (op_eq hs (by rw [tw_MO_expressionFault, h_1, ob1_mk, if_neg c_2, h_3, ob1_mk, h_4, ob1_mk, h_5, ob1_mk, if_neg c_6])), ht⟩) (fun _ h => by cases h) d_MO_expressionFault_38
    · refine lv_iconst (v := 3) hx hb d_MO_expressionFault_33 (by decide) ?_
      refine lv_goto (tgt := 38) hx hb d_MO_expressionFault_34 (by decide) ?_
      exact W.iret (v := 3) hx hb hr (fun t ht hW => ⟨3, rfl, (op_eq hs (by rw [tw_MO_expressionFault, h_1, ob1_mk, if_neg c_2, h_3, ob1_mk, h_4, ob1_mk, h_5, ob1_mk, if_pos c_6])), ht⟩) (fun _ h => by cases h) d_MO_expressionFault_38
set_option maxHeartbeats 4000000 in
set_option maxRecDepth 100000 in
theorem c_MO_stageOf (l : Launch) (D : va_G) (cB cI : ClassId) (aM aMst aMdcs aMtot aMfrm aMsiz aMffr aMfsz aMlkd aMlat aMkkd aMkat aModr aMgrp aMikd aMiat : Nat) (fu : Nat) (thr : Int32) (tpd : Int32) (frs : Int32) (frt : Int32) (top : Int32) (bgn : Int32) (mst : Int32) (ovr : Bool) (tgr : Bool) (lvs : Int32) (its : Int32) (hgh : Int64) (loo : Int64) (dfl : Bool) (st : Nat → Int32) (p0 : Int32) (V0 : Int32) (hs : tw_MO_stageOf fu st p0 = some V0) : Met l y_MO_stageOf mw_MO_stageOf { frames := 1, cells := 0, slots := 0, locals := 26 } (va_Pc [.ref aM, .int p0] (fun U => va_P D vwCl [(aM, .inr (11, [.int thr, .ref aMst, .int tpd, .ref aMdcs, .ref aMtot, .ref aMfrm, .ref aMsiz, .int frs, .int frt, .ref aMffr, .ref aMfsz, .int top, .int bgn, .int mst, .int (b2i ovr), .int (b2i tgr), .int lvs, .ref aMlkd, .ref aMlat, .ref aMkkd, .ref aMkat, .ref aModr, .ref aMgrp, .int its, .ref aMikd, .ref aMiat, .long hgh, .long loo, .int (b2i dfl)])), (aMst, .inl (cI, 136400, .inl st))] U.heap ∧ hk_ D cB cI U)) (vp_Si (fun r => r = V0)) 0 0 (fun _ => False) := by
  refine Met.ofW (cc := b_MO_stageOf) (maxL := 2) (ret := (some .int)) (by decide) rfl ?_
  intro p e s m args below meth c s₁ B0 hml hv
  obtain ⟨rfl, hP, hk⟩ := hv
  have hK := hk.1
  have hN := hk.2.1
  have hx := B0.exec
  have hb := B0.bytes
  have hr := B0.returns
  have hT : ∀ w ∈ lw_g, w.before _ s = true := fun w h => atoms_spec (ws := mw_MO_stageOf) B0.pre w (List.mem_cons_of_mem _ h)
  have hown : s.vm.findClass R_MO = some m.cls := findClass_of_methodNamed B0.named
  have hlocks := B0.notSynchronized
  have hl := lv_entry ([.ref aM, .int p0]) (n := 2) (Nat.le_of_ble_eq_true rfl)
  rw [lg_entry_eq]
  generalize (lg_sl ([.ref aM, .int p0]) ++ List.replicate (2 - (lg_sl ([.ref aM, .int p0])).length) Slot.unset).toArray = ls at hl ⊢
  have hl : lv_has ls 2 [(0, .ref aM), (1, .int p0)] := hl
  refine lv_aload_n hx hb d_MO_stageOf_0 rfl (lv_at hl 0 rfl) ?_
  refine lv_iload_n hx hb d_MO_stageOf_1 rfl (lv_at hl 1 rfl) ?_
  refine lv_ldc2 (v := 8386658438904705060) hx hb hown (hT _ k_1216) d_MO_stageOf_2 ?_
  rcases h_1 : tw_MO_isNamed fu st p0 8386658438904705060 with _ | r_1
  · exact op_no hs (by rw [tw_MO_stageOf, h_1, ob1_no])
  refine rd_V (val := b2i r_1) (As := [.int p0, .long 8386658438904705060]) (rest := []) ⟨hx, hb, hml, hown, hT⟩ (c_MO_isNamed l D cB cI aM aMst aMdcs aMtot aMfrm aMsiz aMffr aMfsz aMlkd aMlat aMkkd aMkat aModr aMgrp aMikd aMiat fu thr tpd frs frt top bgn mst ovr tgr lvs its hgh loo dfl st p0 8386658438904705060 r_1 h_1) (cwV 2 hT (gV_of k_1217 k_1219 kp_MO_isNamed k_12 kc_MO_isNamed) rfl rfl rfl hd_MO_isNamed ⟨Nat.le_of_ble_eq_true rfl, Nat.le_of_ble_eq_true rfl⟩) hk hP (q0 := 0) rfl rfl rfl rfl hl.1 rfl (Nat.le_of_ble_eq_true rfl) d_MO_stageOf_5 ⟨Nat.zero_le _, Nat.zero_le _⟩ ?_
  refine lv_if_eq (tgt := 13) hx hb d_MO_stageOf_8 (by decide) (fun c_2 => ?_) (fun c_2 => ?_)
  · refine lv_aload_n hx hb d_MO_stageOf_13 rfl (lv_at hl 0 rfl) ?_
    refine lv_iload_n hx hb d_MO_stageOf_14 rfl (lv_at hl 1 rfl) ?_
    refine lv_ldc2 (v := 28268896925414692) hx hb hown (hT _ k_1222) d_MO_stageOf_15 ?_
    rcases h_3 : tw_MO_isNamed fu st p0 28268896925414692 with _ | r_3
    · exact op_no hs (by rw [tw_MO_stageOf, h_1, ob1_mk, if_pos c_2, h_3, ob1_no])
    refine rd_V (val := b2i r_3) (As := [.int p0, .long 28268896925414692]) (rest := []) ⟨hx, hb, hml, hown, hT⟩ (c_MO_isNamed l D cB cI aM aMst aMdcs aMtot aMfrm aMsiz aMffr aMfsz aMlkd aMlat aMkkd aMkat aModr aMgrp aMikd aMiat fu thr tpd frs frt top bgn mst ovr tgr lvs its hgh loo dfl st p0 28268896925414692 r_3 h_3) (cwV 2 hT (gV_of k_1217 k_1219 kp_MO_isNamed k_12 kc_MO_isNamed) rfl rfl rfl hd_MO_isNamed ⟨Nat.le_of_ble_eq_true rfl, Nat.le_of_ble_eq_true rfl⟩) hk hP (q0 := 0) rfl rfl rfl rfl hl.1 rfl (Nat.le_of_ble_eq_true rfl) d_MO_stageOf_18 ⟨Nat.zero_le _, Nat.zero_le _⟩ ?_
    refine lv_if_eq (tgt := 26) hx hb d_MO_stageOf_21 (by decide) (fun c_4 => ?_) (fun c_4 => ?_)
    · refine lv_aload_n hx hb d_MO_stageOf_26 rfl (lv_at hl 0 rfl) ?_
      refine lv_iload_n hx hb d_MO_stageOf_27 rfl (lv_at hl 1 rfl) ?_
      refine lv_ldc2 (v := 123649683253028) hx hb hown (hT _ k_1223) d_MO_stageOf_28 ?_
      rcases h_5 : tw_MO_isNamed fu st p0 123649683253028 with _ | r_5
      · exact op_no hs (by rw [tw_MO_stageOf, h_1, ob1_mk, if_pos c_2, h_3, ob1_mk, if_pos c_4, h_5, ob1_no])
      refine rd_V (val := b2i r_5) (As := [.int p0, .long 123649683253028]) (rest := []) ⟨hx, hb, hml, hown, hT⟩ (c_MO_isNamed l D cB cI aM aMst aMdcs aMtot aMfrm aMsiz aMffr aMfsz aMlkd aMlat aMkkd aMkat aModr aMgrp aMikd aMiat fu thr tpd frs frt top bgn mst ovr tgr lvs its hgh loo dfl st p0 123649683253028 r_5 h_5) (cwV 2 hT (gV_of k_1217 k_1219 kp_MO_isNamed k_12 kc_MO_isNamed) rfl rfl rfl hd_MO_isNamed ⟨Nat.le_of_ble_eq_true rfl, Nat.le_of_ble_eq_true rfl⟩) hk hP (q0 := 0) rfl rfl rfl rfl hl.1 rfl (Nat.le_of_ble_eq_true rfl) d_MO_stageOf_31 ⟨Nat.zero_le _, Nat.zero_le _⟩ ?_
      refine lv_if_eq (tgt := 39) hx hb d_MO_stageOf_34 (by decide) (fun c_6 => ?_) (fun c_6 => ?_)
      · refine lv_aload_n hx hb d_MO_stageOf_39 rfl (lv_at hl 0 rfl) ?_
        refine lv_iload_n hx hb d_MO_stageOf_40 rfl (lv_at hl 1 rfl) ?_
        refine lv_ldc2 (v := 500136112932) hx hb hown (hT _ k_1224) d_MO_stageOf_41 ?_
        rcases h_7 : tw_MO_isNamed fu st p0 500136112932 with _ | r_7
        · exact op_no hs (by rw [tw_MO_stageOf, h_1, ob1_mk, if_pos c_2, h_3, ob1_mk, if_pos c_4, h_5, ob1_mk, if_pos c_6, h_7, ob1_no])
        refine rd_V (val := b2i r_7) (As := [.int p0, .long 500136112932]) (rest := []) ⟨hx, hb, hml, hown, hT⟩ (c_MO_isNamed l D cB cI aM aMst aMdcs aMtot aMfrm aMsiz aMffr aMfsz aMlkd aMlat aMkkd aMkat aModr aMgrp aMikd aMiat fu thr tpd frs frt top bgn mst ovr tgr lvs its hgh loo dfl st p0 500136112932 r_7 h_7) (cwV 2 hT (gV_of k_1217 k_1219 kp_MO_isNamed k_12 kc_MO_isNamed) rfl rfl rfl hd_MO_isNamed ⟨Nat.le_of_ble_eq_true rfl, Nat.le_of_ble_eq_true rfl⟩) hk hP (q0 := 0) rfl rfl rfl rfl hl.1 rfl (Nat.le_of_ble_eq_true rfl) d_MO_stageOf_44 ⟨Nat.zero_le _, Nat.zero_le _⟩ ?_
        refine lv_if_eq (tgt := 52) hx hb d_MO_stageOf_47 (by decide) (fun c_8 => ?_) (fun c_8 => ?_)
        · refine lv_aload_n hx hb d_MO_stageOf_52 rfl (lv_at hl 0 rfl) ?_
          refine lv_iload_n hx hb d_MO_stageOf_53 rfl (lv_at hl 1 rfl) ?_
          refine lv_ldc2 (v := 482804986660) hx hb hown (hT _ k_1225) d_MO_stageOf_54 ?_
          rcases h_9 : tw_MO_isNamed fu st p0 482804986660 with _ | r_9
          · exact op_no hs (by rw [tw_MO_stageOf, h_1, ob1_mk, if_pos c_2, h_3, ob1_mk, if_pos c_4, h_5, ob1_mk, if_pos c_6, h_7, ob1_mk, if_pos c_8, h_9, ob1_no])
          refine rd_V (val := b2i r_9) (As := [.int p0, .long 482804986660]) (rest := []) ⟨hx, hb, hml, hown, hT⟩ (c_MO_isNamed l D cB cI aM aMst aMdcs aMtot aMfrm aMsiz aMffr aMfsz aMlkd aMlat aMkkd aMkat aModr aMgrp aMikd aMiat fu thr tpd frs frt top bgn mst ovr tgr lvs its hgh loo dfl st p0 482804986660 r_9 h_9) (cwV 2 hT (gV_of k_1217 k_1219 kp_MO_isNamed k_12 kc_MO_isNamed) rfl rfl rfl hd_MO_isNamed ⟨Nat.le_of_ble_eq_true rfl, Nat.le_of_ble_eq_true rfl⟩) hk hP (q0 := 0) rfl rfl rfl rfl hl.1 rfl (Nat.le_of_ble_eq_true rfl) d_MO_stageOf_57 ⟨Nat.zero_le _, Nat.zero_le _⟩ ?_
          refine lv_if_eq (tgt := 65) hx hb d_MO_stageOf_60 (by decide) (fun c_10 => ?_) (fun c_10 => ?_)
          · refine lv_aload_n hx hb d_MO_stageOf_65 rfl (lv_at hl 0 rfl) ?_
            refine lv_iload_n hx hb d_MO_stageOf_66 rfl (lv_at hl 1 rfl) ?_
            refine lv_ldc2 (v := 127996156013604) hx hb hown (hT _ k_1226) d_MO_stageOf_67 ?_
            rcases h_11 : tw_MO_isNamed fu st p0 127996156013604 with _ | r_11
            · exact op_no hs (by rw [tw_MO_stageOf, h_1, ob1_mk, if_pos c_2, h_3, ob1_mk, if_pos c_4, h_5, ob1_mk, if_pos c_6, h_7, ob1_mk, if_pos c_8, h_9, ob1_mk, if_pos c_10, h_11, ob1_no])
            refine rd_V (val := b2i r_11) (As := [.int p0, .long 127996156013604]) (rest := []) ⟨hx, hb, hml, hown, hT⟩ (c_MO_isNamed l D cB cI aM aMst aMdcs aMtot aMfrm aMsiz aMffr aMfsz aMlkd aMlat aMkkd aMkat aModr aMgrp aMikd aMiat fu thr tpd frs frt top bgn mst ovr tgr lvs its hgh loo dfl st p0 127996156013604 r_11 h_11) (cwV 2 hT (gV_of k_1217 k_1219 kp_MO_isNamed k_12 kc_MO_isNamed) rfl rfl rfl hd_MO_isNamed ⟨Nat.le_of_ble_eq_true rfl, Nat.le_of_ble_eq_true rfl⟩) hk hP (q0 := 0) rfl rfl rfl rfl hl.1 rfl (Nat.le_of_ble_eq_true rfl) d_MO_stageOf_70 ⟨Nat.zero_le _, Nat.zero_le _⟩ ?_
            refine lv_if_eq (tgt := 79) hx hb d_MO_stageOf_73 (by decide) (fun c_12 => ?_) (fun c_12 => ?_)
            · refine lv_aload_n hx hb d_MO_stageOf_79 rfl (lv_at hl 0 rfl) ?_
              refine lv_iload_n hx hb d_MO_stageOf_80 rfl (lv_at hl 1 rfl) ?_
              refine lv_ldc2 (v := 31654301683117092) hx hb hown (hT _ k_1227) d_MO_stageOf_81 ?_
              rcases h_13 : tw_MO_isNamed fu st p0 31654301683117092 with _ | r_13
              · exact op_no hs (by rw [tw_MO_stageOf, h_1, ob1_mk, if_pos c_2, h_3, ob1_mk, if_pos c_4, h_5, ob1_mk, if_pos c_6, h_7, ob1_mk, if_pos c_8, h_9, ob1_mk, if_pos c_10, h_11, ob1_mk, if_pos c_12, h_13, ob1_no])
              refine rd_V (val := b2i r_13) (As := [.int p0, .long 31654301683117092]) (rest := []) ⟨hx, hb, hml, hown, hT⟩ (c_MO_isNamed l D cB cI aM aMst aMdcs aMtot aMfrm aMsiz aMffr aMfsz aMlkd aMlat aMkkd aMkat aModr aMgrp aMikd aMiat fu thr tpd frs frt top bgn mst ovr tgr lvs its hgh loo dfl st p0 31654301683117092 r_13 h_13) (cwV 2 hT (gV_of k_1217 k_1219 kp_MO_isNamed k_12 kc_MO_isNamed) rfl rfl rfl hd_MO_isNamed ⟨Nat.le_of_ble_eq_true rfl, Nat.le_of_ble_eq_true rfl⟩) hk hP (q0 := 0) rfl rfl rfl rfl hl.1 rfl (Nat.le_of_ble_eq_true rfl) d_MO_stageOf_84 ⟨Nat.zero_le _, Nat.zero_le _⟩ ?_
              refine lv_if_eq (tgt := 95) hx hb d_MO_stageOf_87 (by decide) (fun c_14 => ?_) (fun c_14 => ?_)
              · refine lv_iconst (v := 0) hx hb d_MO_stageOf_95 (by decide) ?_
                exact W.iret (v := 0) hx hb hr (fun t ht hW => ⟨0, rfl, (op_eq hs (by rw [tw_MO_stageOf, h_1, ob1_mk, if_pos c_2, h_3, ob1_mk, if_pos c_4, h_5, ob1_mk, if_pos c_6, h_7, ob1_mk, if_pos c_8, h_9, ob1_mk, if_pos c_10, h_11, ob1_mk, if_pos c_12, h_13, ob1_mk, if_pos c_14])), ht⟩) (fun _ h => by cases h) d_MO_stageOf_96
              · refine lv_bipush (v := 7) hx hb d_MO_stageOf_90 (by decide) ?_
                refine lv_goto (tgt := 96) hx hb d_MO_stageOf_92 (by decide) ?_
                exact W.iret (v := 7) hx hb hr (fun t ht hW => ⟨7, rfl, (op_eq hs (by rw [tw_MO_stageOf, h_1, ob1_mk, if_pos c_2, h_3, ob1_mk, if_pos c_4, h_5, ob1_mk, if_pos c_6, h_7, ob1_mk, if_pos c_8, h_9, ob1_mk, if_pos c_10, h_11, ob1_mk, if_pos c_12, h_13, ob1_mk, if_neg c_14])), ht⟩) (fun _ h => by cases h) d_MO_stageOf_96
            · refine lv_bipush (v := 6) hx hb d_MO_stageOf_76 (by decide) ?_
              exact W.iret (v := 6) hx hb hr (fun t ht hW => ⟨6, rfl, (op_eq hs (by rw [tw_MO_stageOf, h_1, ob1_mk, if_pos c_2, h_3, ob1_mk, if_pos c_4, h_5, ob1_mk, if_pos c_6, h_7, ob1_mk, if_pos c_8, h_9, ob1_mk, if_pos c_10, h_11, ob1_mk, if_neg c_12])), ht⟩) (fun _ h => by cases h) d_MO_stageOf_78
          · refine lv_iconst (v := 5) hx hb d_MO_stageOf_63 (by decide) ?_
            exact W.iret (v := 5) hx hb hr (fun t ht hW => ⟨5, rfl, (op_eq hs (by rw [tw_MO_stageOf, h_1, ob1_mk, if_pos c_2, h_3, ob1_mk, if_pos c_4, h_5, ob1_mk, if_pos c_6, h_7, ob1_mk, if_pos c_8, h_9, ob1_mk, if_neg c_10])), ht⟩) (fun _ h => by cases h) d_MO_stageOf_64
        · refine lv_iconst (v := 4) hx hb d_MO_stageOf_50 (by decide) ?_
          exact W.iret (v := 4) hx hb hr (fun t ht hW => ⟨4, rfl, (op_eq hs (by rw [tw_MO_stageOf, h_1, ob1_mk, if_pos c_2, h_3, ob1_mk, if_pos c_4, h_5, ob1_mk, if_pos c_6, h_7, ob1_mk, if_neg c_8])), ht⟩) (fun _ h => by cases h) d_MO_stageOf_51
      · refine lv_iconst (v := 3) hx hb d_MO_stageOf_37 (by decide) ?_
        exact W.iret (v := 3) hx hb hr (fun t ht hW => ⟨3, rfl, (op_eq hs (by rw [tw_MO_stageOf, h_1, ob1_mk, if_pos c_2, h_3, ob1_mk, if_pos c_4, h_5, ob1_mk, if_neg c_6])), ht⟩) (fun _ h => by cases h) d_MO_stageOf_38
    · refine lv_iconst (v := 2) hx hb d_MO_stageOf_24 (by decide) ?_
      exact W.iret (v := 2) hx hb hr (fun t ht hW => ⟨2, rfl, (op_eq hs (by rw [tw_MO_stageOf, h_1, ob1_mk, if_pos c_2, h_3, ob1_mk, if_neg c_4])), ht⟩) (fun _ h => by cases h) d_MO_stageOf_25
  · refine lv_iconst (v := 1) hx hb d_MO_stageOf_11 (by decide) ?_
    exact W.iret (v := 1) hx hb hr (fun t ht hW => ⟨1, rfl, (op_eq hs (by rw [tw_MO_stageOf, h_1, ob1_mk, if_neg c_2])), ht⟩) (fun _ h => by cases h) d_MO_stageOf_12
set_option maxHeartbeats 4000000 in
set_option maxRecDepth 100000 in
theorem c_MO_gatherOf (l : Launch) (D : va_G) (cB cI : ClassId) (aM aMst aMdcs aMtot aMfrm aMsiz aMffr aMfsz aMlkd aMlat aMkkd aMkat aModr aMgrp aMikd aMiat : Nat) (fu : Nat) (thr : Int32) (tpd : Int32) (frs : Int32) (frt : Int32) (top : Int32) (bgn : Int32) (mst : Int32) (ovr : Bool) (tgr : Bool) (lvs : Int32) (its : Int32) (hgh : Int64) (loo : Int64) (dfl : Bool) (st : Nat → Int32) (p0 : Int32) (V0 : Int32) (hs : tw_MO_gatherOf fu st p0 = some V0) : Met l y_MO_gatherOf mw_MO_gatherOf { frames := 2, cells := 0, slots := 0, locals := 46 } (va_Pc [.ref aM, .int p0] (fun U => va_P D vwCl [(aM, .inr (11, [.int thr, .ref aMst, .int tpd, .ref aMdcs, .ref aMtot, .ref aMfrm, .ref aMsiz, .int frs, .int frt, .ref aMffr, .ref aMfsz, .int top, .int bgn, .int mst, .int (b2i ovr), .int (b2i tgr), .int lvs, .ref aMlkd, .ref aMlat, .ref aMkkd, .ref aMkat, .ref aModr, .ref aMgrp, .int its, .ref aMikd, .ref aMiat, .long hgh, .long loo, .int (b2i dfl)])), (aMst, .inl (cI, 136400, .inl st))] U.heap ∧ hk_ D cB cI U)) (vp_Si (fun r => r = V0)) 0 0 (fun _ => False) := by
  refine Met.ofW (cc := b_MO_gatherOf) (maxL := 2) (ret := (some .int)) (by decide) rfl ?_
  intro p e s m args below meth c s₁ B0 hml hv
  obtain ⟨rfl, hP, hk⟩ := hv
  have hK := hk.1
  have hN := hk.2.1
  have hx := B0.exec
  have hb := B0.bytes
  have hr := B0.returns
  have hT : ∀ w ∈ lw_g, w.before _ s = true := fun w h => atoms_spec (ws := mw_MO_gatherOf) B0.pre w (List.mem_cons_of_mem _ h)
  have hown : s.vm.findClass R_MO = some m.cls := findClass_of_methodNamed B0.named
  have hlocks := B0.notSynchronized
  have hl := lv_entry ([.ref aM, .int p0]) (n := 2) (Nat.le_of_ble_eq_true rfl)
  rw [lg_entry_eq]
  generalize (lg_sl ([.ref aM, .int p0]) ++ List.replicate (2 - (lg_sl ([.ref aM, .int p0])).length) Slot.unset).toArray = ls at hl ⊢
  have hl : lv_has ls 2 [(0, .ref aM), (1, .int p0)] := hl
  refine lv_aload_n hx hb d_MO_gatherOf_0 rfl (lv_at hl 0 rfl) ?_
  refine lv_iload_n hx hb d_MO_gatherOf_1 rfl (lv_at hl 1 rfl) ?_
  refine lv_ldc2 (v := 128017765458724) hx hb hown (hT _ k_1261) d_MO_gatherOf_2 ?_
  rcases h_1 : tw_MO_isNamed fu st p0 128017765458724 with _ | r_1
  · exact op_no hs (by rw [tw_MO_gatherOf, h_1, ob1_no])
  refine rd_V (val := b2i r_1) (As := [.int p0, .long 128017765458724]) (rest := []) ⟨hx, hb, hml, hown, hT⟩ (c_MO_isNamed l D cB cI aM aMst aMdcs aMtot aMfrm aMsiz aMffr aMfsz aMlkd aMlat aMkkd aMkat aModr aMgrp aMikd aMiat fu thr tpd frs frt top bgn mst ovr tgr lvs its hgh loo dfl st p0 128017765458724 r_1 h_1) (cwV 2 hT (gV_of k_1217 k_1219 kp_MO_isNamed k_12 kc_MO_isNamed) rfl rfl rfl hd_MO_isNamed ⟨Nat.le_of_ble_eq_true rfl, Nat.le_of_ble_eq_true rfl⟩) hk hP (q0 := 0) rfl rfl rfl rfl hl.1 rfl (Nat.le_of_ble_eq_true rfl) d_MO_gatherOf_5 ⟨Nat.zero_le _, Nat.zero_le _⟩ ?_
  refine lv_if_eq (tgt := 13) hx hb d_MO_gatherOf_8 (by decide) (fun c_2 => ?_) (fun c_2 => ?_)
  · refine lv_aload_n hx hb d_MO_gatherOf_13 rfl (lv_at hl 0 rfl) ?_
    refine lv_iload_n hx hb d_MO_gatherOf_14 rfl (lv_at hl 1 rfl) ?_
    refine lv_ldc2 (v := 1836413732) hx hb hown (hT _ k_1262) d_MO_gatherOf_15 ?_
    rcases h_3 : tw_MO_isNamed fu st p0 1836413732 with _ | r_3
    · exact op_no hs (by rw [tw_MO_gatherOf, h_1, ob1_mk, if_pos c_2, h_3, ob1_no])
    refine rd_V (val := b2i r_3) (As := [.int p0, .long 1836413732]) (rest := []) ⟨hx, hb, hml, hown, hT⟩ (c_MO_isNamed l D cB cI aM aMst aMdcs aMtot aMfrm aMsiz aMffr aMfsz aMlkd aMlat aMkkd aMkat aModr aMgrp aMikd aMiat fu thr tpd frs frt top bgn mst ovr tgr lvs its hgh loo dfl st p0 1836413732 r_3 h_3) (cwV 2 hT (gV_of k_1217 k_1219 kp_MO_isNamed k_12 kc_MO_isNamed) rfl rfl rfl hd_MO_isNamed ⟨Nat.le_of_ble_eq_true rfl, Nat.le_of_ble_eq_true rfl⟩) hk hP (q0 := 0) rfl rfl rfl rfl hl.1 rfl (Nat.le_of_ble_eq_true rfl) d_MO_gatherOf_18 ⟨Nat.zero_le _, Nat.zero_le _⟩ ?_
    refine lv_if_eq (tgt := 26) hx hb d_MO_gatherOf_21 (by decide) (fun c_4 => ?_) (fun c_4 => ?_)
    · refine lv_aload_n hx hb d_MO_gatherOf_26 rfl (lv_at hl 0 rfl) ?_
      refine lv_iload_n hx hb d_MO_gatherOf_27 rfl (lv_at hl 1 rfl) ?_
      refine lv_ldc2 (v := 1852402980) hx hb hown (hT _ k_1263) d_MO_gatherOf_28 ?_
      rcases h_5 : tw_MO_isNamed fu st p0 1852402980 with _ | r_5
      · exact op_no hs (by rw [tw_MO_gatherOf, h_1, ob1_mk, if_pos c_2, h_3, ob1_mk, if_pos c_4, h_5, ob1_no])
      refine rd_V (val := b2i r_5) (As := [.int p0, .long 1852402980]) (rest := []) ⟨hx, hb, hml, hown, hT⟩ (c_MO_isNamed l D cB cI aM aMst aMdcs aMtot aMfrm aMsiz aMffr aMfsz aMlkd aMlat aMkkd aMkat aModr aMgrp aMikd aMiat fu thr tpd frs frt top bgn mst ovr tgr lvs its hgh loo dfl st p0 1852402980 r_5 h_5) (cwV 2 hT (gV_of k_1217 k_1219 kp_MO_isNamed k_12 kc_MO_isNamed) rfl rfl rfl hd_MO_isNamed ⟨Nat.le_of_ble_eq_true rfl, Nat.le_of_ble_eq_true rfl⟩) hk hP (q0 := 0) rfl rfl rfl rfl hl.1 rfl (Nat.le_of_ble_eq_true rfl) d_MO_gatherOf_31 ⟨Nat.zero_le _, Nat.zero_le _⟩ ?_
      refine lv_if_eq (tgt := 39) hx hb d_MO_gatherOf_34 (by decide) (fun c_6 => ?_) (fun c_6 => ?_)
      · refine lv_aload_n hx hb d_MO_gatherOf_39 rfl (lv_at hl 0 rfl) ?_
        refine lv_iload_n hx hb d_MO_gatherOf_40 rfl (lv_at hl 1 rfl) ?_
        refine lv_ldc2 (v := 2019650852) hx hb hown (hT _ k_1264) d_MO_gatherOf_41 ?_
        rcases h_7 : tw_MO_isNamed fu st p0 2019650852 with _ | r_7
        · exact op_no hs (by rw [tw_MO_gatherOf, h_1, ob1_mk, if_pos c_2, h_3, ob1_mk, if_pos c_4, h_5, ob1_mk, if_pos c_6, h_7, ob1_no])
        refine rd_V (val := b2i r_7) (As := [.int p0, .long 2019650852]) (rest := []) ⟨hx, hb, hml, hown, hT⟩ (c_MO_isNamed l D cB cI aM aMst aMdcs aMtot aMfrm aMsiz aMffr aMfsz aMlkd aMlat aMkkd aMkat aModr aMgrp aMikd aMiat fu thr tpd frs frt top bgn mst ovr tgr lvs its hgh loo dfl st p0 2019650852 r_7 h_7) (cwV 2 hT (gV_of k_1217 k_1219 kp_MO_isNamed k_12 kc_MO_isNamed) rfl rfl rfl hd_MO_isNamed ⟨Nat.le_of_ble_eq_true rfl, Nat.le_of_ble_eq_true rfl⟩) hk hP (q0 := 0) rfl rfl rfl rfl hl.1 rfl (Nat.le_of_ble_eq_true rfl) d_MO_gatherOf_44 ⟨Nat.zero_le _, Nat.zero_le _⟩ ?_
        refine lv_if_eq (tgt := 52) hx hb d_MO_gatherOf_47 (by decide) (fun c_8 => ?_) (fun c_8 => ?_)
        · refine lv_aload_n hx hb d_MO_gatherOf_52 rfl (lv_at hl 0 rfl) ?_
          refine lv_iload_n hx hb d_MO_gatherOf_53 rfl (lv_at hl 1 rfl) ?_
          refine lv_ldc2 (v := 128039189571108) hx hb hown (hT _ k_1265) d_MO_gatherOf_54 ?_
          rcases h_9 : tw_MO_isNamed fu st p0 128039189571108 with _ | r_9
          · exact op_no hs (by rw [tw_MO_gatherOf, h_1, ob1_mk, if_pos c_2, h_3, ob1_mk, if_pos c_4, h_5, ob1_mk, if_pos c_6, h_7, ob1_mk, if_pos c_8, h_9, ob1_no])
          refine rd_V (val := b2i r_9) (As := [.int p0, .long 128039189571108]) (rest := []) ⟨hx, hb, hml, hown, hT⟩ (c_MO_isNamed l D cB cI aM aMst aMdcs aMtot aMfrm aMsiz aMffr aMfsz aMlkd aMlat aMkkd aMkat aModr aMgrp aMikd aMiat fu thr tpd frs frt top bgn mst ovr tgr lvs its hgh loo dfl st p0 128039189571108 r_9 h_9) (cwV 2 hT (gV_of k_1217 k_1219 kp_MO_isNamed k_12 kc_MO_isNamed) rfl rfl rfl hd_MO_isNamed ⟨Nat.le_of_ble_eq_true rfl, Nat.le_of_ble_eq_true rfl⟩) hk hP (q0 := 0) rfl rfl rfl rfl hl.1 rfl (Nat.le_of_ble_eq_true rfl) d_MO_gatherOf_57 ⟨Nat.zero_le _, Nat.zero_le _⟩ ?_
          refine lv_if_eq (tgt := 65) hx hb d_MO_gatherOf_60 (by decide) (fun c_10 => ?_) (fun c_10 => ?_)
          · refine lv_aload_n hx hb d_MO_gatherOf_65 rfl (lv_at hl 0 rfl) ?_
            refine lv_iload_n hx hb d_MO_gatherOf_66 rfl (lv_at hl 1 rfl) ?_
            refine lv_ldc2 (v := 500151970852) hx hb hown (hT _ k_1266) d_MO_gatherOf_67 ?_
            rcases h_11 : tw_MO_isNamed fu st p0 500151970852 with _ | r_11
            · exact op_no hs (by rw [tw_MO_gatherOf, h_1, ob1_mk, if_pos c_2, h_3, ob1_mk, if_pos c_4, h_5, ob1_mk, if_pos c_6, h_7, ob1_mk, if_pos c_8, h_9, ob1_mk, if_pos c_10, h_11, ob1_no])
            refine rd_V (val := b2i r_11) (As := [.int p0, .long 500151970852]) (rest := []) ⟨hx, hb, hml, hown, hT⟩ (c_MO_isNamed l D cB cI aM aMst aMdcs aMtot aMfrm aMsiz aMffr aMfsz aMlkd aMlat aMkkd aMkat aModr aMgrp aMikd aMiat fu thr tpd frs frt top bgn mst ovr tgr lvs its hgh loo dfl st p0 500151970852 r_11 h_11) (cwV 2 hT (gV_of k_1217 k_1219 kp_MO_isNamed k_12 kc_MO_isNamed) rfl rfl rfl hd_MO_isNamed ⟨Nat.le_of_ble_eq_true rfl, Nat.le_of_ble_eq_true rfl⟩) hk hP (q0 := 0) rfl rfl rfl rfl hl.1 rfl (Nat.le_of_ble_eq_true rfl) d_MO_gatherOf_70 ⟨Nat.zero_le _, Nat.zero_le _⟩ ?_
            refine lv_if_eq (tgt := 79) hx hb d_MO_gatherOf_73 (by decide) (fun c_12 => ?_) (fun c_12 => ?_)
            · refine lv_aload_n hx hb d_MO_gatherOf_79 rfl (lv_at hl 0 rfl) ?_
              refine lv_iload_n hx hb d_MO_gatherOf_80 rfl (lv_at hl 1 rfl) ?_
              refine lv_ldc2 (v := 448613675044) hx hb hown (hT _ k_1267) d_MO_gatherOf_81 ?_
              rcases h_13 : tw_MO_isNamed fu st p0 448613675044 with _ | r_13
              · exact op_no hs (by rw [tw_MO_gatherOf, h_1, ob1_mk, if_pos c_2, h_3, ob1_mk, if_pos c_4, h_5, ob1_mk, if_pos c_6, h_7, ob1_mk, if_pos c_8, h_9, ob1_mk, if_pos c_10, h_11, ob1_mk, if_pos c_12, h_13, ob1_no])
              refine rd_V (val := b2i r_13) (As := [.int p0, .long 448613675044]) (rest := []) ⟨hx, hb, hml, hown, hT⟩ (c_MO_isNamed l D cB cI aM aMst aMdcs aMtot aMfrm aMsiz aMffr aMfsz aMlkd aMlat aMkkd aMkat aModr aMgrp aMikd aMiat fu thr tpd frs frt top bgn mst ovr tgr lvs its hgh loo dfl st p0 448613675044 r_13 h_13) (cwV 2 hT (gV_of k_1217 k_1219 kp_MO_isNamed k_12 kc_MO_isNamed) rfl rfl rfl hd_MO_isNamed ⟨Nat.le_of_ble_eq_true rfl, Nat.le_of_ble_eq_true rfl⟩) hk hP (q0 := 0) rfl rfl rfl rfl hl.1 rfl (Nat.le_of_ble_eq_true rfl) d_MO_gatherOf_84 ⟨Nat.zero_le _, Nat.zero_le _⟩ ?_
              refine lv_if_eq (tgt := 93) hx hb d_MO_gatherOf_87 (by decide) (fun c_14 => ?_) (fun c_14 => ?_)
              · refine lv_aload_n hx hb d_MO_gatherOf_93 rfl (lv_at hl 0 rfl) ?_
                refine lv_iload_n hx hb d_MO_gatherOf_94 rfl (lv_at hl 1 rfl) ?_
                rcases h_15 : tw_MO_isSet fu st p0 with _ | r_15
                · exact op_no hs (by rw [tw_MO_gatherOf, h_1, ob1_mk, if_pos c_2, h_3, ob1_mk, if_pos c_4, h_5, ob1_mk, if_pos c_6, h_7, ob1_mk, if_pos c_8, h_9, ob1_mk, if_pos c_10, h_11, ob1_mk, if_pos c_12, h_13, ob1_mk, if_pos c_14, h_15, ob1_no])
                refine rd_V (val := b2i r_15) (As := [.int p0]) (rest := []) ⟨hx, hb, hml, hown, hT⟩ (c_MO_isSet l D cB cI aM aMst aMdcs aMtot aMfrm aMsiz aMffr aMfsz aMlkd aMlat aMkkd aMkat aModr aMgrp aMikd aMiat fu thr tpd frs frt top bgn mst ovr tgr lvs its hgh loo dfl st p0 r_15 h_15) (cwV 1 hT (gV_of k_1268 k_1270 kp_MO_isSet k_12 kc_MO_isSet) rfl rfl rfl hd_MO_isSet ⟨Nat.le_of_ble_eq_true rfl, Nat.le_of_ble_eq_true rfl⟩) hk hP (q0 := 0) rfl rfl rfl rfl hl.1 rfl (Nat.le_of_ble_eq_true rfl) d_MO_gatherOf_95 ⟨Nat.zero_le _, Nat.zero_le _⟩ ?_
                refine lv_if_eq (tgt := 106) hx hb d_MO_gatherOf_98 (by decide) (fun c_16 => ?_) (fun c_16 => ?_)
                · refine lv_iconst (v := 0) hx hb d_MO_gatherOf_106 (by decide) ?_
                  exact W.iret (v := 0) hx hb hr (fun t ht hW => ⟨0, rfl, (op_eq hs (by rw [tw_MO_gatherOf, h_1, ob1_mk, if_pos c_2, h_3, ob1_mk, if_pos c_4, h_5, ob1_mk, if_pos c_6, h_7, ob1_mk, if_pos c_8, h_9, ob1_mk, if_pos c_10, h_11, ob1_mk, if_pos c_12, h_13, ob1_mk, if_pos c_14, h_15, ob1_mk, if_pos c_16])), ht⟩) (fun _ h => by cases h) d_MO_gatherOf_107
                · refine lv_bipush (v := 8) hx hb d_MO_gatherOf_101 (by decide) ?_
                  refine lv_goto (tgt := 107) hx hb d_MO_gatherOf_103 (by decide) ?_
                  exact W.iret (v := 8) hx hb hr (fun t ht hW => ⟨8, rfl, (op_eq hs (by rw [tw_MO_gatherOf, h_1, ob1_mk, if_pos c_2, h_3, ob1_mk, if_pos c_4, h_5, ob1_mk, if_pos c_6, h_7, ob1_mk, if_pos c_8, h_9, ob1_mk, if_pos c_10, h_11, ob1_mk, if_pos c_12, h_13, ob1_mk, if_pos c_14, h_15, ob1_mk, if_neg c_16])), ht⟩) (fun _ h => by cases h) d_MO_gatherOf_107
              · refine lv_bipush (v := 7) hx hb d_MO_gatherOf_90 (by decide) ?_
                exact W.iret (v := 7) hx hb hr (fun t ht hW => ⟨7, rfl, (op_eq hs (by rw [tw_MO_gatherOf, h_1, ob1_mk, if_pos c_2, h_3, ob1_mk, if_pos c_4, h_5, ob1_mk, if_pos c_6, h_7, ob1_mk, if_pos c_8, h_9, ob1_mk, if_pos c_10, h_11, ob1_mk, if_pos c_12, h_13, ob1_mk, if_neg c_14])), ht⟩) (fun _ h => by cases h) d_MO_gatherOf_92
            · refine lv_bipush (v := 6) hx hb d_MO_gatherOf_76 (by decide) ?_
              exact W.iret (v := 6) hx hb hr (fun t ht hW => ⟨6, rfl, (op_eq hs (by rw [tw_MO_gatherOf, h_1, ob1_mk, if_pos c_2, h_3, ob1_mk, if_pos c_4, h_5, ob1_mk, if_pos c_6, h_7, ob1_mk, if_pos c_8, h_9, ob1_mk, if_pos c_10, h_11, ob1_mk, if_neg c_12])), ht⟩) (fun _ h => by cases h) d_MO_gatherOf_78
          · refine lv_iconst (v := 5) hx hb d_MO_gatherOf_63 (by decide) ?_
            exact W.iret (v := 5) hx hb hr (fun t ht hW => ⟨5, rfl, (op_eq hs (by rw [tw_MO_gatherOf, h_1, ob1_mk, if_pos c_2, h_3, ob1_mk, if_pos c_4, h_5, ob1_mk, if_pos c_6, h_7, ob1_mk, if_pos c_8, h_9, ob1_mk, if_neg c_10])), ht⟩) (fun _ h => by cases h) d_MO_gatherOf_64
        · refine lv_iconst (v := 4) hx hb d_MO_gatherOf_50 (by decide) ?_
          exact W.iret (v := 4) hx hb hr (fun t ht hW => ⟨4, rfl, (op_eq hs (by rw [tw_MO_gatherOf, h_1, ob1_mk, if_pos c_2, h_3, ob1_mk, if_pos c_4, h_5, ob1_mk, if_pos c_6, h_7, ob1_mk, if_neg c_8])), ht⟩) (fun _ h => by cases h) d_MO_gatherOf_51
      · refine lv_iconst (v := 3) hx hb d_MO_gatherOf_37 (by decide) ?_
        exact W.iret (v := 3) hx hb hr (fun t ht hW => ⟨3, rfl, (op_eq hs (by rw [tw_MO_gatherOf, h_1, ob1_mk, if_pos c_2, h_3, ob1_mk, if_pos c_4, h_5, ob1_mk, if_neg c_6])), ht⟩) (fun _ h => by cases h) d_MO_gatherOf_38
    · refine lv_iconst (v := 2) hx hb d_MO_gatherOf_24 (by decide) ?_
      exact W.iret (v := 2) hx hb hr (fun t ht hW => ⟨2, rfl, (op_eq hs (by rw [tw_MO_gatherOf, h_1, ob1_mk, if_pos c_2, h_3, ob1_mk, if_neg c_4])), ht⟩) (fun _ h => by cases h) d_MO_gatherOf_25
  · refine lv_iconst (v := 1) hx hb d_MO_gatherOf_11 (by decide) ?_
    exact W.iret (v := 1) hx hb hr (fun t ht hW => ⟨1, rfl, (op_eq hs (by rw [tw_MO_gatherOf, h_1, ob1_mk, if_neg c_2])), ht⟩) (fun _ h => by cases h) d_MO_gatherOf_12
set_option maxHeartbeats 4000000 in
set_option maxRecDepth 100000 in
theorem l_MO_projectFault_h16 {p : Program} {e : Env} {s : State} {m : MethodId} {args : Array Value} {below : List Frame} {meth : Method} {c : Code} {V : Option (Int32)} {V0 : Int32} (C0 : lc_C p s m meth c args b_MO_projectFault 3 (some .int) R_MO lw_g) (hs : V = some V0) (l : Launch) (D : va_G) (cB cI : ClassId) (aM aMst aMdcs aMtot aMfrm aMsiz aMffr aMfsz aMlkd aMlat aMkkd aMkat aModr aMgrp aMikd aMiat : Nat) (fu : Nat) (thr : Int32) (tpd : Int32) (frs : Int32) (frt : Int32) (top : Int32) (bgn : Int32) (mst : Int32) (ovr : Bool) (tgr : Bool) (lvs : Int32) (its : Int32) (hgh : Int64) (loo : Int64) (dfl : Bool) (st : Nat → Int32) (hP : va_P D vwCl [(aM, .inr (11, [.int thr, .ref aMst, .int tpd, .ref aMdcs, .ref aMtot, .ref aMfrm, .ref aMsiz, .int frs, .int frt, .ref aMffr, .ref aMfsz, .int top, .int bgn, .int mst, .int (b2i ovr), .int (b2i tgr), .int lvs, .ref aMlkd, .ref aMlat, .ref aMkkd, .ref aMkat, .ref aModr, .ref aMgrp, .int its, .ref aMikd, .ref aMiat, .long hgh, .long loo, .int (b2i dfl)])), (aMst, .inl (cI, 136400, .inl st))] s.heap) (hk : hk_ D cB cI s)  {K : Int32 → Option (Int32)} (hKx : ∀ (x2 : Int32), V = K x2 → ∀ ls : Array Slot, lv_has ls 3 [] → W p l e ({ frames := 4, cells := 0, slots := 0, locals := 89 }) s m args below meth c s.heap [] 0 0 (MQ below (vp_Si (fun r => r = V0)) args s 0 0 (fun _ => False)) (F0 m 49 ls [])) : ∀ (n : Nat) (x2 : Int32), V = tw_MO_projectFault_h16 fu K st n x2 → ∀ ls : Array Slot, lv_has ls 3 [(0, .ref aM), (2, .int x2)] → W p l e ({ frames := 4, cells := 0, slots := 0, locals := 89 }) s m args below meth c s.heap [] 0 0 (MQ below (vp_Si (fun r => r = V0)) args s 0 0 (fun _ => False)) (F0 m 16 ls []) := by
  obtain ⟨hx, hb, hml, hr, hown, hlocks, hT⟩ := id C0
  have hK := hk.1
  have hN := hk.2.1
  intro n
  induction n with
  | zero =>
    intro x2 hV
    exact op_no hs (hV.trans rfl)
  | succ n ih =>
    intro x2 hV ls hl
    refine lv_iload_n hx hb d_MO_projectFault_16 rfl (lv_at hl 1 rfl) ?_
    refine lv_if_le (tgt := 49) hx hb d_MO_projectFault_17 (by decide) (fun c_4 => ?_) (fun c_4 => ?_)
    · exact hKx x2 (by rw [hV, tw_MO_projectFault_h16, if_pos c_4]) ls (lv_sub hl [] rfl)
    · refine lv_aload_n hx hb d_MO_projectFault_20 rfl (lv_at hl 0 rfl) ?_
      refine lv_iload_n hx hb d_MO_projectFault_21 rfl (lv_at hl 1 rfl) ?_
      rcases h_5 : tw_MO_isPlainName fu st x2 with _ | r_5
      · exact op_no hs (by rw [hV, tw_MO_projectFault_h16, if_neg c_4, h_5, ob1_no])
      refine rd_V (val := b2i r_5) (As := [.int x2]) (rest := []) ⟨hx, hb, hml, hown, hT⟩ (c_MO_isPlainName l D cB cI aM aMst aMdcs aMtot aMfrm aMsiz aMffr aMfsz aMlkd aMlat aMkkd aMkat aModr aMgrp aMikd aMiat fu thr tpd frs frt top bgn mst ovr tgr lvs its hgh loo dfl st x2 r_5 h_5) (cwV 1 hT (gV_of k_1232 k_1234 kp_MO_isPlainName k_12 kc_MO_isPlainName) rfl rfl rfl hd_MO_isPlainName ⟨Nat.le_of_ble_eq_true rfl, Nat.le_of_ble_eq_true rfl⟩) hk hP (q0 := 0) rfl rfl rfl rfl hl.1 rfl (Nat.le_of_ble_eq_true rfl) d_MO_projectFault_22 ⟨Nat.zero_le _, Nat.zero_le _⟩ ?_
      refine lv_if_ne (tgt := 30) hx hb d_MO_projectFault_25 (by decide) (fun c_6 => ?_) (fun c_6 => ?_)
      · refine lv_aload_n hx hb d_MO_projectFault_30 rfl (lv_at hl 0 rfl) ?_
        refine lv_iload_n hx hb d_MO_projectFault_31 rfl (lv_at hl 1 rfl) ?_
        rcases h_7 : tw_MO_expressionFault fu st x2 with _ | r_7
        · exact op_no hs (by rw [hV, tw_MO_projectFault_h16, if_neg c_4, h_5, ob1_mk, if_neg c_6, h_7, ob1_no])
        refine rd_V (val := r_7) (As := [.int x2]) (rest := []) ⟨hx, hb, hml, hown, hT⟩ (c_MO_expressionFault l D cB cI aM aMst aMdcs aMtot aMfrm aMsiz aMffr aMfsz aMlkd aMlat aMkkd aMkat aModr aMgrp aMikd aMiat fu thr tpd frs frt top bgn mst ovr tgr lvs its hgh loo dfl st x2 r_7 h_7) (cwV 1 hT (gV_of k_1240 k_1242 kp_MO_expressionFault k_12 kc_MO_expressionFault) rfl rfl rfl hd_MO_expressionFault ⟨Nat.le_of_ble_eq_true rfl, Nat.le_of_ble_eq_true rfl⟩) hk hP (q0 := 0) rfl rfl rfl rfl hl.1 rfl (Nat.le_of_ble_eq_true rfl) d_MO_projectFault_32 ⟨Nat.zero_le _, Nat.zero_le _⟩ ?_
        refine lv_if_le (tgt := 40) hx hb d_MO_projectFault_35 (by decide) (fun c_8 => ?_) (fun c_8 => ?_)
        · refine lv_aload_n hx hb d_MO_projectFault_40 rfl (lv_at hl 0 rfl) ?_
          refine lv_iload_n hx hb d_MO_projectFault_41 rfl (lv_at hl 1 rfl) ?_
          rcases h_9 : tw_MO_nextOf fu st x2 with _ | r_9
          · exact op_no hs (by rw [hV, tw_MO_projectFault_h16, if_neg c_4, h_5, ob1_mk, if_neg c_6, h_7, ob1_mk, if_pos c_8, h_9, ob1_no])
          refine rd_V (val := r_9) (As := [.int x2]) (rest := []) ⟨hx, hb, hml, hown, hT⟩ (c_MO_nextOf l D cB cI aM aMst aMdcs aMtot aMfrm aMsiz aMffr aMfsz aMlkd aMlat aMkkd aMkat aModr aMgrp aMikd aMiat fu thr tpd frs frt top bgn mst ovr tgr lvs its hgh loo dfl st x2 r_9 h_9) (cwV 1 hT (gV_of k_1204 k_1206 kp_MO_nextOf k_12 kc_MO_nextOf) rfl rfl rfl hd_MO_nextOf ⟨Nat.le_of_ble_eq_true rfl, Nat.le_of_ble_eq_true rfl⟩) hk hP (q0 := 0) rfl rfl rfl rfl hl.1 rfl (Nat.le_of_ble_eq_true rfl) d_MO_projectFault_42 ⟨Nat.zero_le _, Nat.zero_le _⟩ ?_
          refine lv_istore_n (lv' := [(2, .int r_9), (0, .ref aM)]) hx hb d_MO_projectFault_45 rfl hl (by decide) rfl (fun ls hl => ?_)
          refine lv_goto (tgt := 16) hx hb d_MO_projectFault_46 (by decide) ?_
          exact ih r_9 (by rw [hV, tw_MO_projectFault_h16, if_neg c_4, h_5, ob1_mk, if_neg c_6, h_7, ob1_mk, if_pos c_8, h_9, ob1_mk]) ls (lv_sub hl [1, 0] rfl)
        · refine lv_iconst (v := 3) hx hb d_MO_projectFault_38 (by decide) ?_
          exact W.iret (v := 3) hx hb hr (fun t ht hW => ⟨3, rfl, (op_eq hs (by rw [hV, tw_MO_projectFault_h16, if_neg c_4, h_5, ob1_mk, if_neg c_6, h_7, ob1_mk, if_neg c_8])), ht⟩) (fun _ h => by cases h) d_MO_projectFault_39
      · refine lv_iconst (v := 2) hx hb d_MO_projectFault_28 (by decide) ?_
        exact W.iret (v := 2) hx hb hr (fun t ht hW => ⟨2, rfl, (op_eq hs (by rw [hV, tw_MO_projectFault_h16, if_neg c_4, h_5, ob1_mk, if_pos c_6])), ht⟩) (fun _ h => by cases h) d_MO_projectFault_29
set_option maxHeartbeats 4000000 in
set_option maxRecDepth 100000 in
theorem c_MO_projectFault (l : Launch) (D : va_G) (cB cI : ClassId) (aM aMst aMdcs aMtot aMfrm aMsiz aMffr aMfsz aMlkd aMlat aMkkd aMkat aModr aMgrp aMikd aMiat : Nat) (fu : Nat) (thr : Int32) (tpd : Int32) (frs : Int32) (frt : Int32) (top : Int32) (bgn : Int32) (mst : Int32) (ovr : Bool) (tgr : Bool) (lvs : Int32) (its : Int32) (hgh : Int64) (loo : Int64) (dfl : Bool) (st : Nat → Int32) (p0 : Int32) (V0 : Int32) (hs : tw_MO_projectFault fu st p0 = some V0) : Met l y_MO_projectFault mw_MO_projectFault { frames := 4, cells := 0, slots := 0, locals := 89 } (va_Pc [.ref aM, .int p0] (fun U => va_P D vwCl [(aM, .inr (11, [.int thr, .ref aMst, .int tpd, .ref aMdcs, .ref aMtot, .ref aMfrm, .ref aMsiz, .int frs, .int frt, .ref aMffr, .ref aMfsz, .int top, .int bgn, .int mst, .int (b2i ovr), .int (b2i tgr), .int lvs, .ref aMlkd, .ref aMlat, .ref aMkkd, .ref aMkat, .ref aModr, .ref aMgrp, .int its, .ref aMikd, .ref aMiat, .long hgh, .long loo, .int (b2i dfl)])), (aMst, .inl (cI, 136400, .inl st))] U.heap ∧ hk_ D cB cI U)) (vp_Si (fun r => r = V0)) 0 0 (fun _ => False) := by
  refine Met.ofW (cc := b_MO_projectFault) (maxL := 3) (ret := (some .int)) (by decide) rfl ?_
  intro p e s m args below meth c s₁ B0 hml hv
  obtain ⟨rfl, hP, hk⟩ := hv
  have hK := hk.1
  have hN := hk.2.1
  have hx := B0.exec
  have hb := B0.bytes
  have hr := B0.returns
  have hT : ∀ w ∈ lw_g, w.before _ s = true := fun w h => atoms_spec (ws := mw_MO_projectFault) B0.pre w (List.mem_cons_of_mem _ h)
  have hown : s.vm.findClass R_MO = some m.cls := findClass_of_methodNamed B0.named
  have hlocks := B0.notSynchronized
  have hl := lv_entry ([.ref aM, .int p0]) (n := 3) (Nat.le_of_ble_eq_true rfl)
  rw [lg_entry_eq]
  generalize (lg_sl ([.ref aM, .int p0]) ++ List.replicate (3 - (lg_sl ([.ref aM, .int p0])).length) Slot.unset).toArray = ls at hl ⊢
  have hl : lv_has ls 3 [(0, .ref aM), (1, .int p0)] := hl
  have C0 : lc_C p s m meth c _ b_MO_projectFault 3 (some .int) R_MO lw_g := ⟨hx, hb, hml, hr, hown, hlocks, hT⟩
  refine lv_aload_n hx hb d_MO_projectFault_0 rfl (lv_at hl 0 rfl) ?_
  refine lv_iload_n hx hb d_MO_projectFault_1 rfl (lv_at hl 1 rfl) ?_
  rcases h_1 : tw_MO_countOf fu st p0 with _ | r_1
  · exact op_no hs (by rw [tw_MO_projectFault, h_1, ob1_no])
  refine rd_V (val := r_1) (As := [.int p0]) (rest := []) ⟨hx, hb, hml, hown, hT⟩ (c_MO_countOf l D cB cI aM aMst aMdcs aMtot aMfrm aMsiz aMffr aMfsz aMlkd aMlat aMkkd aMkat aModr aMgrp aMikd aMiat fu thr tpd frs frt top bgn mst ovr tgr lvs its hgh loo dfl st p0 r_1 h_1) (cwV 1 hT (gV_of k_1200 k_1202 kp_MO_countOf k_12 kc_MO_countOf) rfl rfl rfl hd_MO_countOf ⟨Nat.le_of_ble_eq_true rfl, Nat.le_of_ble_eq_true rfl⟩) hk hP (q0 := 0) rfl rfl rfl rfl hl.1 rfl (Nat.le_of_ble_eq_true rfl) d_MO_projectFault_2 ⟨Nat.zero_le _, Nat.zero_le _⟩ ?_
  refine lv_if_ne (tgt := 10) hx hb d_MO_projectFault_5 (by decide) (fun c_2 => ?_) (fun c_2 => ?_)
  · refine lv_aload_n hx hb d_MO_projectFault_10 rfl (lv_at hl 0 rfl) ?_
    refine lv_iload_n hx hb d_MO_projectFault_11 rfl (lv_at hl 1 rfl) ?_
    rcases h_3 : tw_MO_firstOf fu st p0 with _ | r_3
    · exact op_no hs (by rw [tw_MO_projectFault, h_1, ob1_mk, if_neg c_2, h_3, ob1_no])
    refine rd_V (val := r_3) (As := [.int p0]) (rest := []) ⟨hx, hb, hml, hown, hT⟩ (c_MO_firstOf l D cB cI aM aMst aMdcs aMtot aMfrm aMsiz aMffr aMfsz aMlkd aMlat aMkkd aMkat aModr aMgrp aMikd aMiat fu thr tpd frs frt top bgn mst ovr tgr lvs its hgh loo dfl st p0 r_3 h_3) (cwV 1 hT (gV_of k_1196 k_1198 kp_MO_firstOf k_12 kc_MO_firstOf) rfl rfl rfl hd_MO_firstOf ⟨Nat.le_of_ble_eq_true rfl, Nat.le_of_ble_eq_true rfl⟩) hk hP (q0 := 0) rfl rfl rfl rfl hl.1 rfl (Nat.le_of_ble_eq_true rfl) d_MO_projectFault_12 ⟨Nat.zero_le _, Nat.zero_le _⟩ ?_
    refine lv_istore_n (lv' := [(2, .int r_3), (0, .ref aM), (1, .int p0)]) hx hb d_MO_projectFault_15 rfl hl (by decide) rfl (fun ls hl => ?_)
    refine l_MO_projectFault_h16 C0 hs l D cB cI aM aMst aMdcs aMtot aMfrm aMsiz aMffr aMfsz aMlkd aMlat aMkkd aMkat aModr aMgrp aMikd aMiat fu thr tpd frs frt top bgn mst ovr tgr lvs its hgh loo dfl st hP hk   (K := (fun (x2_10 : Int32) =>
        some 0)) ?_ fu r_3  (by rw [tw_MO_projectFault, h_1, ob1_mk, if_neg c_2, h_3, ob1_mk]) ls (lv_sub hl [1, 0] rfl)
    intro x2_10 hV_10 ls hl
    refine lv_iconst (v := 0) hx hb d_MO_projectFault_49 (by decide) ?_
    exact W.iret (v := 0) hx hb hr (fun t ht hW => ⟨0, rfl, (op_eq hs (by rw [hV_10])), ht⟩) (fun _ h => by cases h) d_MO_projectFault_50
  · refine lv_iconst (v := 2) hx hb d_MO_projectFault_8 (by decide) ?_
    exact W.iret (v := 2) hx hb hr (fun t ht hW => ⟨2, rfl, (op_eq hs (by rw [tw_MO_projectFault, h_1, ob1_mk, if_pos c_2])), ht⟩) (fun _ h => by cases h) d_MO_projectFault_9
set_option maxHeartbeats 4000000 in
set_option maxRecDepth 100000 in
theorem l_MO_groupFault_r95 {p : Program} {e : Env} {s : State} {m : MethodId} {args : Array Value} {below : List Frame} {meth : Method} {c : Code} {V : Option (Int32)} {V0 : Int32} (C0 : lc_C p s m meth c args b_MO_groupFault 6 (some .int) R_MO lw_g) (hs : V = some V0) (l : Launch) (D : va_G) (cB cI : ClassId) (aM aMst aMdcs aMtot aMfrm aMsiz aMffr aMfsz aMlkd aMlat aMkkd aMkat aModr aMgrp aMikd aMiat : Nat) (fu : Nat) (thr : Int32) (tpd : Int32) (frs : Int32) (frt : Int32) (top : Int32) (bgn : Int32) (mst : Int32) (ovr : Bool) (tgr : Bool) (lvs : Int32) (its : Int32) (hgh : Int64) (loo : Int64) (dfl : Bool) (st : Nat → Int32) (hP : va_P D vwCl [(aM, .inr (11, [.int thr, .ref aMst, .int tpd, .ref aMdcs, .ref aMtot, .ref aMfrm, .ref aMsiz, .int frs, .int frt, .ref aMffr, .ref aMfsz, .int top, .int bgn, .int mst, .int (b2i ovr), .int (b2i tgr), .int lvs, .ref aMlkd, .ref aMlat, .ref aMkkd, .ref aMkat, .ref aModr, .ref aMgrp, .int its, .ref aMikd, .ref aMiat, .long hgh, .long loo, .int (b2i dfl)])), (aMst, .inl (cI, 136400, .inl st))] s.heap) (hk : hk_ D cB cI s) (x3 : Int32) (x4 : Int32) (x5 : Int32) {K : Option (Int32)} (hKx : V = K → ∀ ls : Array Slot, lv_has ls 6 [(0, .ref aM), (3, .int x3), (4, .int x4), (5, .int x5)] → W p l e ({ frames := 4, cells := 0, slots := 0, locals := 89 }) s m args below meth c s.heap [] 0 0 (MQ below (vp_Si (fun r => r = V0)) args s 0 0 (fun _ => False)) (F0 m 120 ls [])) (hV : V = tw_MO_groupFault_r95 fu K st x3 x4 x5) : ∀ ls : Array Slot, lv_has ls 6 [(0, .ref aM), (3, .int x3), (4, .int x4), (5, .int x5)] → W p l e ({ frames := 4, cells := 0, slots := 0, locals := 89 }) s m args below meth c s.heap [] 0 0 (MQ below (vp_Si (fun r => r = V0)) args s 0 0 (fun _ => False)) (F0 m 95 ls []) := by
  obtain ⟨hx, hb, hml, hr, hown, hlocks, hT⟩ := id C0
  have hK := hk.1
  have hN := hk.2.1
  intro ls hl
  refine lv_iload hx hb d_MO_groupFault_95 (lv_at hl 3 rfl) ?_
  refine lv_if_eq (tgt := 118) hx hb d_MO_groupFault_97 (by decide) (fun c_18 => ?_) (fun c_18 => ?_)
  · refine lv_iconst (v := 2) hx hb d_MO_groupFault_118 (by decide) ?_
    exact W.iret (v := 2) hx hb hr (fun t ht hW => ⟨2, rfl, (op_eq hs (by rw [hV, tw_MO_groupFault_r95, if_pos c_18])), ht⟩) (fun _ h => by cases h) d_MO_groupFault_119
  · refine lv_iload hx hb d_MO_groupFault_100 (lv_at hl 3 rfl) ?_
    refine lv_iconst (v := 1) hx hb d_MO_groupFault_102 (by decide) ?_
    refine lv_icmp_ne (tgt := 120) hx hb d_MO_groupFault_103 (by decide) (fun c_19 => ?_) (fun c_19 => ?_)
    · exact hKx  (by rw [hV, tw_MO_groupFault_r95, if_neg c_18, if_neg c_19]) ls (lv_sub hl [0, 1, 2, 3] rfl)
    · refine lv_aload_n hx hb d_MO_groupFault_106 rfl (lv_at hl 0 rfl) ?_
      refine va_get (D := D) (ci := 11) (v := .ref aMst) (C := R_MO) (T := T_MO) (N := 29) hx hb hT u_MO hown hK hP 0 rfl rfl 1 (by decide) (hT _ k_1044) (fun _ h9 => h9) rfl d_MO_groupFault_107 ?_
      refine lv_iload hx hb d_MO_groupFault_110 (lv_at hl 2 rfl) ?_
      by_cases c_20 : 0 ≤ x4 ∧ x4 < 136400
      rotate_left
      · exact op_no hs (by rw [hV, tw_MO_groupFault_r95, if_neg c_18, if_pos c_19, if_neg c_20])
      refine va_iald hx hb hK hP 1 1 rfl rfl (in_pp c_20.1 c_20.2 rfl) d_MO_groupFault_112 ?_
      refine lv_bipush (v := 10) hx hb d_MO_groupFault_113 (by decide) ?_
      refine lv_icmp_eq (tgt := 120) hx hb d_MO_groupFault_115 (by decide) (fun c_21 => ?_) (fun c_21 => ?_)
      · exact hKx  (by rw [hV, tw_MO_groupFault_r95, if_neg c_18, if_pos c_19, if_pos c_20, if_pos c_21]) ls (lv_sub hl [0, 1, 2, 3] rfl)
      · refine lv_iconst (v := 2) hx hb d_MO_groupFault_118 (by decide) ?_
        exact W.iret (v := 2) hx hb hr (fun t ht hW => ⟨2, rfl, (op_eq hs (by rw [hV, tw_MO_groupFault_r95, if_neg c_18, if_pos c_19, if_pos c_20, if_neg c_21])), ht⟩) (fun _ h => by cases h) d_MO_groupFault_119
set_option maxHeartbeats 4000000 in
set_option maxRecDepth 100000 in
theorem l_MO_groupFault_h39 {p : Program} {e : Env} {s : State} {m : MethodId} {args : Array Value} {below : List Frame} {meth : Method} {c : Code} {V : Option (Int32)} {V0 : Int32} (C0 : lc_C p s m meth c args b_MO_groupFault 6 (some .int) R_MO lw_g) (hs : V = some V0) (l : Launch) (D : va_G) (cB cI : ClassId) (aM aMst aMdcs aMtot aMfrm aMsiz aMffr aMfsz aMlkd aMlat aMkkd aMkat aModr aMgrp aMikd aMiat : Nat) (fu : Nat) (thr : Int32) (tpd : Int32) (frs : Int32) (frt : Int32) (top : Int32) (bgn : Int32) (mst : Int32) (ovr : Bool) (tgr : Bool) (lvs : Int32) (its : Int32) (hgh : Int64) (loo : Int64) (dfl : Bool) (st : Nat → Int32) (hP : va_P D vwCl [(aM, .inr (11, [.int thr, .ref aMst, .int tpd, .ref aMdcs, .ref aMtot, .ref aMfrm, .ref aMsiz, .int frs, .int frt, .ref aMffr, .ref aMfsz, .int top, .int bgn, .int mst, .int (b2i ovr), .int (b2i tgr), .int lvs, .ref aMlkd, .ref aMlat, .ref aMkkd, .ref aMkat, .ref aModr, .ref aMgrp, .int its, .ref aMikd, .ref aMiat, .long hgh, .long loo, .int (b2i dfl)])), (aMst, .inl (cI, 136400, .inl st))] s.heap) (hk : hk_ D cB cI s)  {K : Int32 → Option (Int32)} (hKx : ∀ (x3 : Int32), V = K x3 → ∀ ls : Array Slot, lv_has ls 6 [] → W p l e ({ frames := 4, cells := 0, slots := 0, locals := 89 }) s m args below meth c s.heap [] 0 0 (MQ below (vp_Si (fun r => r = V0)) args s 0 0 (fun _ => False)) (F0 m 146 ls [])) : ∀ (n : Nat) (x3 : Int32), V = tw_MO_groupFault_h39 fu K st n x3 → ∀ ls : Array Slot, lv_has ls 6 [(0, .ref aM), (3, .int x3)] → W p l e ({ frames := 4, cells := 0, slots := 0, locals := 89 }) s m args below meth c s.heap [] 0 0 (MQ below (vp_Si (fun r => r = V0)) args s 0 0 (fun _ => False)) (F0 m 39 ls []) := by
  obtain ⟨hx, hb, hml, hr, hown, hlocks, hT⟩ := id C0
  have hK := hk.1
  have hN := hk.2.1
  intro n
  induction n with
  | zero =>
    intro x3 hV
    exact op_no hs (hV.trans rfl)
  | succ n ih =>
    intro x3 hV ls hl
    refine lv_iload_n hx hb d_MO_groupFault_39 rfl (lv_at hl 1 rfl) ?_
    refine lv_if_le (tgt := 146) hx hb d_MO_groupFault_40 (by decide) (fun c_8 => ?_) (fun c_8 => ?_)
    · exact hKx x3 (by rw [hV, tw_MO_groupFault_h39, if_pos c_8]) ls (lv_sub hl [] rfl)
    · refine lv_aload_n hx hb d_MO_groupFault_43 rfl (lv_at hl 0 rfl) ?_
      refine lv_iload_n hx hb d_MO_groupFault_44 rfl (lv_at hl 1 rfl) ?_
      rcases h_9 : tw_MO_isPlainName fu st x3 with _ | r_9
      · exact op_no hs (by rw [hV, tw_MO_groupFault_h39, if_neg c_8, h_9, ob1_no])
      refine rd_V (val := b2i r_9) (As := [.int x3]) (rest := []) ⟨hx, hb, hml, hown, hT⟩ (c_MO_isPlainName l D cB cI aM aMst aMdcs aMtot aMfrm aMsiz aMffr aMfsz aMlkd aMlat aMkkd aMkat aModr aMgrp aMikd aMiat fu thr tpd frs frt top bgn mst ovr tgr lvs its hgh loo dfl st x3 r_9 h_9) (cwV 1 hT (gV_of k_1232 k_1234 kp_MO_isPlainName k_12 kc_MO_isPlainName) rfl rfl rfl hd_MO_isPlainName ⟨Nat.le_of_ble_eq_true rfl, Nat.le_of_ble_eq_true rfl⟩) hk hP (q0 := 0) rfl rfl rfl rfl hl.1 rfl (Nat.le_of_ble_eq_true rfl) d_MO_groupFault_45 ⟨Nat.zero_le _, Nat.zero_le _⟩ ?_
      refine lv_if_eq (tgt := 74) hx hb d_MO_groupFault_48 (by decide) (fun c_10 => ?_) (fun c_10 => ?_)
      · refine lv_iconst (v := 2) hx hb d_MO_groupFault_74 (by decide) ?_
        exact W.iret (v := 2) hx hb hr (fun t ht hW => ⟨2, rfl, (op_eq hs (by rw [hV, tw_MO_groupFault_h39, if_neg c_8, h_9, ob1_mk, if_pos c_10])), ht⟩) (fun _ h => by cases h) d_MO_groupFault_75
      · refine lv_aload_n hx hb d_MO_groupFault_51 rfl (lv_at hl 0 rfl) ?_
        refine va_get (D := D) (ci := 11) (v := .ref aMst) (C := R_MO) (T := T_MO) (N := 29) hx hb hT u_MO hown hK hP 0 rfl rfl 1 (by decide) (hT _ k_1044) (fun _ h9 => h9) rfl d_MO_groupFault_52 ?_
        refine lv_iload_n hx hb d_MO_groupFault_55 rfl (lv_at hl 1 rfl) ?_
        by_cases c_11 : 0 ≤ x3 ∧ x3 < 136400
        rotate_left
        · exact op_no hs (by rw [hV, tw_MO_groupFault_h39, if_neg c_8, h_9, ob1_mk, if_neg c_10, if_neg c_11])
        refine va_iald hx hb hK hP 1 1 rfl rfl (in_pp c_11.1 c_11.2 rfl) d_MO_groupFault_56 ?_
        refine lv_iconst (v := 3) hx hb d_MO_groupFault_57 (by decide) ?_
        refine lv_icmp_ne (tgt := 74) hx hb d_MO_groupFault_58 (by decide) (fun c_12 => ?_) (fun c_12 => ?_)
        · refine lv_iconst (v := 2) hx hb d_MO_groupFault_74 (by decide) ?_
          exact W.iret (v := 2) hx hb hr (fun t ht hW => ⟨2, rfl, (op_eq hs (by rw [hV, tw_MO_groupFault_h39, if_neg c_8, h_9, ob1_mk, if_neg c_10, if_pos c_11, if_neg c_12])), ht⟩) (fun _ h => by cases h) d_MO_groupFault_75
        · refine lv_aload_n hx hb d_MO_groupFault_61 rfl (lv_at hl 0 rfl) ?_
          refine lv_aload_n hx hb d_MO_groupFault_62 rfl (lv_at hl 0 rfl) ?_
          refine lv_iload_n hx hb d_MO_groupFault_63 rfl (lv_at hl 1 rfl) ?_
          rcases h_13 : tw_MO_valueOf fu st x3 with _ | r_13
          · exact op_no hs (by rw [hV, tw_MO_groupFault_h39, if_neg c_8, h_9, ob1_mk, if_neg c_10, if_pos c_11, if_pos c_12, h_13, ob1_no])
          refine rd_V (val := r_13) (As := [.int x3]) (rest := [.ref aM]) ⟨hx, hb, hml, hown, hT⟩ (c_MO_valueOf l D cB cI aM aMst aMdcs aMtot aMfrm aMsiz aMffr aMfsz aMlkd aMlat aMkkd aMkat aModr aMgrp aMikd aMiat fu thr tpd frs frt top bgn mst ovr tgr lvs its hgh loo dfl st x3 r_13 h_13) (cwV 1 hT (gV_of k_1182 k_1184 kp_MO_valueOf k_12 kc_MO_valueOf) rfl rfl rfl hd_MO_valueOf ⟨Nat.le_of_ble_eq_true rfl, Nat.le_of_ble_eq_true rfl⟩) hk hP (q0 := 0) rfl rfl rfl rfl hl.1 rfl (Nat.le_of_ble_eq_true rfl) d_MO_groupFault_64 ⟨Nat.zero_le _, Nat.zero_le _⟩ ?_
          rcases h_14 : tw_MO_countOf fu st r_13 with _ | r_14
          · exact op_no hs (by rw [hV, tw_MO_groupFault_h39, if_neg c_8, h_9, ob1_mk, if_neg c_10, if_pos c_11, if_pos c_12, h_13, ob1_mk, h_14, ob1_no])
          refine rd_V (val := r_14) (As := [.int r_13]) (rest := []) ⟨hx, hb, hml, hown, hT⟩ (c_MO_countOf l D cB cI aM aMst aMdcs aMtot aMfrm aMsiz aMffr aMfsz aMlkd aMlat aMkkd aMkat aModr aMgrp aMikd aMiat fu thr tpd frs frt top bgn mst ovr tgr lvs its hgh loo dfl st r_13 r_14 h_14) (cwV 1 hT (gV_of k_1200 k_1202 kp_MO_countOf k_12 kc_MO_countOf) rfl rfl rfl hd_MO_countOf ⟨Nat.le_of_ble_eq_true rfl, Nat.le_of_ble_eq_true rfl⟩) hk hP (q0 := 0) rfl rfl rfl rfl hl.1 rfl (Nat.le_of_ble_eq_true rfl) d_MO_groupFault_67 ⟨Nat.zero_le _, Nat.zero_le _⟩ ?_
          refine lv_iconst (v := 1) hx hb d_MO_groupFault_70 (by decide) ?_
          refine lv_icmp_eq (tgt := 76) hx hb d_MO_groupFault_71 (by decide) (fun c_15 => ?_) (fun c_15 => ?_)
          · refine lv_aload_n hx hb d_MO_groupFault_76 rfl (lv_at hl 0 rfl) ?_
            refine lv_aload_n hx hb d_MO_groupFault_77 rfl (lv_at hl 0 rfl) ?_
            refine lv_iload_n hx hb d_MO_groupFault_78 rfl (lv_at hl 1 rfl) ?_
            refine rd_V (val := r_13) (As := [.int x3]) (rest := [.ref aM]) ⟨hx, hb, hml, hown, hT⟩ (c_MO_valueOf l D cB cI aM aMst aMdcs aMtot aMfrm aMsiz aMffr aMfsz aMlkd aMlat aMkkd aMkat aModr aMgrp aMikd aMiat fu thr tpd frs frt top bgn mst ovr tgr lvs its hgh loo dfl st x3 r_13 h_13) (cwV 1 hT (gV_of k_1182 k_1184 kp_MO_valueOf k_12 kc_MO_valueOf) rfl rfl rfl hd_MO_valueOf ⟨Nat.le_of_ble_eq_true rfl, Nat.le_of_ble_eq_true rfl⟩) hk hP (q0 := 0) rfl rfl rfl rfl hl.1 rfl (Nat.le_of_ble_eq_true rfl) d_MO_groupFault_79 ⟨Nat.zero_le _, Nat.zero_le _⟩ ?_
            rcases h_16 : tw_MO_firstOf fu st r_13 with _ | r_16
            · exact op_no hs (by rw [hV, tw_MO_groupFault_h39, if_neg c_8, h_9, ob1_mk, if_neg c_10, if_pos c_11, if_pos c_12, h_13, ob1_mk, h_14, ob1_mk, if_pos c_15, h_16, ob1_no])
            refine rd_V (val := r_16) (As := [.int r_13]) (rest := []) ⟨hx, hb, hml, hown, hT⟩ (c_MO_firstOf l D cB cI aM aMst aMdcs aMtot aMfrm aMsiz aMffr aMfsz aMlkd aMlat aMkkd aMkat aModr aMgrp aMikd aMiat fu thr tpd frs frt top bgn mst ovr tgr lvs its hgh loo dfl st r_13 r_16 h_16) (cwV 1 hT (gV_of k_1196 k_1198 kp_MO_firstOf k_12 kc_MO_firstOf) rfl rfl rfl hd_MO_firstOf ⟨Nat.le_of_ble_eq_true rfl, Nat.le_of_ble_eq_true rfl⟩) hk hP (q0 := 0) rfl rfl rfl rfl hl.1 rfl (Nat.le_of_ble_eq_true rfl) d_MO_groupFault_82 ⟨Nat.zero_le _, Nat.zero_le _⟩ ?_
            refine lv_istore (lv' := [(4, .int r_16), (0, .ref aM), (3, .int x3)]) hx hb d_MO_groupFault_85 hl (by decide) rfl (fun ls hl => ?_)
            refine lv_aload_n hx hb d_MO_groupFault_87 rfl (lv_at hl 1 rfl) ?_
            refine lv_iload hx hb d_MO_groupFault_88 (lv_at hl 0 rfl) ?_
            rcases h_17 : tw_MO_gatherOf fu st r_16 with _ | r_17
            · exact op_no hs (by rw [hV, tw_MO_groupFault_h39, if_neg c_8, h_9, ob1_mk, if_neg c_10, if_pos c_11, if_pos c_12, h_13, ob1_mk, h_14, ob1_mk, if_pos c_15, h_16, ob1_mk, h_17, ob1_no])
            refine rd_V (val := r_17) (As := [.int r_16]) (rest := []) ⟨hx, hb, hml, hown, hT⟩ (c_MO_gatherOf l D cB cI aM aMst aMdcs aMtot aMfrm aMsiz aMffr aMfsz aMlkd aMlat aMkkd aMkat aModr aMgrp aMikd aMiat fu thr tpd frs frt top bgn mst ovr tgr lvs its hgh loo dfl st r_16 r_17 h_17) (cwV 1 hT (gV_of k_1257 k_1259 kp_MO_gatherOf k_12 kc_MO_gatherOf) rfl rfl rfl hd_MO_gatherOf ⟨Nat.le_of_ble_eq_true rfl, Nat.le_of_ble_eq_true rfl⟩) hk hP (q0 := 0) rfl rfl rfl rfl hl.1 rfl (Nat.le_of_ble_eq_true rfl) d_MO_groupFault_90 ⟨Nat.zero_le _, Nat.zero_le _⟩ ?_
            refine lv_istore (lv' := [(5, .int r_17), (4, .int r_16), (0, .ref aM), (3, .int x3)]) hx hb d_MO_groupFault_93 hl (by decide) rfl (fun ls hl => ?_)
            refine l_MO_groupFault_r95 C0 hs l D cB cI aM aMst aMdcs aMtot aMfrm aMsiz aMffr aMfsz aMlkd aMlat aMkkd aMkat aModr aMgrp aMikd aMiat fu thr tpd frs frt top bgn mst ovr tgr lvs its hgh loo dfl st hP hk x3 r_16 r_17 (K := (
                if r_17 ≤ 1 then
                  ob1 (tw_MO_nextOf fu st x3) (fun r_24 =>
                    tw_MO_groupFault_h39 fu K st n r_24)
                else
                  ob1 (tw_MO_expressionFault fu st r_16) (fun r_25 =>
                    if r_25 ≤ 0 then
                      ob1 (tw_MO_nextOf fu st x3) (fun r_27 =>
                        tw_MO_groupFault_h39 fu K st n r_27)
                    else
                      some 3))) ?_ (by rw [hV, tw_MO_groupFault_h39, if_neg c_8, h_9, ob1_mk, if_neg c_10, if_pos c_11, if_pos c_12, h_13, ob1_mk, h_14, ob1_mk, if_pos c_15, h_16, ob1_mk, h_17, ob1_mk]) ls (lv_sub hl [2, 3, 1, 0] rfl)
            intro hV_22 ls hl
            refine lv_iload hx hb d_MO_groupFault_120 (lv_at hl 3 rfl) ?_
            refine lv_iconst (v := 1) hx hb d_MO_groupFault_122 (by decide) ?_
            refine lv_icmp_le (tgt := 137) hx hb d_MO_groupFault_123 (by decide) (fun c_23 => ?_) (fun c_23 => ?_)
            · refine lv_aload_n hx hb d_MO_groupFault_137 rfl (lv_at hl 0 rfl) ?_
              refine lv_iload_n hx hb d_MO_groupFault_138 rfl (lv_at hl 1 rfl) ?_
              rcases h_24 : tw_MO_nextOf fu st x3 with _ | r_24
              · exact op_no hs (by rw [hV_22, if_pos c_23, h_24, ob1_no])
              refine rd_V (val := r_24) (As := [.int x3]) (rest := []) ⟨hx, hb, hml, hown, hT⟩ (c_MO_nextOf l D cB cI aM aMst aMdcs aMtot aMfrm aMsiz aMffr aMfsz aMlkd aMlat aMkkd aMkat aModr aMgrp aMikd aMiat fu thr tpd frs frt top bgn mst ovr tgr lvs its hgh loo dfl st x3 r_24 h_24) (cwV 1 hT (gV_of k_1204 k_1206 kp_MO_nextOf k_12 kc_MO_nextOf) rfl rfl rfl hd_MO_nextOf ⟨Nat.le_of_ble_eq_true rfl, Nat.le_of_ble_eq_true rfl⟩) hk hP (q0 := 0) rfl rfl rfl rfl hl.1 rfl (Nat.le_of_ble_eq_true rfl) d_MO_groupFault_139 ⟨Nat.zero_le _, Nat.zero_le _⟩ ?_
              refine lv_istore_n (lv' := [(3, .int r_24), (0, .ref aM), (4, .int r_16), (5, .int r_17)]) hx hb d_MO_groupFault_142 rfl hl (by decide) rfl (fun ls hl => ?_)
              refine lv_goto (tgt := 39) hx hb d_MO_groupFault_143 (by decide) ?_
              exact ih r_24 (by rw [hV_22, if_pos c_23, h_24, ob1_mk]) ls (lv_sub hl [1, 0] rfl)
            · refine lv_aload_n hx hb d_MO_groupFault_126 rfl (lv_at hl 0 rfl) ?_
              refine lv_iload hx hb d_MO_groupFault_127 (lv_at hl 2 rfl) ?_
              rcases h_25 : tw_MO_expressionFault fu st r_16 with _ | r_25
              · exact op_no hs (by rw [hV_22, if_neg c_23, h_25, ob1_no])
              refine rd_V (val := r_25) (As := [.int r_16]) (rest := []) ⟨hx, hb, hml, hown, hT⟩ (c_MO_expressionFault l D cB cI aM aMst aMdcs aMtot aMfrm aMsiz aMffr aMfsz aMlkd aMlat aMkkd aMkat aModr aMgrp aMikd aMiat fu thr tpd frs frt top bgn mst ovr tgr lvs its hgh loo dfl st r_16 r_25 h_25) (cwV 1 hT (gV_of k_1240 k_1242 kp_MO_expressionFault k_12 kc_MO_expressionFault) rfl rfl rfl hd_MO_expressionFault ⟨Nat.le_of_ble_eq_true rfl, Nat.le_of_ble_eq_true rfl⟩) hk hP (q0 := 0) rfl rfl rfl rfl hl.1 rfl (Nat.le_of_ble_eq_true rfl) d_MO_groupFault_129 ⟨Nat.zero_le _, Nat.zero_le _⟩ ?_
              refine lv_if_le (tgt := 137) hx hb d_MO_groupFault_132 (by decide) (fun c_26 => ?_) (fun c_26 => ?_)
              · refine lv_aload_n hx hb d_MO_groupFault_137 rfl (lv_at hl 0 rfl) ?_
                refine lv_iload_n hx hb d_MO_groupFault_138 rfl (lv_at hl 1 rfl) ?_
                rcases h_27 : tw_MO_nextOf fu st x3 with _ | r_27
                · exact op_no hs (by rw [hV_22, if_neg c_23, h_25, ob1_mk, if_pos c_26, h_27, ob1_no])
                refine rd_V (val := r_27) (As := [.int x3]) (rest := []) ⟨hx, hb, hml, hown, hT⟩ (c_MO_nextOf l D cB cI aM aMst aMdcs aMtot aMfrm aMsiz aMffr aMfsz aMlkd aMlat aMkkd aMkat aModr aMgrp aMikd aMiat fu thr tpd frs frt top bgn mst ovr tgr lvs its hgh loo dfl st x3 r_27 h_27) (cwV 1 hT (gV_of k_1204 k_1206 kp_MO_nextOf k_12 kc_MO_nextOf) rfl rfl rfl hd_MO_nextOf ⟨Nat.le_of_ble_eq_true rfl, Nat.le_of_ble_eq_true rfl⟩) hk hP (q0 := 0) rfl rfl rfl rfl hl.1 rfl (Nat.le_of_ble_eq_true rfl) d_MO_groupFault_139 ⟨Nat.zero_le _, Nat.zero_le _⟩ ?_
                refine lv_istore_n (lv' := [(3, .int r_27), (0, .ref aM), (4, .int r_16), (5, .int r_17)]) hx hb d_MO_groupFault_142 rfl hl (by decide) rfl (fun ls hl => ?_)
                refine lv_goto (tgt := 39) hx hb d_MO_groupFault_143 (by decide) ?_
                exact ih r_27 (by rw [hV_22, if_neg c_23, h_25, ob1_mk, if_pos c_26, h_27, ob1_mk]) ls (lv_sub hl [1, 0] rfl)
              · refine lv_iconst (v := 3) hx hb d_MO_groupFault_135 (by decide) ?_
                exact W.iret (v := 3) hx hb hr (fun t ht hW => ⟨3, rfl, (op_eq hs (by rw [hV_22, if_neg c_23, h_25, ob1_mk, if_neg c_26])), ht⟩) (fun _ h => by cases h) d_MO_groupFault_136
          · refine lv_iconst (v := 2) hx hb d_MO_groupFault_74 (by decide) ?_
            exact W.iret (v := 2) hx hb hr (fun t ht hW => ⟨2, rfl, (op_eq hs (by rw [hV, tw_MO_groupFault_h39, if_neg c_8, h_9, ob1_mk, if_neg c_10, if_pos c_11, if_pos c_12, h_13, ob1_mk, h_14, ob1_mk, if_neg c_15])), ht⟩) (fun _ h => by cases h) d_MO_groupFault_75
set_option maxHeartbeats 4000000 in
set_option maxRecDepth 100000 in
theorem c_MO_groupFault (l : Launch) (D : va_G) (cB cI : ClassId) (aM aMst aMdcs aMtot aMfrm aMsiz aMffr aMfsz aMlkd aMlat aMkkd aMkat aModr aMgrp aMikd aMiat : Nat) (fu : Nat) (thr : Int32) (tpd : Int32) (frs : Int32) (frt : Int32) (top : Int32) (bgn : Int32) (mst : Int32) (ovr : Bool) (tgr : Bool) (lvs : Int32) (its : Int32) (hgh : Int64) (loo : Int64) (dfl : Bool) (st : Nat → Int32) (p0 : Int32) (V0 : Int32) (hs : tw_MO_groupFault fu st p0 = some V0) : Met l y_MO_groupFault mw_MO_groupFault { frames := 4, cells := 0, slots := 0, locals := 89 } (va_Pc [.ref aM, .int p0] (fun U => va_P D vwCl [(aM, .inr (11, [.int thr, .ref aMst, .int tpd, .ref aMdcs, .ref aMtot, .ref aMfrm, .ref aMsiz, .int frs, .int frt, .ref aMffr, .ref aMfsz, .int top, .int bgn, .int mst, .int (b2i ovr), .int (b2i tgr), .int lvs, .ref aMlkd, .ref aMlat, .ref aMkkd, .ref aMkat, .ref aModr, .ref aMgrp, .int its, .ref aMikd, .ref aMiat, .long hgh, .long loo, .int (b2i dfl)])), (aMst, .inl (cI, 136400, .inl st))] U.heap ∧ hk_ D cB cI U)) (vp_Si (fun r => r = V0)) 0 0 (fun _ => False) := by
  refine Met.ofW (cc := b_MO_groupFault) (maxL := 6) (ret := (some .int)) (by decide) rfl ?_
  intro p e s m args below meth c s₁ B0 hml hv
  obtain ⟨rfl, hP, hk⟩ := hv
  have hK := hk.1
  have hN := hk.2.1
  have hx := B0.exec
  have hb := B0.bytes
  have hr := B0.returns
  have hT : ∀ w ∈ lw_g, w.before _ s = true := fun w h => atoms_spec (ws := mw_MO_groupFault) B0.pre w (List.mem_cons_of_mem _ h)
  have hown : s.vm.findClass R_MO = some m.cls := findClass_of_methodNamed B0.named
  have hlocks := B0.notSynchronized
  have hl := lv_entry ([.ref aM, .int p0]) (n := 6) (Nat.le_of_ble_eq_true rfl)
  rw [lg_entry_eq]
  generalize (lg_sl ([.ref aM, .int p0]) ++ List.replicate (6 - (lg_sl ([.ref aM, .int p0])).length) Slot.unset).toArray = ls at hl ⊢
  have hl : lv_has ls 6 [(0, .ref aM), (1, .int p0)] := hl
  have C0 : lc_C p s m meth c _ b_MO_groupFault 6 (some .int) R_MO lw_g := ⟨hx, hb, hml, hr, hown, hlocks, hT⟩
  refine lv_aload_n hx hb d_MO_groupFault_0 rfl (lv_at hl 0 rfl) ?_
  refine lv_iload_n hx hb d_MO_groupFault_1 rfl (lv_at hl 1 rfl) ?_
  rcases h_1 : tw_MO_firstOf fu st p0 with _ | r_1
  · exact op_no hs (by rw [tw_MO_groupFault, h_1, ob1_no])
  refine rd_V (val := r_1) (As := [.int p0]) (rest := []) ⟨hx, hb, hml, hown, hT⟩ (c_MO_firstOf l D cB cI aM aMst aMdcs aMtot aMfrm aMsiz aMffr aMfsz aMlkd aMlat aMkkd aMkat aModr aMgrp aMikd aMiat fu thr tpd frs frt top bgn mst ovr tgr lvs its hgh loo dfl st p0 r_1 h_1) (cwV 1 hT (gV_of k_1196 k_1198 kp_MO_firstOf k_12 kc_MO_firstOf) rfl rfl rfl hd_MO_firstOf ⟨Nat.le_of_ble_eq_true rfl, Nat.le_of_ble_eq_true rfl⟩) hk hP (q0 := 0) rfl rfl rfl rfl hl.1 rfl (Nat.le_of_ble_eq_true rfl) d_MO_groupFault_2 ⟨Nat.zero_le _, Nat.zero_le _⟩ ?_
  refine lv_istore_n (lv' := [(2, .int r_1), (0, .ref aM), (1, .int p0)]) hx hb d_MO_groupFault_5 rfl hl (by decide) rfl (fun ls hl => ?_)
  refine lv_iload_n hx hb d_MO_groupFault_6 rfl (lv_at hl 0 rfl) ?_
  refine lv_if_eq (tgt := 21) hx hb d_MO_groupFault_7 (by decide) (fun c_2 => ?_) (fun c_2 => ?_)
  · refine lv_iconst (v := 2) hx hb d_MO_groupFault_21 (by decide) ?_
    exact W.iret (v := 2) hx hb hr (fun t ht hW => ⟨2, rfl, (op_eq hs (by rw [tw_MO_groupFault, h_1, ob1_mk, if_pos c_2])), ht⟩) (fun _ h => by cases h) d_MO_groupFault_22
  · refine lv_aload_n hx hb d_MO_groupFault_10 rfl (lv_at hl 1 rfl) ?_
    refine lv_iload_n hx hb d_MO_groupFault_11 rfl (lv_at hl 0 rfl) ?_
    refine lv_ldc2 (v := 31074) hx hb hown (hT _ k_1256) d_MO_groupFault_12 ?_
    rcases h_3 : tw_MO_isNamed fu st r_1 31074 with _ | r_3
    · exact op_no hs (by rw [tw_MO_groupFault, h_1, ob1_mk, if_neg c_2, h_3, ob1_no])
    refine rd_V (val := b2i r_3) (As := [.int r_1, .long 31074]) (rest := []) ⟨hx, hb, hml, hown, hT⟩ (c_MO_isNamed l D cB cI aM aMst aMdcs aMtot aMfrm aMsiz aMffr aMfsz aMlkd aMlat aMkkd aMkat aModr aMgrp aMikd aMiat fu thr tpd frs frt top bgn mst ovr tgr lvs its hgh loo dfl st r_1 31074 r_3 h_3) (cwV 2 hT (gV_of k_1217 k_1219 kp_MO_isNamed k_12 kc_MO_isNamed) rfl rfl rfl hd_MO_isNamed ⟨Nat.le_of_ble_eq_true rfl, Nat.le_of_ble_eq_true rfl⟩) hk hP (q0 := 0) rfl rfl rfl rfl hl.1 rfl (Nat.le_of_ble_eq_true rfl) d_MO_groupFault_15 ⟨Nat.zero_le _, Nat.zero_le _⟩ ?_
    refine lv_if_ne (tgt := 23) hx hb d_MO_groupFault_18 (by decide) (fun c_4 => ?_) (fun c_4 => ?_)
    · refine lv_aload_n hx hb d_MO_groupFault_23 rfl (lv_at hl 1 rfl) ?_
      refine lv_iload_n hx hb d_MO_groupFault_24 rfl (lv_at hl 0 rfl) ?_
      rcases h_5 : tw_MO_expressionFault fu st r_1 with _ | r_5
      · exact op_no hs (by rw [tw_MO_groupFault, h_1, ob1_mk, if_neg c_2, h_3, ob1_mk, if_neg c_4, h_5, ob1_no])
      refine rd_V (val := r_5) (As := [.int r_1]) (rest := []) ⟨hx, hb, hml, hown, hT⟩ (c_MO_expressionFault l D cB cI aM aMst aMdcs aMtot aMfrm aMsiz aMffr aMfsz aMlkd aMlat aMkkd aMkat aModr aMgrp aMikd aMiat fu thr tpd frs frt top bgn mst ovr tgr lvs its hgh loo dfl st r_1 r_5 h_5) (cwV 1 hT (gV_of k_1240 k_1242 kp_MO_expressionFault k_12 kc_MO_expressionFault) rfl rfl rfl hd_MO_expressionFault ⟨Nat.le_of_ble_eq_true rfl, Nat.le_of_ble_eq_true rfl⟩) hk hP (q0 := 0) rfl rfl rfl rfl hl.1 rfl (Nat.le_of_ble_eq_true rfl) d_MO_groupFault_25 ⟨Nat.zero_le _, Nat.zero_le _⟩ ?_
      refine lv_if_le (tgt := 33) hx hb d_MO_groupFault_28 (by decide) (fun c_6 => ?_) (fun c_6 => ?_)
      · refine lv_aload_n hx hb d_MO_groupFault_33 rfl (lv_at hl 1 rfl) ?_
        refine lv_iload_n hx hb d_MO_groupFault_34 rfl (lv_at hl 0 rfl) ?_
        rcases h_7 : tw_MO_nextOf fu st r_1 with _ | r_7
        · exact op_no hs (by rw [tw_MO_groupFault, h_1, ob1_mk, if_neg c_2, h_3, ob1_mk, if_neg c_4, h_5, ob1_mk, if_pos c_6, h_7, ob1_no])
        refine rd_V (val := r_7) (As := [.int r_1]) (rest := []) ⟨hx, hb, hml, hown, hT⟩ (c_MO_nextOf l D cB cI aM aMst aMdcs aMtot aMfrm aMsiz aMffr aMfsz aMlkd aMlat aMkkd aMkat aModr aMgrp aMikd aMiat fu thr tpd frs frt top bgn mst ovr tgr lvs its hgh loo dfl st r_1 r_7 h_7) (cwV 1 hT (gV_of k_1204 k_1206 kp_MO_nextOf k_12 kc_MO_nextOf) rfl rfl rfl hd_MO_nextOf ⟨Nat.le_of_ble_eq_true rfl, Nat.le_of_ble_eq_true rfl⟩) hk hP (q0 := 0) rfl rfl rfl rfl hl.1 rfl (Nat.le_of_ble_eq_true rfl) d_MO_groupFault_35 ⟨Nat.zero_le _, Nat.zero_le _⟩ ?_
        refine lv_istore_n (lv' := [(3, .int r_7), (2, .int r_1), (0, .ref aM), (1, .int p0)]) hx hb d_MO_groupFault_38 rfl hl (by decide) rfl (fun ls hl => ?_)
        refine l_MO_groupFault_h39 C0 hs l D cB cI aM aMst aMdcs aMtot aMfrm aMsiz aMffr aMfsz aMlkd aMlat aMkkd aMkat aModr aMgrp aMikd aMiat fu thr tpd frs frt top bgn mst ovr tgr lvs its hgh loo dfl st hP hk   (K := (fun (x3_28 : Int32) =>
            some 0)) ?_ fu r_7  (by rw [tw_MO_groupFault, h_1, ob1_mk, if_neg c_2, h_3, ob1_mk, if_neg c_4, h_5, ob1_mk, if_pos c_6, h_7, ob1_mk]) ls (lv_sub hl [2, 0] rfl)
        intro x3_28 hV_28 ls hl
        refine lv_iconst (v := 0) hx hb d_MO_groupFault_146 (by decide) ?_
        exact W.iret (v := 0) hx hb hr (fun t ht hW => ⟨0, rfl, (op_eq hs (by rw [hV_28])), ht⟩) (fun _ h => by cases h) d_MO_groupFault_147
      · refine lv_iconst (v := 3) hx hb d_MO_groupFault_31 (by decide) ?_
        exact W.iret (v := 3) hx hb hr (fun t ht hW => ⟨3, rfl, (op_eq hs (by rw [tw_MO_groupFault, h_1, ob1_mk, if_neg c_2, h_3, ob1_mk, if_neg c_4, h_5, ob1_mk, if_neg c_6])), ht⟩) (fun _ h => by cases h) d_MO_groupFault_32
    · refine lv_iconst (v := 2) hx hb d_MO_groupFault_21 (by decide) ?_
      exact W.iret (v := 2) hx hb hr (fun t ht hW => ⟨2, rfl, (op_eq hs (by rw [tw_MO_groupFault, h_1, ob1_mk, if_neg c_2, h_3, ob1_mk, if_pos c_4])), ht⟩) (fun _ h => by cases h) d_MO_groupFault_22
set_option maxHeartbeats 4000000 in
set_option maxRecDepth 100000 in
theorem l_MO_sortFault_r28 {p : Program} {e : Env} {s : State} {m : MethodId} {args : Array Value} {below : List Frame} {meth : Method} {c : Code} {V : Option (Int32)} {V0 : Int32} (C0 : lc_C p s m meth c args b_MO_sortFault 5 (some .int) R_MO lw_g) (hs : V = some V0) (l : Launch) (D : va_G) (cB cI : ClassId) (aM aMst aMdcs aMtot aMfrm aMsiz aMffr aMfsz aMlkd aMlat aMkkd aMkat aModr aMgrp aMikd aMiat : Nat) (fu : Nat) (thr : Int32) (tpd : Int32) (frs : Int32) (frt : Int32) (top : Int32) (bgn : Int32) (mst : Int32) (ovr : Bool) (tgr : Bool) (lvs : Int32) (its : Int32) (hgh : Int64) (loo : Int64) (dfl : Bool) (st : Nat → Int32) (hP : va_P D vwCl [(aM, .inr (11, [.int thr, .ref aMst, .int tpd, .ref aMdcs, .ref aMtot, .ref aMfrm, .ref aMsiz, .int frs, .int frt, .ref aMffr, .ref aMfsz, .int top, .int bgn, .int mst, .int (b2i ovr), .int (b2i tgr), .int lvs, .ref aMlkd, .ref aMlat, .ref aMkkd, .ref aMkat, .ref aModr, .ref aMgrp, .int its, .ref aMikd, .ref aMiat, .long hgh, .long loo, .int (b2i dfl)])), (aMst, .inl (cI, 136400, .inl st))] s.heap) (hk : hk_ D cB cI s) (x3 : Int32) {K : Bool → Option (Int32)} (hKx : ∀ (y4 : Bool), V = K y4 → ∀ ls : Array Slot, lv_has ls 5 [(0, .ref aM), (3, .int x3), (4, .int (b2i y4))] → W p l e ({ frames := 4, cells := 0, slots := 0, locals := 89 }) s m args below meth c s.heap [] 0 0 (MQ below (vp_Si (fun r => r = V0)) args s 0 0 (fun _ => False)) (F0 m 99 ls [])) (hV : V = tw_MO_sortFault_r28 fu K st x3) : ∀ ls : Array Slot, lv_has ls 5 [(0, .ref aM), (3, .int x3)] → W p l e ({ frames := 4, cells := 0, slots := 0, locals := 89 }) s m args below meth c s.heap [] 0 0 (MQ below (vp_Si (fun r => r = V0)) args s 0 0 (fun _ => False)) (F0 m 28 ls []) := by
  obtain ⟨hx, hb, hml, hr, hown, hlocks, hT⟩ := id C0
  have hK := hk.1
  have hN := hk.2.1
  intro ls hl
  refine lv_aload_n hx hb d_MO_sortFault_28 rfl (lv_at hl 0 rfl) ?_
  refine va_get (D := D) (ci := 11) (v := .ref aMst) (C := R_MO) (T := T_MO) (N := 29) hx hb hT u_MO hown hK hP 0 rfl rfl 1 (by decide) (hT _ k_1044) (fun _ h9 => h9) rfl d_MO_sortFault_29 ?_
  refine lv_iload_n hx hb d_MO_sortFault_32 rfl (lv_at hl 1 rfl) ?_
  by_cases c_6 : 0 ≤ x3 ∧ x3 < 136400
  rotate_left
  · exact op_no hs (by rw [hV, tw_MO_sortFault_r28, if_neg c_6])
  refine va_iald hx hb hK hP 1 1 rfl rfl (in_pp c_6.1 c_6.2 rfl) d_MO_sortFault_33 ?_
  refine lv_bipush (v := 16) hx hb d_MO_sortFault_34 (by decide) ?_
  refine lv_icmp_eq (tgt := 50) hx hb d_MO_sortFault_36 (by decide) (fun c_7 => ?_) (fun c_7 => ?_)
  · refine lv_aload_n hx hb d_MO_sortFault_50 rfl (lv_at hl 0 rfl) ?_
    refine lv_aload_n hx hb d_MO_sortFault_51 rfl (lv_at hl 0 rfl) ?_
    refine va_get (D := D) (ci := 11) (v := .ref aMst) (C := R_MO) (T := T_MO) (N := 29) hx hb hT u_MO hown hK hP 0 rfl rfl 1 (by decide) (hT _ k_1044) (fun _ h9 => h9) rfl d_MO_sortFault_52 ?_
    refine lv_iload_n hx hb d_MO_sortFault_55 rfl (lv_at hl 1 rfl) ?_
    refine va_iald hx hb hK hP 1 1 rfl rfl (in_pp c_6.1 c_6.2 rfl) d_MO_sortFault_56 ?_
    refine lv_aload_n hx hb d_MO_sortFault_57 rfl (lv_at hl 0 rfl) ?_
    refine lv_iload_n hx hb d_MO_sortFault_58 rfl (lv_at hl 1 rfl) ?_
    rcases h_8 : tw_MO_valueOf fu st x3 with _ | r_8
    · exact op_no hs (by rw [hV, tw_MO_sortFault_r28, if_pos c_6, if_pos c_7, h_8, ob1_no])
    refine rd_V (val := r_8) (As := [.int x3]) (rest := [.int (st x3.toNatClampNeg), .ref aM]) ⟨hx, hb, hml, hown, hT⟩ (c_MO_valueOf l D cB cI aM aMst aMdcs aMtot aMfrm aMsiz aMffr aMfsz aMlkd aMlat aMkkd aMkat aModr aMgrp aMikd aMiat fu thr tpd frs frt top bgn mst ovr tgr lvs its hgh loo dfl st x3 r_8 h_8) (cwV 1 hT (gV_of k_1182 k_1184 kp_MO_valueOf k_12 kc_MO_valueOf) rfl rfl rfl hd_MO_valueOf ⟨Nat.le_of_ble_eq_true rfl, Nat.le_of_ble_eq_true rfl⟩) hk hP (q0 := 0) rfl rfl rfl rfl hl.1 rfl (Nat.le_of_ble_eq_true rfl) d_MO_sortFault_59 ⟨Nat.zero_le _, Nat.zero_le _⟩ ?_
    rcases h_9 : tw_MO_number fu st (st x3.toNatClampNeg) r_8 with _ | r_9
    · exact op_no hs (by rw [hV, tw_MO_sortFault_r28, if_pos c_6, if_pos c_7, h_8, ob1_mk, h_9, ob1_no])
    refine rd_Vl (val := r_9) (As := [.int (st x3.toNatClampNeg), .int r_8]) (rest := []) ⟨hx, hb, hml, hown, hT⟩ (c_MO_number l D cB cI aM aMst aMdcs aMtot aMfrm aMsiz aMffr aMfsz aMlkd aMlat aMkkd aMkat aModr aMgrp aMikd aMiat fu thr tpd frs frt top bgn mst ovr tgr lvs its hgh loo dfl st (st x3.toNatClampNeg) r_8 r_9 h_9) (cwV 2 hT (gV_of k_1277 k_1279 kp_MO_number k_12 kc_MO_number) rfl rfl rfl hd_MO_number ⟨Nat.le_of_ble_eq_true rfl, Nat.le_of_ble_eq_true rfl⟩) hk hP (q0 := 0) rfl rfl rfl rfl hl.1 rfl (Nat.le_of_ble_eq_true rfl) d_MO_sortFault_62 ⟨Nat.zero_le _, Nat.zero_le _⟩ ?_
    refine lv_lconst (v := 1) hx hb d_MO_sortFault_65 (by decide) ?_
    refine W.lcmp hx hb d_MO_sortFault_66 ?_
    refine lv_if_eq (tgt := 92) hx hb d_MO_sortFault_67 (by decide) (fun c_10 => ?_) (fun c_10 => ?_)
    · refine lv_iconst (v := 1) hx hb d_MO_sortFault_92 (by decide) ?_
      refine lv_goto (tgt := 97) hx hb d_MO_sortFault_93 (by decide) ?_
      refine lv_istore (lv' := [(4, .int 1), (0, .ref aM), (3, .int x3)]) hx hb d_MO_sortFault_97 hl (by decide) rfl (fun ls hl => ?_)
      exact hKx true (by rw [hV, tw_MO_sortFault_r28, if_pos c_6, if_pos c_7, h_8, ob1_mk, h_9, ob1_mk, if_pos c_10]) ls (lv_sub hl [1, 2, 0] rfl)
    · refine lv_aload_n hx hb d_MO_sortFault_70 rfl (lv_at hl 0 rfl) ?_
      refine lv_aload_n hx hb d_MO_sortFault_71 rfl (lv_at hl 0 rfl) ?_
      refine va_get (D := D) (ci := 11) (v := .ref aMst) (C := R_MO) (T := T_MO) (N := 29) hx hb hT u_MO hown hK hP 0 rfl rfl 1 (by decide) (hT _ k_1044) (fun _ h9 => h9) rfl d_MO_sortFault_72 ?_
      refine lv_iload_n hx hb d_MO_sortFault_75 rfl (lv_at hl 1 rfl) ?_
      refine va_iald hx hb hK hP 1 1 rfl rfl (in_pp c_6.1 c_6.2 rfl) d_MO_sortFault_76 ?_
      refine lv_aload_n hx hb d_MO_sortFault_77 rfl (lv_at hl 0 rfl) ?_
      refine lv_iload_n hx hb d_MO_sortFault_78 rfl (lv_at hl 1 rfl) ?_
      refine rd_V (val := r_8) (As := [.int x3]) (rest := [.int (st x3.toNatClampNeg), .ref aM]) ⟨hx, hb, hml, hown, hT⟩ (c_MO_valueOf l D cB cI aM aMst aMdcs aMtot aMfrm aMsiz aMffr aMfsz aMlkd aMlat aMkkd aMkat aModr aMgrp aMikd aMiat fu thr tpd frs frt top bgn mst ovr tgr lvs its hgh loo dfl st x3 r_8 h_8) (cwV 1 hT (gV_of k_1182 k_1184 kp_MO_valueOf k_12 kc_MO_valueOf) rfl rfl rfl hd_MO_valueOf ⟨Nat.le_of_ble_eq_true rfl, Nat.le_of_ble_eq_true rfl⟩) hk hP (q0 := 0) rfl rfl rfl rfl hl.1 rfl (Nat.le_of_ble_eq_true rfl) d_MO_sortFault_79 ⟨Nat.zero_le _, Nat.zero_le _⟩ ?_
      refine rd_Vl (val := r_9) (As := [.int (st x3.toNatClampNeg), .int r_8]) (rest := []) ⟨hx, hb, hml, hown, hT⟩ (c_MO_number l D cB cI aM aMst aMdcs aMtot aMfrm aMsiz aMffr aMfsz aMlkd aMlat aMkkd aMkat aModr aMgrp aMikd aMiat fu thr tpd frs frt top bgn mst ovr tgr lvs its hgh loo dfl st (st x3.toNatClampNeg) r_8 r_9 h_9) (cwV 2 hT (gV_of k_1277 k_1279 kp_MO_number k_12 kc_MO_number) rfl rfl rfl hd_MO_number ⟨Nat.le_of_ble_eq_true rfl, Nat.le_of_ble_eq_true rfl⟩) hk hP (q0 := 0) rfl rfl rfl rfl hl.1 rfl (Nat.le_of_ble_eq_true rfl) d_MO_sortFault_82 ⟨Nat.zero_le _, Nat.zero_le _⟩ ?_
      refine lv_ldc2 (v := (-1)) hx hb hown (hT _ k_1281) d_MO_sortFault_85 ?_
      refine W.lcmp hx hb d_MO_sortFault_88 ?_
      refine lv_if_ne (tgt := 96) hx hb d_MO_sortFault_89 (by decide) (fun c_11 => ?_) (fun c_11 => ?_)
      · refine lv_iconst (v := 0) hx hb d_MO_sortFault_96 (by decide) ?_
        refine lv_istore (lv' := [(4, .int 0), (0, .ref aM), (3, .int x3)]) hx hb d_MO_sortFault_97 hl (by decide) rfl (fun ls hl => ?_)
        exact hKx false (by rw [hV, tw_MO_sortFault_r28, if_pos c_6, if_pos c_7, h_8, ob1_mk, h_9, ob1_mk, if_neg c_10, if_neg c_11]) ls (lv_sub hl [1, 2, 0] rfl)
      · refine lv_iconst (v := 1) hx hb d_MO_sortFault_92 (by decide) ?_
        refine lv_goto (tgt := 97) hx hb d_MO_sortFault_93 (by decide) ?_
        refine lv_istore (lv' := [(4, .int 1), (0, .ref aM), (3, .int x3)]) hx hb d_MO_sortFault_97 hl (by decide) rfl (fun ls hl => ?_)
        exact hKx true (by rw [hV, tw_MO_sortFault_r28, if_pos c_6, if_pos c_7, h_8, ob1_mk, h_9, ob1_mk, if_neg c_10, if_pos c_11]) ls (lv_sub hl [1, 2, 0] rfl)
  · refine lv_aload_n hx hb d_MO_sortFault_39 rfl (lv_at hl 0 rfl) ?_
    refine va_get (D := D) (ci := 11) (v := .ref aMst) (C := R_MO) (T := T_MO) (N := 29) hx hb hT u_MO hown hK hP 0 rfl rfl 1 (by decide) (hT _ k_1044) (fun _ h9 => h9) rfl d_MO_sortFault_40 ?_
    refine lv_iload_n hx hb d_MO_sortFault_43 rfl (lv_at hl 1 rfl) ?_
    refine va_iald hx hb hK hP 1 1 rfl rfl (in_pp c_6.1 c_6.2 rfl) d_MO_sortFault_44 ?_
    refine lv_bipush (v := 18) hx hb d_MO_sortFault_45 (by decide) ?_
    refine lv_icmp_ne (tgt := 96) hx hb d_MO_sortFault_47 (by decide) (fun c_12 => ?_) (fun c_12 => ?_)
    · refine lv_iconst (v := 0) hx hb d_MO_sortFault_96 (by decide) ?_
      refine lv_istore (lv' := [(4, .int 0), (0, .ref aM), (3, .int x3)]) hx hb d_MO_sortFault_97 hl (by decide) rfl (fun ls hl => ?_)
      exact hKx false (by rw [hV, tw_MO_sortFault_r28, if_pos c_6, if_neg c_7, if_neg c_12]) ls (lv_sub hl [1, 2, 0] rfl)
    · refine lv_aload_n hx hb d_MO_sortFault_50 rfl (lv_at hl 0 rfl) ?_
      refine lv_aload_n hx hb d_MO_sortFault_51 rfl (lv_at hl 0 rfl) ?_
      refine va_get (D := D) (ci := 11) (v := .ref aMst) (C := R_MO) (T := T_MO) (N := 29) hx hb hT u_MO hown hK hP 0 rfl rfl 1 (by decide) (hT _ k_1044) (fun _ h9 => h9) rfl d_MO_sortFault_52 ?_
      refine lv_iload_n hx hb d_MO_sortFault_55 rfl (lv_at hl 1 rfl) ?_
      refine va_iald hx hb hK hP 1 1 rfl rfl (in_pp c_6.1 c_6.2 rfl) d_MO_sortFault_56 ?_
      refine lv_aload_n hx hb d_MO_sortFault_57 rfl (lv_at hl 0 rfl) ?_
      refine lv_iload_n hx hb d_MO_sortFault_58 rfl (lv_at hl 1 rfl) ?_
      rcases h_13 : tw_MO_valueOf fu st x3 with _ | r_13
      · exact op_no hs (by rw [hV, tw_MO_sortFault_r28, if_pos c_6, if_neg c_7, if_pos c_12, h_13, ob1_no])
      refine rd_V (val := r_13) (As := [.int x3]) (rest := [.int (st x3.toNatClampNeg), .ref aM]) ⟨hx, hb, hml, hown, hT⟩ (c_MO_valueOf l D cB cI aM aMst aMdcs aMtot aMfrm aMsiz aMffr aMfsz aMlkd aMlat aMkkd aMkat aModr aMgrp aMikd aMiat fu thr tpd frs frt top bgn mst ovr tgr lvs its hgh loo dfl st x3 r_13 h_13) (cwV 1 hT (gV_of k_1182 k_1184 kp_MO_valueOf k_12 kc_MO_valueOf) rfl rfl rfl hd_MO_valueOf ⟨Nat.le_of_ble_eq_true rfl, Nat.le_of_ble_eq_true rfl⟩) hk hP (q0 := 0) rfl rfl rfl rfl hl.1 rfl (Nat.le_of_ble_eq_true rfl) d_MO_sortFault_59 ⟨Nat.zero_le _, Nat.zero_le _⟩ ?_
      rcases h_14 : tw_MO_number fu st (st x3.toNatClampNeg) r_13 with _ | r_14
      · exact op_no hs (by rw [hV, tw_MO_sortFault_r28, if_pos c_6, if_neg c_7, if_pos c_12, h_13, ob1_mk, h_14, ob1_no])
      refine rd_Vl (val := r_14) (As := [.int (st x3.toNatClampNeg), .int r_13]) (rest := []) ⟨hx, hb, hml, hown, hT⟩ (c_MO_number l D cB cI aM aMst aMdcs aMtot aMfrm aMsiz aMffr aMfsz aMlkd aMlat aMkkd aMkat aModr aMgrp aMikd aMiat fu thr tpd frs frt top bgn mst ovr tgr lvs its hgh loo dfl st (st x3.toNatClampNeg) r_13 r_14 h_14) (cwV 2 hT (gV_of k_1277 k_1279 kp_MO_number k_12 kc_MO_number) rfl rfl rfl hd_MO_number ⟨Nat.le_of_ble_eq_true rfl, Nat.le_of_ble_eq_true rfl⟩) hk hP (q0 := 0) rfl rfl rfl rfl hl.1 rfl (Nat.le_of_ble_eq_true rfl) d_MO_sortFault_62 ⟨Nat.zero_le _, Nat.zero_le _⟩ ?_
      refine lv_lconst (v := 1) hx hb d_MO_sortFault_65 (by decide) ?_
      refine W.lcmp hx hb d_MO_sortFault_66 ?_
      refine lv_if_eq (tgt := 92) hx hb d_MO_sortFault_67 (by decide) (fun c_15 => ?_) (fun c_15 => ?_)
      · refine lv_iconst (v := 1) hx hb d_MO_sortFault_92 (by decide) ?_
        refine lv_goto (tgt := 97) hx hb d_MO_sortFault_93 (by decide) ?_
        refine lv_istore (lv' := [(4, .int 1), (0, .ref aM), (3, .int x3)]) hx hb d_MO_sortFault_97 hl (by decide) rfl (fun ls hl => ?_)
        exact hKx true (by rw [hV, tw_MO_sortFault_r28, if_pos c_6, if_neg c_7, if_pos c_12, h_13, ob1_mk, h_14, ob1_mk, if_pos c_15]) ls (lv_sub hl [1, 2, 0] rfl)
      · refine lv_aload_n hx hb d_MO_sortFault_70 rfl (lv_at hl 0 rfl) ?_
        refine lv_aload_n hx hb d_MO_sortFault_71 rfl (lv_at hl 0 rfl) ?_
        refine va_get (D := D) (ci := 11) (v := .ref aMst) (C := R_MO) (T := T_MO) (N := 29) hx hb hT u_MO hown hK hP 0 rfl rfl 1 (by decide) (hT _ k_1044) (fun _ h9 => h9) rfl d_MO_sortFault_72 ?_
        refine lv_iload_n hx hb d_MO_sortFault_75 rfl (lv_at hl 1 rfl) ?_
        refine va_iald hx hb hK hP 1 1 rfl rfl (in_pp c_6.1 c_6.2 rfl) d_MO_sortFault_76 ?_
        refine lv_aload_n hx hb d_MO_sortFault_77 rfl (lv_at hl 0 rfl) ?_
        refine lv_iload_n hx hb d_MO_sortFault_78 rfl (lv_at hl 1 rfl) ?_
        refine rd_V (val := r_13) (As := [.int x3]) (rest := [.int (st x3.toNatClampNeg), .ref aM]) ⟨hx, hb, hml, hown, hT⟩ (c_MO_valueOf l D cB cI aM aMst aMdcs aMtot aMfrm aMsiz aMffr aMfsz aMlkd aMlat aMkkd aMkat aModr aMgrp aMikd aMiat fu thr tpd frs frt top bgn mst ovr tgr lvs its hgh loo dfl st x3 r_13 h_13) (cwV 1 hT (gV_of k_1182 k_1184 kp_MO_valueOf k_12 kc_MO_valueOf) rfl rfl rfl hd_MO_valueOf ⟨Nat.le_of_ble_eq_true rfl, Nat.le_of_ble_eq_true rfl⟩) hk hP (q0 := 0) rfl rfl rfl rfl hl.1 rfl (Nat.le_of_ble_eq_true rfl) d_MO_sortFault_79 ⟨Nat.zero_le _, Nat.zero_le _⟩ ?_
        refine rd_Vl (val := r_14) (As := [.int (st x3.toNatClampNeg), .int r_13]) (rest := []) ⟨hx, hb, hml, hown, hT⟩ (c_MO_number l D cB cI aM aMst aMdcs aMtot aMfrm aMsiz aMffr aMfsz aMlkd aMlat aMkkd aMkat aModr aMgrp aMikd aMiat fu thr tpd frs frt top bgn mst ovr tgr lvs its hgh loo dfl st (st x3.toNatClampNeg) r_13 r_14 h_14) (cwV 2 hT (gV_of k_1277 k_1279 kp_MO_number k_12 kc_MO_number) rfl rfl rfl hd_MO_number ⟨Nat.le_of_ble_eq_true rfl, Nat.le_of_ble_eq_true rfl⟩) hk hP (q0 := 0) rfl rfl rfl rfl hl.1 rfl (Nat.le_of_ble_eq_true rfl) d_MO_sortFault_82 ⟨Nat.zero_le _, Nat.zero_le _⟩ ?_
        refine lv_ldc2 (v := (-1)) hx hb hown (hT _ k_1281) d_MO_sortFault_85 ?_
        refine W.lcmp hx hb d_MO_sortFault_88 ?_
        refine lv_if_ne (tgt := 96) hx hb d_MO_sortFault_89 (by decide) (fun c_16 => ?_) (fun c_16 => ?_)
        · refine lv_iconst (v := 0) hx hb d_MO_sortFault_96 (by decide) ?_
          refine lv_istore (lv' := [(4, .int 0), (0, .ref aM), (3, .int x3)]) hx hb d_MO_sortFault_97 hl (by decide) rfl (fun ls hl => ?_)
          exact hKx false (by rw [hV, tw_MO_sortFault_r28, if_pos c_6, if_neg c_7, if_pos c_12, h_13, ob1_mk, h_14, ob1_mk, if_neg c_15, if_neg c_16]) ls (lv_sub hl [1, 2, 0] rfl)
        · refine lv_iconst (v := 1) hx hb d_MO_sortFault_92 (by decide) ?_
          refine lv_goto (tgt := 97) hx hb d_MO_sortFault_93 (by decide) ?_
          refine lv_istore (lv' := [(4, .int 1), (0, .ref aM), (3, .int x3)]) hx hb d_MO_sortFault_97 hl (by decide) rfl (fun ls hl => ?_)
          exact hKx true (by rw [hV, tw_MO_sortFault_r28, if_pos c_6, if_neg c_7, if_pos c_12, h_13, ob1_mk, h_14, ob1_mk, if_neg c_15, if_pos c_16]) ls (lv_sub hl [1, 2, 0] rfl)
set_option maxHeartbeats 4000000 in
set_option maxRecDepth 100000 in
theorem l_MO_sortFault_h24 {p : Program} {e : Env} {s : State} {m : MethodId} {args : Array Value} {below : List Frame} {meth : Method} {c : Code} {V : Option (Int32)} {V0 : Int32} (C0 : lc_C p s m meth c args b_MO_sortFault 5 (some .int) R_MO lw_g) (hs : V = some V0) (l : Launch) (D : va_G) (cB cI : ClassId) (aM aMst aMdcs aMtot aMfrm aMsiz aMffr aMfsz aMlkd aMlat aMkkd aMkat aModr aMgrp aMikd aMiat : Nat) (fu : Nat) (thr : Int32) (tpd : Int32) (frs : Int32) (frt : Int32) (top : Int32) (bgn : Int32) (mst : Int32) (ovr : Bool) (tgr : Bool) (lvs : Int32) (its : Int32) (hgh : Int64) (loo : Int64) (dfl : Bool) (st : Nat → Int32) (hP : va_P D vwCl [(aM, .inr (11, [.int thr, .ref aMst, .int tpd, .ref aMdcs, .ref aMtot, .ref aMfrm, .ref aMsiz, .int frs, .int frt, .ref aMffr, .ref aMfsz, .int top, .int bgn, .int mst, .int (b2i ovr), .int (b2i tgr), .int lvs, .ref aMlkd, .ref aMlat, .ref aMkkd, .ref aMkat, .ref aModr, .ref aMgrp, .int its, .ref aMikd, .ref aMiat, .long hgh, .long loo, .int (b2i dfl)])), (aMst, .inl (cI, 136400, .inl st))] s.heap) (hk : hk_ D cB cI s)  {K : Int32 → Option (Int32)} (hKx : ∀ (x3 : Int32), V = K x3 → ∀ ls : Array Slot, lv_has ls 5 [] → W p l e ({ frames := 4, cells := 0, slots := 0, locals := 89 }) s m args below meth c s.heap [] 0 0 (MQ below (vp_Si (fun r => r = V0)) args s 0 0 (fun _ => False)) (F0 m 136 ls [])) : ∀ (n : Nat) (x3 : Int32), V = tw_MO_sortFault_h24 fu K st n x3 → ∀ ls : Array Slot, lv_has ls 5 [(0, .ref aM), (3, .int x3)] → W p l e ({ frames := 4, cells := 0, slots := 0, locals := 89 }) s m args below meth c s.heap [] 0 0 (MQ below (vp_Si (fun r => r = V0)) args s 0 0 (fun _ => False)) (F0 m 24 ls []) := by
  obtain ⟨hx, hb, hml, hr, hown, hlocks, hT⟩ := id C0
  have hK := hk.1
  have hN := hk.2.1
  intro n
  induction n with
  | zero =>
    intro x3 hV
    exact op_no hs (hV.trans rfl)
  | succ n ih =>
    intro x3 hV ls hl
    refine lv_iload_n hx hb d_MO_sortFault_24 rfl (lv_at hl 1 rfl) ?_
    refine lv_if_le (tgt := 136) hx hb d_MO_sortFault_25 (by decide) (fun c_5 => ?_) (fun c_5 => ?_)
    · exact hKx x3 (by rw [hV, tw_MO_sortFault_h24, if_pos c_5]) ls (lv_sub hl [] rfl)
    · refine l_MO_sortFault_r28 C0 hs l D cB cI aM aMst aMdcs aMtot aMfrm aMsiz aMffr aMfsz aMlkd aMlat aMkkd aMkat aModr aMgrp aMikd aMiat fu thr tpd frs frt top bgn mst ovr tgr lvs its hgh loo dfl st hP hk x3 (K := (fun (y4_17 : Bool) =>
          if (b2i y4_17) = 0 then
            some 2
          else
            ob1 (tw_MO_nameEndOf fu st x3) (fun r_19 =>
              ob1 (tw_MO_isPath fu st (x3 + 1) ((r_19 - x3) - 1)) (fun r_20 =>
                if (b2i r_20) = 0 then
                  some 3
                else
                  ob1 (tw_MO_nextOf fu st x3) (fun r_22 =>
                    tw_MO_sortFault_h24 fu K st n r_22))))) ?_ (by rw [hV, tw_MO_sortFault_h24, if_neg c_5]) ls (lv_sub hl [0, 1] rfl)
      intro y4_17 hV_17 ls hl
      refine lv_iload hx hb d_MO_sortFault_99 (lv_at hl 2 rfl) ?_
      refine lv_if_ne (tgt := 106) hx hb d_MO_sortFault_101 (by decide) (fun c_18 => ?_) (fun c_18 => ?_)
      · refine lv_aload_n hx hb d_MO_sortFault_106 rfl (lv_at hl 0 rfl) ?_
        refine lv_iload_n hx hb d_MO_sortFault_107 rfl (lv_at hl 1 rfl) ?_
        refine lv_iconst (v := 1) hx hb d_MO_sortFault_108 (by decide) ?_
        refine lv_iadd hx hb d_MO_sortFault_109 ?_
        refine lv_aload_n hx hb d_MO_sortFault_110 rfl (lv_at hl 0 rfl) ?_
        refine lv_iload_n hx hb d_MO_sortFault_111 rfl (lv_at hl 1 rfl) ?_
        rcases h_19 : tw_MO_nameEndOf fu st x3 with _ | r_19
        · exact op_no hs (by rw [hV_17, if_neg c_18, h_19, ob1_no])
        refine rd_V (val := r_19) (As := [.int x3]) (rest := [.int (x3 + 1), .ref aM]) ⟨hx, hb, hml, hown, hT⟩ (c_MO_nameEndOf l D cB cI aM aMst aMdcs aMtot aMfrm aMsiz aMffr aMfsz aMlkd aMlat aMkkd aMkat aModr aMgrp aMikd aMiat fu thr tpd frs frt top bgn mst ovr tgr lvs its hgh loo dfl st x3 r_19 h_19) (cwV 1 hT (gV_of k_1174 k_1176 kp_MO_nameEndOf k_12 kc_MO_nameEndOf) rfl rfl rfl hd_MO_nameEndOf ⟨Nat.le_of_ble_eq_true rfl, Nat.le_of_ble_eq_true rfl⟩) hk hP (q0 := 0) rfl rfl rfl rfl hl.1 rfl (Nat.le_of_ble_eq_true rfl) d_MO_sortFault_112 ⟨Nat.zero_le _, Nat.zero_le _⟩ ?_
        refine lv_iload_n hx hb d_MO_sortFault_115 rfl (lv_at hl 1 rfl) ?_
        refine lv_isub hx hb d_MO_sortFault_116 ?_
        refine lv_iconst (v := 1) hx hb d_MO_sortFault_117 (by decide) ?_
        refine lv_isub hx hb d_MO_sortFault_118 ?_
        rcases h_20 : tw_MO_isPath fu st (x3 + 1) ((r_19 - x3) - 1) with _ | r_20
        · exact op_no hs (by rw [hV_17, if_neg c_18, h_19, ob1_mk, h_20, ob1_no])
        refine rd_V (val := b2i r_20) (As := [.int (x3 + 1), .int ((r_19 - x3) - 1)]) (rest := []) ⟨hx, hb, hml, hown, hT⟩ (c_MO_isPath l D cB cI aM aMst aMdcs aMtot aMfrm aMsiz aMffr aMfsz aMlkd aMlat aMkkd aMkat aModr aMgrp aMikd aMiat fu thr tpd frs frt top bgn mst ovr tgr lvs its hgh loo dfl st (x3 + 1) ((r_19 - x3) - 1) r_20 h_20) (cwV 2 hT (gV_of k_1248 k_1250 kp_MO_isPath k_12 kc_MO_isPath) rfl rfl rfl hd_MO_isPath ⟨Nat.le_of_ble_eq_true rfl, Nat.le_of_ble_eq_true rfl⟩) hk hP (q0 := 0) rfl rfl rfl rfl hl.1 rfl (Nat.le_of_ble_eq_true rfl) d_MO_sortFault_119 ⟨Nat.zero_le _, Nat.zero_le _⟩ ?_
        refine lv_if_ne (tgt := 127) hx hb d_MO_sortFault_122 (by decide) (fun c_21 => ?_) (fun c_21 => ?_)
        · refine lv_aload_n hx hb d_MO_sortFault_127 rfl (lv_at hl 0 rfl) ?_
          refine lv_iload_n hx hb d_MO_sortFault_128 rfl (lv_at hl 1 rfl) ?_
          rcases h_22 : tw_MO_nextOf fu st x3 with _ | r_22
          · exact op_no hs (by rw [hV_17, if_neg c_18, h_19, ob1_mk, h_20, ob1_mk, if_neg c_21, h_22, ob1_no])
          refine rd_V (val := r_22) (As := [.int x3]) (rest := []) ⟨hx, hb, hml, hown, hT⟩ (c_MO_nextOf l D cB cI aM aMst aMdcs aMtot aMfrm aMsiz aMffr aMfsz aMlkd aMlat aMkkd aMkat aModr aMgrp aMikd aMiat fu thr tpd frs frt top bgn mst ovr tgr lvs its hgh loo dfl st x3 r_22 h_22) (cwV 1 hT (gV_of k_1204 k_1206 kp_MO_nextOf k_12 kc_MO_nextOf) rfl rfl rfl hd_MO_nextOf ⟨Nat.le_of_ble_eq_true rfl, Nat.le_of_ble_eq_true rfl⟩) hk hP (q0 := 0) rfl rfl rfl rfl hl.1 rfl (Nat.le_of_ble_eq_true rfl) d_MO_sortFault_129 ⟨Nat.zero_le _, Nat.zero_le _⟩ ?_
          refine lv_istore_n (lv' := [(3, .int r_22), (0, .ref aM), (4, .int (b2i y4_17))]) hx hb d_MO_sortFault_132 rfl hl (by decide) rfl (fun ls hl => ?_)
          refine lv_goto (tgt := 24) hx hb d_MO_sortFault_133 (by decide) ?_
          exact ih r_22 (by rw [hV_17, if_neg c_18, h_19, ob1_mk, h_20, ob1_mk, if_neg c_21, h_22, ob1_mk]) ls (lv_sub hl [1, 0] rfl)
        · refine lv_iconst (v := 3) hx hb d_MO_sortFault_125 (by decide) ?_
          exact W.iret (v := 3) hx hb hr (fun t ht hW => ⟨3, rfl, (op_eq hs (by rw [hV_17, if_neg c_18, h_19, ob1_mk, h_20, ob1_mk, if_pos c_21])), ht⟩) (fun _ h => by cases h) d_MO_sortFault_126
      · refine lv_iconst (v := 2) hx hb d_MO_sortFault_104 (by decide) ?_
        exact W.iret (v := 2) hx hb hr (fun t ht hW => ⟨2, rfl, (op_eq hs (by rw [hV_17, if_pos c_18])), ht⟩) (fun _ h => by cases h) d_MO_sortFault_105
set_option maxHeartbeats 4000000 in
set_option maxRecDepth 100000 in
theorem c_MO_sortFault (l : Launch) (D : va_G) (cB cI : ClassId) (aM aMst aMdcs aMtot aMfrm aMsiz aMffr aMfsz aMlkd aMlat aMkkd aMkat aModr aMgrp aMikd aMiat : Nat) (fu : Nat) (thr : Int32) (tpd : Int32) (frs : Int32) (frt : Int32) (top : Int32) (bgn : Int32) (mst : Int32) (ovr : Bool) (tgr : Bool) (lvs : Int32) (its : Int32) (hgh : Int64) (loo : Int64) (dfl : Bool) (st : Nat → Int32) (p0 : Int32) (V0 : Int32) (hs : tw_MO_sortFault fu st p0 = some V0) : Met l y_MO_sortFault mw_MO_sortFault { frames := 4, cells := 0, slots := 0, locals := 89 } (va_Pc [.ref aM, .int p0] (fun U => va_P D vwCl [(aM, .inr (11, [.int thr, .ref aMst, .int tpd, .ref aMdcs, .ref aMtot, .ref aMfrm, .ref aMsiz, .int frs, .int frt, .ref aMffr, .ref aMfsz, .int top, .int bgn, .int mst, .int (b2i ovr), .int (b2i tgr), .int lvs, .ref aMlkd, .ref aMlat, .ref aMkkd, .ref aMkat, .ref aModr, .ref aMgrp, .int its, .ref aMikd, .ref aMiat, .long hgh, .long loo, .int (b2i dfl)])), (aMst, .inl (cI, 136400, .inl st))] U.heap ∧ hk_ D cB cI U)) (vp_Si (fun r => r = V0)) 0 0 (fun _ => False) := by
  refine Met.ofW (cc := b_MO_sortFault) (maxL := 5) (ret := (some .int)) (by decide) rfl ?_
  intro p e s m args below meth c s₁ B0 hml hv
  obtain ⟨rfl, hP, hk⟩ := hv
  have hK := hk.1
  have hN := hk.2.1
  have hx := B0.exec
  have hb := B0.bytes
  have hr := B0.returns
  have hT : ∀ w ∈ lw_g, w.before _ s = true := fun w h => atoms_spec (ws := mw_MO_sortFault) B0.pre w (List.mem_cons_of_mem _ h)
  have hown : s.vm.findClass R_MO = some m.cls := findClass_of_methodNamed B0.named
  have hlocks := B0.notSynchronized
  have hl := lv_entry ([.ref aM, .int p0]) (n := 5) (Nat.le_of_ble_eq_true rfl)
  rw [lg_entry_eq]
  generalize (lg_sl ([.ref aM, .int p0]) ++ List.replicate (5 - (lg_sl ([.ref aM, .int p0])).length) Slot.unset).toArray = ls at hl ⊢
  have hl : lv_has ls 5 [(0, .ref aM), (1, .int p0)] := hl
  have C0 : lc_C p s m meth c _ b_MO_sortFault 5 (some .int) R_MO lw_g := ⟨hx, hb, hml, hr, hown, hlocks, hT⟩
  refine lv_aload_n hx hb d_MO_sortFault_0 rfl (lv_at hl 0 rfl) ?_
  refine lv_iload_n hx hb d_MO_sortFault_1 rfl (lv_at hl 1 rfl) ?_
  rcases h_1 : tw_MO_countOf fu st p0 with _ | r_1
  · exact op_no hs (by rw [tw_MO_sortFault, h_1, ob1_no])
  refine rd_V (val := r_1) (As := [.int p0]) (rest := []) ⟨hx, hb, hml, hown, hT⟩ (c_MO_countOf l D cB cI aM aMst aMdcs aMtot aMfrm aMsiz aMffr aMfsz aMlkd aMlat aMkkd aMkat aModr aMgrp aMikd aMiat fu thr tpd frs frt top bgn mst ovr tgr lvs its hgh loo dfl st p0 r_1 h_1) (cwV 1 hT (gV_of k_1200 k_1202 kp_MO_countOf k_12 kc_MO_countOf) rfl rfl rfl hd_MO_countOf ⟨Nat.le_of_ble_eq_true rfl, Nat.le_of_ble_eq_true rfl⟩) hk hP (q0 := 0) rfl rfl rfl rfl hl.1 rfl (Nat.le_of_ble_eq_true rfl) d_MO_sortFault_2 ⟨Nat.zero_le _, Nat.zero_le _⟩ ?_
  refine lv_istore_n (lv' := [(2, .int r_1), (0, .ref aM), (1, .int p0)]) hx hb d_MO_sortFault_5 rfl hl (by decide) rfl (fun ls hl => ?_)
  refine lv_iload_n hx hb d_MO_sortFault_6 rfl (lv_at hl 0 rfl) ?_
  refine lv_iconst (v := 1) hx hb d_MO_sortFault_7 (by decide) ?_
  refine lv_icmp_lt (tgt := 16) hx hb d_MO_sortFault_8 (by decide) (fun c_2 => ?_) (fun c_2 => ?_)
  · refine lv_iconst (v := 2) hx hb d_MO_sortFault_16 (by decide) ?_
    exact W.iret (v := 2) hx hb hr (fun t ht hW => ⟨2, rfl, (op_eq hs (by rw [tw_MO_sortFault, h_1, ob1_mk, if_pos c_2])), ht⟩) (fun _ h => by cases h) d_MO_sortFault_17
  · refine lv_iload_n hx hb d_MO_sortFault_11 rfl (lv_at hl 0 rfl) ?_
    refine lv_iconst (v := 4) hx hb d_MO_sortFault_12 (by decide) ?_
    refine lv_icmp_le (tgt := 18) hx hb d_MO_sortFault_13 (by decide) (fun c_3 => ?_) (fun c_3 => ?_)
    · refine lv_aload_n hx hb d_MO_sortFault_18 rfl (lv_at hl 1 rfl) ?_
      refine lv_iload_n hx hb d_MO_sortFault_19 rfl (lv_at hl 2 rfl) ?_
      rcases h_4 : tw_MO_firstOf fu st p0 with _ | r_4
      · exact op_no hs (by rw [tw_MO_sortFault, h_1, ob1_mk, if_neg c_2, if_pos c_3, h_4, ob1_no])
      refine rd_V (val := r_4) (As := [.int p0]) (rest := []) ⟨hx, hb, hml, hown, hT⟩ (c_MO_firstOf l D cB cI aM aMst aMdcs aMtot aMfrm aMsiz aMffr aMfsz aMlkd aMlat aMkkd aMkat aModr aMgrp aMikd aMiat fu thr tpd frs frt top bgn mst ovr tgr lvs its hgh loo dfl st p0 r_4 h_4) (cwV 1 hT (gV_of k_1196 k_1198 kp_MO_firstOf k_12 kc_MO_firstOf) rfl rfl rfl hd_MO_firstOf ⟨Nat.le_of_ble_eq_true rfl, Nat.le_of_ble_eq_true rfl⟩) hk hP (q0 := 0) rfl rfl rfl rfl hl.1 rfl (Nat.le_of_ble_eq_true rfl) d_MO_sortFault_20 ⟨Nat.zero_le _, Nat.zero_le _⟩ ?_
      refine lv_istore_n (lv' := [(3, .int r_4), (2, .int r_1), (0, .ref aM), (1, .int p0)]) hx hb d_MO_sortFault_23 rfl hl (by decide) rfl (fun ls hl => ?_)
      refine l_MO_sortFault_h24 C0 hs l D cB cI aM aMst aMdcs aMtot aMfrm aMsiz aMffr aMfsz aMlkd aMlat aMkkd aMkat aModr aMgrp aMikd aMiat fu thr tpd frs frt top bgn mst ovr tgr lvs its hgh loo dfl st hP hk   (K := (fun (x3_23 : Int32) =>
          some 0)) ?_ fu r_4  (by rw [tw_MO_sortFault, h_1, ob1_mk, if_neg c_2, if_pos c_3, h_4, ob1_mk]) ls (lv_sub hl [2, 0] rfl)
      intro x3_23 hV_23 ls hl
      refine lv_iconst (v := 0) hx hb d_MO_sortFault_136 (by decide) ?_
      exact W.iret (v := 0) hx hb hr (fun t ht hW => ⟨0, rfl, (op_eq hs (by rw [hV_23])), ht⟩) (fun _ h => by cases h) d_MO_sortFault_137
    · refine lv_iconst (v := 2) hx hb d_MO_sortFault_16 (by decide) ?_
      exact W.iret (v := 2) hx hb hr (fun t ht hW => ⟨2, rfl, (op_eq hs (by rw [tw_MO_sortFault, h_1, ob1_mk, if_neg c_2, if_neg c_3])), ht⟩) (fun _ h => by cases h) d_MO_sortFault_17
set_option maxHeartbeats 4000000 in
set_option maxRecDepth 100000 in
theorem c_MO_isText (l : Launch) (D : va_G) (cB cI : ClassId) (aM aMst aMdcs aMtot aMfrm aMsiz aMffr aMfsz aMlkd aMlat aMkkd aMkat aModr aMgrp aMikd aMiat : Nat) (fu : Nat) (thr : Int32) (tpd : Int32) (frs : Int32) (frt : Int32) (top : Int32) (bgn : Int32) (mst : Int32) (ovr : Bool) (tgr : Bool) (lvs : Int32) (its : Int32) (hgh : Int64) (loo : Int64) (dfl : Bool) (st : Nat → Int32) (p0 : Int32) (V0 : Bool) (hs : tw_MO_isText fu st p0 = some V0) : Met l y_MO_isText mw_MO_isText { frames := 0, cells := 0, slots := 0, locals := 0 } (va_Pc [.ref aM, .int p0] (fun U => va_P D vwCl [(aM, .inr (11, [.int thr, .ref aMst, .int tpd, .ref aMdcs, .ref aMtot, .ref aMfrm, .ref aMsiz, .int frs, .int frt, .ref aMffr, .ref aMfsz, .int top, .int bgn, .int mst, .int (b2i ovr), .int (b2i tgr), .int lvs, .ref aMlkd, .ref aMlat, .ref aMkkd, .ref aMkat, .ref aModr, .ref aMgrp, .int its, .ref aMikd, .ref aMiat, .long hgh, .long loo, .int (b2i dfl)])), (aMst, .inl (cI, 136400, .inl st))] U.heap ∧ hk_ D cB cI U)) (vp_Si (fun r => r = b2i V0)) 0 0 (fun _ => False) := by
  refine Met.ofW (cc := b_MO_isText) (maxL := 2) (ret := (some .boolean)) (by decide) rfl ?_
  intro p e s m args below meth c s₁ B0 hml hv
  obtain ⟨rfl, hP, hk⟩ := hv
  have hK := hk.1
  have hN := hk.2.1
  have hx := B0.exec
  have hb := B0.bytes
  have hr := B0.returns
  have hT : ∀ w ∈ lw_g, w.before _ s = true := fun w h => atoms_spec (ws := mw_MO_isText) B0.pre w (List.mem_cons_of_mem _ h)
  have hown : s.vm.findClass R_MO = some m.cls := findClass_of_methodNamed B0.named
  have hlocks := B0.notSynchronized
  have hl := lv_entry ([.ref aM, .int p0]) (n := 2) (Nat.le_of_ble_eq_true rfl)
  rw [lg_entry_eq]
  generalize (lg_sl ([.ref aM, .int p0]) ++ List.replicate (2 - (lg_sl ([.ref aM, .int p0])).length) Slot.unset).toArray = ls at hl ⊢
  have hl : lv_has ls 2 [(0, .ref aM), (1, .int p0)] := hl
  refine lv_iload_n hx hb d_MO_isText_0 rfl (lv_at hl 1 rfl) ?_
  refine lv_if_le (tgt := 18) hx hb d_MO_isText_1 (by decide) (fun c_1 => ?_) (fun c_1 => ?_)
  · refine lv_iconst (v := 0) hx hb d_MO_isText_18 (by decide) ?_
    exact W.zret (v := 0) (ty := .boolean) hx hb hr (rfl) (fun t ht hW => ⟨0, rfl, (op_b (x := false) hs (by rw [tw_MO_isText, if_pos c_1])), ht⟩) (fun _ h => by cases h) d_MO_isText_19
  · refine lv_aload_n hx hb d_MO_isText_4 rfl (lv_at hl 0 rfl) ?_
    refine va_get (D := D) (ci := 11) (v := .ref aMst) (C := R_MO) (T := T_MO) (N := 29) hx hb hT u_MO hown hK hP 0 rfl rfl 1 (by decide) (hT _ k_1044) (fun _ h9 => h9) rfl d_MO_isText_5 ?_
    refine lv_iload_n hx hb d_MO_isText_8 rfl (lv_at hl 1 rfl) ?_
    by_cases c_2 : 0 ≤ p0 ∧ p0 < 136400
    rotate_left
    · exact op_no hs (by rw [tw_MO_isText, if_neg c_1, if_neg c_2])
    refine va_iald hx hb hK hP 1 1 rfl rfl (in_pp c_2.1 c_2.2 rfl) d_MO_isText_9 ?_
    refine lv_iconst (v := 2) hx hb d_MO_isText_10 (by decide) ?_
    refine lv_icmp_ne (tgt := 18) hx hb d_MO_isText_11 (by decide) (fun c_3 => ?_) (fun c_3 => ?_)
    · refine lv_iconst (v := 0) hx hb d_MO_isText_18 (by decide) ?_
      exact W.zret (v := 0) (ty := .boolean) hx hb hr (rfl) (fun t ht hW => ⟨0, rfl, (op_b (x := false) hs (by rw [tw_MO_isText, if_neg c_1, if_pos c_2, if_neg c_3])), ht⟩) (fun _ h => by cases h) d_MO_isText_19
    · refine lv_iconst (v := 1) hx hb d_MO_isText_14 (by decide) ?_
      refine lv_goto (tgt := 19) hx hb d_MO_isText_15 (by decide) ?_
      exact W.zret (v := 1) (ty := .boolean) hx hb hr (rfl) (fun t ht hW => ⟨1, rfl, (op_b (x := true) hs (by rw [tw_MO_isText, if_neg c_1, if_pos c_2, if_pos c_3])), ht⟩) (fun _ h => by cases h) d_MO_isText_19
set_option maxHeartbeats 4000000 in
set_option maxRecDepth 100000 in
theorem c_MO_textSize (l : Launch) (D : va_G) (cB cI : ClassId) (aM aMst aMdcs aMtot aMfrm aMsiz aMffr aMfsz aMlkd aMlat aMkkd aMkat aModr aMgrp aMikd aMiat : Nat) (fu : Nat) (thr : Int32) (tpd : Int32) (frs : Int32) (frt : Int32) (top : Int32) (bgn : Int32) (mst : Int32) (ovr : Bool) (tgr : Bool) (lvs : Int32) (its : Int32) (hgh : Int64) (loo : Int64) (dfl : Bool) (st : Nat → Int32) (p0 : Int32) (V0 : Int32) (hs : tw_MO_textSize fu st p0 = some V0) : Met l y_MO_textSize mw_MO_textSize { frames := 2, cells := 0, slots := 0, locals := 43 } (va_Pc [.ref aM, .int p0] (fun U => va_P D vwCl [(aM, .inr (11, [.int thr, .ref aMst, .int tpd, .ref aMdcs, .ref aMtot, .ref aMfrm, .ref aMsiz, .int frs, .int frt, .ref aMffr, .ref aMfsz, .int top, .int bgn, .int mst, .int (b2i ovr), .int (b2i tgr), .int lvs, .ref aMlkd, .ref aMlat, .ref aMkkd, .ref aMkat, .ref aModr, .ref aMgrp, .int its, .ref aMikd, .ref aMiat, .long hgh, .long loo, .int (b2i dfl)])), (aMst, .inl (cI, 136400, .inl st))] U.heap ∧ hk_ D cB cI U)) (vp_Si (fun r => r = V0)) 0 0 (fun _ => False) := by
  refine Met.ofW (cc := b_MO_textSize) (maxL := 2) (ret := (some .int)) (by decide) rfl ?_
  intro p e s m args below meth c s₁ B0 hml hv
  obtain ⟨rfl, hP, hk⟩ := hv
  have hK := hk.1
  have hN := hk.2.1
  have hx := B0.exec
  have hb := B0.bytes
  have hr := B0.returns
  have hT : ∀ w ∈ lw_g, w.before _ s = true := fun w h => atoms_spec (ws := mw_MO_textSize) B0.pre w (List.mem_cons_of_mem _ h)
  have hown : s.vm.findClass R_MO = some m.cls := findClass_of_methodNamed B0.named
  have hlocks := B0.notSynchronized
  have hl := lv_entry ([.ref aM, .int p0]) (n := 2) (Nat.le_of_ble_eq_true rfl)
  rw [lg_entry_eq]
  generalize (lg_sl ([.ref aM, .int p0]) ++ List.replicate (2 - (lg_sl ([.ref aM, .int p0])).length) Slot.unset).toArray = ls at hl ⊢
  have hl : lv_has ls 2 [(0, .ref aM), (1, .int p0)] := hl
  refine lv_aload_n hx hb d_MO_textSize_0 rfl (lv_at hl 0 rfl) ?_
  refine lv_aload_n hx hb d_MO_textSize_1 rfl (lv_at hl 0 rfl) ?_
  refine lv_iload_n hx hb d_MO_textSize_2 rfl (lv_at hl 1 rfl) ?_
  rcases h_1 : tw_MO_valueOf fu st p0 with _ | r_1
  · exact op_no hs (by rw [tw_MO_textSize, h_1, ob1_no])
  refine rd_V (val := r_1) (As := [.int p0]) (rest := [.ref aM]) ⟨hx, hb, hml, hown, hT⟩ (c_MO_valueOf l D cB cI aM aMst aMdcs aMtot aMfrm aMsiz aMffr aMfsz aMlkd aMlat aMkkd aMkat aModr aMgrp aMikd aMiat fu thr tpd frs frt top bgn mst ovr tgr lvs its hgh loo dfl st p0 r_1 h_1) (cwV 1 hT (gV_of k_1182 k_1184 kp_MO_valueOf k_12 kc_MO_valueOf) rfl rfl rfl hd_MO_valueOf ⟨Nat.le_of_ble_eq_true rfl, Nat.le_of_ble_eq_true rfl⟩) hk hP (q0 := 0) rfl rfl rfl rfl hl.1 rfl (Nat.le_of_ble_eq_true rfl) d_MO_textSize_3 ⟨Nat.zero_le _, Nat.zero_le _⟩ ?_
  rcases h_2 : tw_MO_whole fu st r_1 with _ | r_2
  · exact op_no hs (by rw [tw_MO_textSize, h_1, ob1_mk, h_2, ob1_no])
  refine rd_V (val := r_2) (As := [.int r_1]) (rest := []) ⟨hx, hb, hml, hown, hT⟩ (c_MO_whole l D cB cI aM aMst aMdcs aMtot aMfrm aMsiz aMffr aMfsz aMlkd aMlat aMkkd aMkat aModr aMgrp aMikd aMiat fu thr tpd frs frt top bgn mst ovr tgr lvs its hgh loo dfl st r_1 r_2 h_2) (cwV 1 hT (gV_of k_1148 k_1150 kp_MO_whole k_12 kc_MO_whole) rfl rfl rfl hd_MO_whole ⟨Nat.le_of_ble_eq_true rfl, Nat.le_of_ble_eq_true rfl⟩) hk hP (q0 := 0) rfl rfl rfl rfl hl.1 rfl (Nat.le_of_ble_eq_true rfl) d_MO_textSize_6 ⟨Nat.zero_le _, Nat.zero_le _⟩ ?_
  refine lv_iconst (v := 1) hx hb d_MO_textSize_9 (by decide) ?_
  refine lv_isub hx hb d_MO_textSize_10 ?_
  exact W.iret (v := r_2 - 1) hx hb hr (fun t ht hW => ⟨r_2 - 1, rfl, (op_eq hs (by rw [tw_MO_textSize, h_1, ob1_mk, h_2, ob1_mk])), ht⟩) (fun _ h => by cases h) d_MO_textSize_11
set_option maxHeartbeats 4000000 in
set_option maxRecDepth 100000 in
theorem l_MO_lookupFault_r30 {p : Program} {e : Env} {s : State} {m : MethodId} {args : Array Value} {below : List Frame} {meth : Method} {c : Code} {V : Option (Int32)} {V0 : Int32} (C0 : lc_C p s m meth c args b_MO_lookupFault 6 (some .int) R_MO lw_g) (hs : V = some V0) (l : Launch) (D : va_G) (cB cI : ClassId) (aM aMst aMdcs aMtot aMfrm aMsiz aMffr aMfsz aMlkd aMlat aMkkd aMkat aModr aMgrp aMikd aMiat : Nat) (fu : Nat) (thr : Int32) (tpd : Int32) (frs : Int32) (frt : Int32) (top : Int32) (bgn : Int32) (mst : Int32) (ovr : Bool) (tgr : Bool) (lvs : Int32) (its : Int32) (hgh : Int64) (loo : Int64) (dfl : Bool) (st : Nat → Int32) (hP : va_P D vwCl [(aM, .inr (11, [.int thr, .ref aMst, .int tpd, .ref aMdcs, .ref aMtot, .ref aMfrm, .ref aMsiz, .int frs, .int frt, .ref aMffr, .ref aMfsz, .int top, .int bgn, .int mst, .int (b2i ovr), .int (b2i tgr), .int lvs, .ref aMlkd, .ref aMlat, .ref aMkkd, .ref aMkat, .ref aModr, .ref aMgrp, .int its, .ref aMikd, .ref aMiat, .long hgh, .long loo, .int (b2i dfl)])), (aMst, .inl (cI, 136400, .inl st))] s.heap) (hk : hk_ D cB cI s) (x2 : Int32) (x3 : Int32) (x4 : Int32) {K : Bool → Option (Int32)} (hKx : ∀ (y5 : Bool), V = K y5 → ∀ ls : Array Slot, lv_has ls 6 [(0, .ref aM), (2, .int x2), (3, .int x3), (4, .int x4), (5, .int (b2i y5))] → W p l e ({ frames := 4, cells := 0, slots := 0, locals := 89 }) s m args below meth c s.heap [] 0 0 (MQ below (vp_Si (fun r => r = V0)) args s 0 0 (fun _ => False)) (F0 m 71 ls [])) (hV : V = tw_MO_lookupFault_r30 fu K st x2 x3 x4) : ∀ ls : Array Slot, lv_has ls 6 [(0, .ref aM), (2, .int x2), (3, .int x3), (4, .int x4)] → W p l e ({ frames := 4, cells := 0, slots := 0, locals := 89 }) s m args below meth c s.heap [] 0 0 (MQ below (vp_Si (fun r => r = V0)) args s 0 0 (fun _ => False)) (F0 m 30 ls []) := by
  obtain ⟨hx, hb, hml, hr, hown, hlocks, hT⟩ := id C0
  have hK := hk.1
  have hN := hk.2.1
  intro ls hl
  refine lv_aload_n hx hb d_MO_lookupFault_30 rfl (lv_at hl 0 rfl) ?_
  refine lv_iload_n hx hb d_MO_lookupFault_31 rfl (lv_at hl 1 rfl) ?_
  refine lv_ldc2 (v := 1701995880) hx hb hown (hT _ k_1286) d_MO_lookupFault_32 ?_
  rcases h_6 : tw_MO_isNamed fu st x2 1701995880 with _ | r_6
  · exact op_no hs (by rw [hV, tw_MO_lookupFault_r30, h_6, ob1_no])
  refine rd_V (val := b2i r_6) (As := [.int x2, .long 1701995880]) (rest := []) ⟨hx, hb, hml, hown, hT⟩ (c_MO_isNamed l D cB cI aM aMst aMdcs aMtot aMfrm aMsiz aMffr aMfsz aMlkd aMlat aMkkd aMkat aModr aMgrp aMikd aMiat fu thr tpd frs frt top bgn mst ovr tgr lvs its hgh loo dfl st x2 1701995880 r_6 h_6) (cwV 2 hT (gV_of k_1217 k_1219 kp_MO_isNamed k_12 kc_MO_isNamed) rfl rfl rfl hd_MO_isNamed ⟨Nat.le_of_ble_eq_true rfl, Nat.le_of_ble_eq_true rfl⟩) hk hP (q0 := 0) rfl rfl rfl rfl hl.1 rfl (Nat.le_of_ble_eq_true rfl) d_MO_lookupFault_35 ⟨Nat.zero_le _, Nat.zero_le _⟩ ?_
  refine lv_if_eq (tgt := 68) hx hb d_MO_lookupFault_38 (by decide) (fun c_7 => ?_) (fun c_7 => ?_)
  · refine lv_iconst (v := 0) hx hb d_MO_lookupFault_68 (by decide) ?_
    refine lv_istore (lv' := [(5, .int 0), (0, .ref aM), (2, .int x2), (3, .int x3), (4, .int x4)]) hx hb d_MO_lookupFault_69 hl (by decide) rfl (fun ls hl => ?_)
    exact hKx false (by rw [hV, tw_MO_lookupFault_r30, h_6, ob1_mk, if_pos c_7]) ls (lv_sub hl [1, 2, 3, 4, 0] rfl)
  · refine lv_aload_n hx hb d_MO_lookupFault_41 rfl (lv_at hl 0 rfl) ?_
    refine lv_iload_n hx hb d_MO_lookupFault_42 rfl (lv_at hl 2 rfl) ?_
    refine lv_ldc2 (v := 435710945396) hx hb hown (hT _ k_1287) d_MO_lookupFault_43 ?_
    rcases h_8 : tw_MO_isNamed fu st x3 435710945396 with _ | r_8
    · exact op_no hs (by rw [hV, tw_MO_lookupFault_r30, h_6, ob1_mk, if_neg c_7, h_8, ob1_no])
    refine rd_V (val := b2i r_8) (As := [.int x3, .long 435710945396]) (rest := []) ⟨hx, hb, hml, hown, hT⟩ (c_MO_isNamed l D cB cI aM aMst aMdcs aMtot aMfrm aMsiz aMffr aMfsz aMlkd aMlat aMkkd aMkat aModr aMgrp aMikd aMiat fu thr tpd frs frt top bgn mst ovr tgr lvs its hgh loo dfl st x3 435710945396 r_8 h_8) (cwV 2 hT (gV_of k_1217 k_1219 kp_MO_isNamed k_12 kc_MO_isNamed) rfl rfl rfl hd_MO_isNamed ⟨Nat.le_of_ble_eq_true rfl, Nat.le_of_ble_eq_true rfl⟩) hk hP (q0 := 0) rfl rfl rfl rfl hl.1 rfl (Nat.le_of_ble_eq_true rfl) d_MO_lookupFault_46 ⟨Nat.zero_le _, Nat.zero_le _⟩ ?_
    refine lv_if_eq (tgt := 68) hx hb d_MO_lookupFault_49 (by decide) (fun c_9 => ?_) (fun c_9 => ?_)
    · refine lv_iconst (v := 0) hx hb d_MO_lookupFault_68 (by decide) ?_
      refine lv_istore (lv' := [(5, .int 0), (0, .ref aM), (2, .int x2), (3, .int x3), (4, .int x4)]) hx hb d_MO_lookupFault_69 hl (by decide) rfl (fun ls hl => ?_)
      exact hKx false (by rw [hV, tw_MO_lookupFault_r30, h_6, ob1_mk, if_neg c_7, h_8, ob1_mk, if_pos c_9]) ls (lv_sub hl [1, 2, 3, 4, 0] rfl)
    · refine lv_aload_n hx hb d_MO_lookupFault_52 rfl (lv_at hl 0 rfl) ?_
      refine lv_iload hx hb d_MO_lookupFault_53 (lv_at hl 3 rfl) ?_
      refine lv_ldc2 (v := 29537) hx hb hown (hT _ k_1288) d_MO_lookupFault_55 ?_
      rcases h_10 : tw_MO_isNamed fu st x4 29537 with _ | r_10
      · exact op_no hs (by rw [hV, tw_MO_lookupFault_r30, h_6, ob1_mk, if_neg c_7, h_8, ob1_mk, if_neg c_9, h_10, ob1_no])
      refine rd_V (val := b2i r_10) (As := [.int x4, .long 29537]) (rest := []) ⟨hx, hb, hml, hown, hT⟩ (c_MO_isNamed l D cB cI aM aMst aMdcs aMtot aMfrm aMsiz aMffr aMfsz aMlkd aMlat aMkkd aMkat aModr aMgrp aMikd aMiat fu thr tpd frs frt top bgn mst ovr tgr lvs its hgh loo dfl st x4 29537 r_10 h_10) (cwV 2 hT (gV_of k_1217 k_1219 kp_MO_isNamed k_12 kc_MO_isNamed) rfl rfl rfl hd_MO_isNamed ⟨Nat.le_of_ble_eq_true rfl, Nat.le_of_ble_eq_true rfl⟩) hk hP (q0 := 0) rfl rfl rfl rfl hl.1 rfl (Nat.le_of_ble_eq_true rfl) d_MO_lookupFault_58 ⟨Nat.zero_le _, Nat.zero_le _⟩ ?_
      refine lv_if_eq (tgt := 68) hx hb d_MO_lookupFault_61 (by decide) (fun c_11 => ?_) (fun c_11 => ?_)
      · refine lv_iconst (v := 0) hx hb d_MO_lookupFault_68 (by decide) ?_
        refine lv_istore (lv' := [(5, .int 0), (0, .ref aM), (2, .int x2), (3, .int x3), (4, .int x4)]) hx hb d_MO_lookupFault_69 hl (by decide) rfl (fun ls hl => ?_)
        exact hKx false (by rw [hV, tw_MO_lookupFault_r30, h_6, ob1_mk, if_neg c_7, h_8, ob1_mk, if_neg c_9, h_10, ob1_mk, if_pos c_11]) ls (lv_sub hl [1, 2, 3, 4, 0] rfl)
      · refine lv_iconst (v := 1) hx hb d_MO_lookupFault_64 (by decide) ?_
        refine lv_goto (tgt := 69) hx hb d_MO_lookupFault_65 (by decide) ?_
        refine lv_istore (lv' := [(5, .int 1), (0, .ref aM), (2, .int x2), (3, .int x3), (4, .int x4)]) hx hb d_MO_lookupFault_69 hl (by decide) rfl (fun ls hl => ?_)
        exact hKx true (by rw [hV, tw_MO_lookupFault_r30, h_6, ob1_mk, if_neg c_7, h_8, ob1_mk, if_neg c_9, h_10, ob1_mk, if_neg c_11]) ls (lv_sub hl [1, 2, 3, 4, 0] rfl)
set_option maxHeartbeats 4000000 in
set_option maxRecDepth 100000 in
theorem c_MO_lookupFault (l : Launch) (D : va_G) (cB cI : ClassId) (aM aMst aMdcs aMtot aMfrm aMsiz aMffr aMfsz aMlkd aMlat aMkkd aMkat aModr aMgrp aMikd aMiat : Nat) (fu : Nat) (thr : Int32) (tpd : Int32) (frs : Int32) (frt : Int32) (top : Int32) (bgn : Int32) (mst : Int32) (ovr : Bool) (tgr : Bool) (lvs : Int32) (its : Int32) (hgh : Int64) (loo : Int64) (dfl : Bool) (st : Nat → Int32) (p0 : Int32) (V0 : Int32) (hs : tw_MO_lookupFault fu st p0 = some V0) : Met l y_MO_lookupFault mw_MO_lookupFault { frames := 4, cells := 0, slots := 0, locals := 89 } (va_Pc [.ref aM, .int p0] (fun U => va_P D vwCl [(aM, .inr (11, [.int thr, .ref aMst, .int tpd, .ref aMdcs, .ref aMtot, .ref aMfrm, .ref aMsiz, .int frs, .int frt, .ref aMffr, .ref aMfsz, .int top, .int bgn, .int mst, .int (b2i ovr), .int (b2i tgr), .int lvs, .ref aMlkd, .ref aMlat, .ref aMkkd, .ref aMkat, .ref aModr, .ref aMgrp, .int its, .ref aMikd, .ref aMiat, .long hgh, .long loo, .int (b2i dfl)])), (aMst, .inl (cI, 136400, .inl st))] U.heap ∧ hk_ D cB cI U)) (vp_Si (fun r => r = V0)) 0 0 (fun _ => False) := by
  refine Met.ofW (cc := b_MO_lookupFault) (maxL := 6) (ret := (some .int)) (by decide) rfl ?_
  intro p e s m args below meth c s₁ B0 hml hv
  obtain ⟨rfl, hP, hk⟩ := hv
  have hK := hk.1
  have hN := hk.2.1
  have hx := B0.exec
  have hb := B0.bytes
  have hr := B0.returns
  have hT : ∀ w ∈ lw_g, w.before _ s = true := fun w h => atoms_spec (ws := mw_MO_lookupFault) B0.pre w (List.mem_cons_of_mem _ h)
  have hown : s.vm.findClass R_MO = some m.cls := findClass_of_methodNamed B0.named
  have hlocks := B0.notSynchronized
  have hl := lv_entry ([.ref aM, .int p0]) (n := 6) (Nat.le_of_ble_eq_true rfl)
  rw [lg_entry_eq]
  generalize (lg_sl ([.ref aM, .int p0]) ++ List.replicate (6 - (lg_sl ([.ref aM, .int p0])).length) Slot.unset).toArray = ls at hl ⊢
  have hl : lv_has ls 6 [(0, .ref aM), (1, .int p0)] := hl
  have C0 : lc_C p s m meth c _ b_MO_lookupFault 6 (some .int) R_MO lw_g := ⟨hx, hb, hml, hr, hown, hlocks, hT⟩
  refine lv_aload_n hx hb d_MO_lookupFault_0 rfl (lv_at hl 0 rfl) ?_
  refine lv_iload_n hx hb d_MO_lookupFault_1 rfl (lv_at hl 1 rfl) ?_
  rcases h_1 : tw_MO_countOf fu st p0 with _ | r_1
  · exact op_no hs (by rw [tw_MO_lookupFault, h_1, ob1_no])
  refine rd_V (val := r_1) (As := [.int p0]) (rest := []) ⟨hx, hb, hml, hown, hT⟩ (c_MO_countOf l D cB cI aM aMst aMdcs aMtot aMfrm aMsiz aMffr aMfsz aMlkd aMlat aMkkd aMkat aModr aMgrp aMikd aMiat fu thr tpd frs frt top bgn mst ovr tgr lvs its hgh loo dfl st p0 r_1 h_1) (cwV 1 hT (gV_of k_1200 k_1202 kp_MO_countOf k_12 kc_MO_countOf) rfl rfl rfl hd_MO_countOf ⟨Nat.le_of_ble_eq_true rfl, Nat.le_of_ble_eq_true rfl⟩) hk hP (q0 := 0) rfl rfl rfl rfl hl.1 rfl (Nat.le_of_ble_eq_true rfl) d_MO_lookupFault_2 ⟨Nat.zero_le _, Nat.zero_le _⟩ ?_
  refine lv_iconst (v := 3) hx hb d_MO_lookupFault_5 (by decide) ?_
  refine lv_icmp_eq (tgt := 11) hx hb d_MO_lookupFault_6 (by decide) (fun c_2 => ?_) (fun c_2 => ?_)
  · refine lv_aload_n hx hb d_MO_lookupFault_11 rfl (lv_at hl 0 rfl) ?_
    refine lv_iload_n hx hb d_MO_lookupFault_12 rfl (lv_at hl 1 rfl) ?_
    rcases h_3 : tw_MO_firstOf fu st p0 with _ | r_3
    · exact op_no hs (by rw [tw_MO_lookupFault, h_1, ob1_mk, if_pos c_2, h_3, ob1_no])
    refine rd_V (val := r_3) (As := [.int p0]) (rest := []) ⟨hx, hb, hml, hown, hT⟩ (c_MO_firstOf l D cB cI aM aMst aMdcs aMtot aMfrm aMsiz aMffr aMfsz aMlkd aMlat aMkkd aMkat aModr aMgrp aMikd aMiat fu thr tpd frs frt top bgn mst ovr tgr lvs its hgh loo dfl st p0 r_3 h_3) (cwV 1 hT (gV_of k_1196 k_1198 kp_MO_firstOf k_12 kc_MO_firstOf) rfl rfl rfl hd_MO_firstOf ⟨Nat.le_of_ble_eq_true rfl, Nat.le_of_ble_eq_true rfl⟩) hk hP (q0 := 0) rfl rfl rfl rfl hl.1 rfl (Nat.le_of_ble_eq_true rfl) d_MO_lookupFault_13 ⟨Nat.zero_le _, Nat.zero_le _⟩ ?_
    refine lv_istore_n (lv' := [(2, .int r_3), (0, .ref aM), (1, .int p0)]) hx hb d_MO_lookupFault_16 rfl hl (by decide) rfl (fun ls hl => ?_)
    refine lv_aload_n hx hb d_MO_lookupFault_17 rfl (lv_at hl 1 rfl) ?_
    refine lv_iload_n hx hb d_MO_lookupFault_18 rfl (lv_at hl 0 rfl) ?_
    rcases h_4 : tw_MO_nextOf fu st r_3 with _ | r_4
    · exact op_no hs (by rw [tw_MO_lookupFault, h_1, ob1_mk, if_pos c_2, h_3, ob1_mk, h_4, ob1_no])
    refine rd_V (val := r_4) (As := [.int r_3]) (rest := []) ⟨hx, hb, hml, hown, hT⟩ (c_MO_nextOf l D cB cI aM aMst aMdcs aMtot aMfrm aMsiz aMffr aMfsz aMlkd aMlat aMkkd aMkat aModr aMgrp aMikd aMiat fu thr tpd frs frt top bgn mst ovr tgr lvs its hgh loo dfl st r_3 r_4 h_4) (cwV 1 hT (gV_of k_1204 k_1206 kp_MO_nextOf k_12 kc_MO_nextOf) rfl rfl rfl hd_MO_nextOf ⟨Nat.le_of_ble_eq_true rfl, Nat.le_of_ble_eq_true rfl⟩) hk hP (q0 := 0) rfl rfl rfl rfl hl.1 rfl (Nat.le_of_ble_eq_true rfl) d_MO_lookupFault_19 ⟨Nat.zero_le _, Nat.zero_le _⟩ ?_
    refine lv_istore_n (lv' := [(3, .int r_4), (2, .int r_3), (0, .ref aM), (1, .int p0)]) hx hb d_MO_lookupFault_22 rfl hl (by decide) rfl (fun ls hl => ?_)
    refine lv_aload_n hx hb d_MO_lookupFault_23 rfl (lv_at hl 2 rfl) ?_
    refine lv_iload_n hx hb d_MO_lookupFault_24 rfl (lv_at hl 0 rfl) ?_
    rcases h_5 : tw_MO_nextOf fu st r_4 with _ | r_5
    · exact op_no hs (by rw [tw_MO_lookupFault, h_1, ob1_mk, if_pos c_2, h_3, ob1_mk, h_4, ob1_mk, h_5, ob1_no])
    refine rd_V (val := r_5) (As := [.int r_4]) (rest := []) ⟨hx, hb, hml, hown, hT⟩ (c_MO_nextOf l D cB cI aM aMst aMdcs aMtot aMfrm aMsiz aMffr aMfsz aMlkd aMlat aMkkd aMkat aModr aMgrp aMikd aMiat fu thr tpd frs frt top bgn mst ovr tgr lvs its hgh loo dfl st r_4 r_5 h_5) (cwV 1 hT (gV_of k_1204 k_1206 kp_MO_nextOf k_12 kc_MO_nextOf) rfl rfl rfl hd_MO_nextOf ⟨Nat.le_of_ble_eq_true rfl, Nat.le_of_ble_eq_true rfl⟩) hk hP (q0 := 0) rfl rfl rfl rfl hl.1 rfl (Nat.le_of_ble_eq_true rfl) d_MO_lookupFault_25 ⟨Nat.zero_le _, Nat.zero_le _⟩ ?_
    refine lv_istore (lv' := [(4, .int r_5), (3, .int r_4), (2, .int r_3), (0, .ref aM), (1, .int p0)]) hx hb d_MO_lookupFault_28 hl (by decide) rfl (fun ls hl => ?_)
    refine l_MO_lookupFault_r30 C0 hs l D cB cI aM aMst aMdcs aMtot aMfrm aMsiz aMffr aMfsz aMlkd aMlat aMkkd aMkat aModr aMgrp aMikd aMiat fu thr tpd frs frt top bgn mst ovr tgr lvs its hgh loo dfl st hP hk r_3 r_4 r_5 (K := (fun (y5_12 : Bool) =>
        if (b2i y5_12) = 0 then
          some 2
        else
          ob1 (tw_MO_isText fu st r_3) (fun r_14 =>
            if (b2i r_14) = 0 then
              some 2
            else
              ob1 (tw_MO_isText fu st r_4) (fun r_16 =>
                if (b2i r_16) = 0 then
                  some 2
                else
                  ob1 (tw_MO_isText fu st r_5) (fun r_18 =>
                    if (b2i r_18) = 0 then
                      some 2
                    else
                      ob1 (tw_MO_valueOf fu st r_5) (fun r_20 =>
                        ob1 (tw_MO_textSize fu st r_5) (fun r_21 =>
                          ob1 (tw_MO_isPlain fu st (r_20 + 4) r_21) (fun r_22 =>
                            if (b2i r_22) = 0 then
                              some 2
                            else
                              ob1 (tw_MO_valueOf fu st r_3) (fun r_24 =>
                                ob1 (tw_MO_textSize fu st r_3) (fun r_25 =>
                                  ob1 (tw_MO_isPath fu st (r_24 + 4) r_25) (fun r_26 =>
                                    if (b2i r_26) = 0 then
                                      some 3
                                    else
                                      ob1 (tw_MO_valueOf fu st r_4) (fun r_28 =>
                                        ob1 (tw_MO_textSize fu st r_4) (fun r_29 =>
                                          ob1 (tw_MO_isPath fu st (r_28 + 4) r_29) (fun r_30 =>
                                            if (b2i r_30) = 0 then
                                              some 3
                                            else
                                              some 0)))))))))))))) ?_ (by rw [tw_MO_lookupFault, h_1, ob1_mk, if_pos c_2, h_3, ob1_mk, h_4, ob1_mk, h_5, ob1_mk]) ls (lv_sub hl [3, 2, 1, 0] rfl)
    intro y5_12 hV_12 ls hl
    refine lv_iload hx hb d_MO_lookupFault_71 (lv_at hl 4 rfl) ?_
    refine lv_if_eq (tgt := 122) hx hb d_MO_lookupFault_73 (by decide) (fun c_13 => ?_) (fun c_13 => ?_)
    · refine lv_iconst (v := 2) hx hb d_MO_lookupFault_122 (by decide) ?_
      exact W.iret (v := 2) hx hb hr (fun t ht hW => ⟨2, rfl, (op_eq hs (by rw [hV_12, if_pos c_13])), ht⟩) (fun _ h => by cases h) d_MO_lookupFault_123
    · refine lv_aload_n hx hb d_MO_lookupFault_76 rfl (lv_at hl 0 rfl) ?_
      refine lv_iload_n hx hb d_MO_lookupFault_77 rfl (lv_at hl 1 rfl) ?_
      rcases h_14 : tw_MO_isText fu st r_3 with _ | r_14
      · exact op_no hs (by rw [hV_12, if_neg c_13, h_14, ob1_no])
      refine rd_V (val := b2i r_14) (As := [.int r_3]) (rest := []) ⟨hx, hb, hml, hown, hT⟩ (c_MO_isText l D cB cI aM aMst aMdcs aMtot aMfrm aMsiz aMffr aMfsz aMlkd aMlat aMkkd aMkat aModr aMgrp aMikd aMiat fu thr tpd frs frt top bgn mst ovr tgr lvs its hgh loo dfl st r_3 r_14 h_14) (cwV 1 hT (gV_of k_1289 k_1291 kp_MO_isText k_12 kc_MO_isText) rfl rfl rfl hd_MO_isText ⟨Nat.le_of_ble_eq_true rfl, Nat.le_of_ble_eq_true rfl⟩) hk hP (q0 := 0) rfl rfl rfl rfl hl.1 rfl (Nat.le_of_ble_eq_true rfl) d_MO_lookupFault_78 ⟨Nat.zero_le _, Nat.zero_le _⟩ ?_
      refine lv_if_eq (tgt := 122) hx hb d_MO_lookupFault_81 (by decide) (fun c_15 => ?_) (fun c_15 => ?_)
      · refine lv_iconst (v := 2) hx hb d_MO_lookupFault_122 (by decide) ?_
        exact W.iret (v := 2) hx hb hr (fun t ht hW => ⟨2, rfl, (op_eq hs (by rw [hV_12, if_neg c_13, h_14, ob1_mk, if_pos c_15])), ht⟩) (fun _ h => by cases h) d_MO_lookupFault_123
      · refine lv_aload_n hx hb d_MO_lookupFault_84 rfl (lv_at hl 0 rfl) ?_
        refine lv_iload_n hx hb d_MO_lookupFault_85 rfl (lv_at hl 2 rfl) ?_
        rcases h_16 : tw_MO_isText fu st r_4 with _ | r_16
        · exact op_no hs (by rw [hV_12, if_neg c_13, h_14, ob1_mk, if_neg c_15, h_16, ob1_no])
        refine rd_V (val := b2i r_16) (As := [.int r_4]) (rest := []) ⟨hx, hb, hml, hown, hT⟩ (c_MO_isText l D cB cI aM aMst aMdcs aMtot aMfrm aMsiz aMffr aMfsz aMlkd aMlat aMkkd aMkat aModr aMgrp aMikd aMiat fu thr tpd frs frt top bgn mst ovr tgr lvs its hgh loo dfl st r_4 r_16 h_16) (cwV 1 hT (gV_of k_1289 k_1291 kp_MO_isText k_12 kc_MO_isText) rfl rfl rfl hd_MO_isText ⟨Nat.le_of_ble_eq_true rfl, Nat.le_of_ble_eq_true rfl⟩) hk hP (q0 := 0) rfl rfl rfl rfl hl.1 rfl (Nat.le_of_ble_eq_true rfl) d_MO_lookupFault_86 ⟨Nat.zero_le _, Nat.zero_le _⟩ ?_
        refine lv_if_eq (tgt := 122) hx hb d_MO_lookupFault_89 (by decide) (fun c_17 => ?_) (fun c_17 => ?_)
        · refine lv_iconst (v := 2) hx hb d_MO_lookupFault_122 (by decide) ?_
          exact W.iret (v := 2) hx hb hr (fun t ht hW => ⟨2, rfl, (op_eq hs (by rw [hV_12, if_neg c_13, h_14, ob1_mk, if_neg c_15, h_16, ob1_mk, if_pos c_17])), ht⟩) (fun _ h => by cases h) d_MO_lookupFault_123
        · refine lv_aload_n hx hb d_MO_lookupFault_92 rfl (lv_at hl 0 rfl) ?_
          refine lv_iload hx hb d_MO_lookupFault_93 (lv_at hl 3 rfl) ?_
          rcases h_18 : tw_MO_isText fu st r_5 with _ | r_18
          · exact op_no hs (by rw [hV_12, if_neg c_13, h_14, ob1_mk, if_neg c_15, h_16, ob1_mk, if_neg c_17, h_18, ob1_no])
          refine rd_V (val := b2i r_18) (As := [.int r_5]) (rest := []) ⟨hx, hb, hml, hown, hT⟩ (c_MO_isText l D cB cI aM aMst aMdcs aMtot aMfrm aMsiz aMffr aMfsz aMlkd aMlat aMkkd aMkat aModr aMgrp aMikd aMiat fu thr tpd frs frt top bgn mst ovr tgr lvs its hgh loo dfl st r_5 r_18 h_18) (cwV 1 hT (gV_of k_1289 k_1291 kp_MO_isText k_12 kc_MO_isText) rfl rfl rfl hd_MO_isText ⟨Nat.le_of_ble_eq_true rfl, Nat.le_of_ble_eq_true rfl⟩) hk hP (q0 := 0) rfl rfl rfl rfl hl.1 rfl (Nat.le_of_ble_eq_true rfl) d_MO_lookupFault_95 ⟨Nat.zero_le _, Nat.zero_le _⟩ ?_
          refine lv_if_eq (tgt := 122) hx hb d_MO_lookupFault_98 (by decide) (fun c_19 => ?_) (fun c_19 => ?_)
          · refine lv_iconst (v := 2) hx hb d_MO_lookupFault_122 (by decide) ?_
            exact W.iret (v := 2) hx hb hr (fun t ht hW => ⟨2, rfl, (op_eq hs (by rw [hV_12, if_neg c_13, h_14, ob1_mk, if_neg c_15, h_16, ob1_mk, if_neg c_17, h_18, ob1_mk, if_pos c_19])), ht⟩) (fun _ h => by cases h) d_MO_lookupFault_123
          · refine lv_aload_n hx hb d_MO_lookupFault_101 rfl (lv_at hl 0 rfl) ?_
            refine lv_aload_n hx hb d_MO_lookupFault_102 rfl (lv_at hl 0 rfl) ?_
            refine lv_iload hx hb d_MO_lookupFault_103 (lv_at hl 3 rfl) ?_
            rcases h_20 : tw_MO_valueOf fu st r_5 with _ | r_20
            · exact op_no hs (by rw [hV_12, if_neg c_13, h_14, ob1_mk, if_neg c_15, h_16, ob1_mk, if_neg c_17, h_18, ob1_mk, if_neg c_19, h_20, ob1_no])
            refine rd_V (val := r_20) (As := [.int r_5]) (rest := [.ref aM]) ⟨hx, hb, hml, hown, hT⟩ (c_MO_valueOf l D cB cI aM aMst aMdcs aMtot aMfrm aMsiz aMffr aMfsz aMlkd aMlat aMkkd aMkat aModr aMgrp aMikd aMiat fu thr tpd frs frt top bgn mst ovr tgr lvs its hgh loo dfl st r_5 r_20 h_20) (cwV 1 hT (gV_of k_1182 k_1184 kp_MO_valueOf k_12 kc_MO_valueOf) rfl rfl rfl hd_MO_valueOf ⟨Nat.le_of_ble_eq_true rfl, Nat.le_of_ble_eq_true rfl⟩) hk hP (q0 := 0) rfl rfl rfl rfl hl.1 rfl (Nat.le_of_ble_eq_true rfl) d_MO_lookupFault_105 ⟨Nat.zero_le _, Nat.zero_le _⟩ ?_
            refine lv_iconst (v := 4) hx hb d_MO_lookupFault_108 (by decide) ?_
            refine lv_iadd hx hb d_MO_lookupFault_109 ?_
            refine lv_aload_n hx hb d_MO_lookupFault_110 rfl (lv_at hl 0 rfl) ?_
            refine lv_iload hx hb d_MO_lookupFault_111 (lv_at hl 3 rfl) ?_
            rcases h_21 : tw_MO_textSize fu st r_5 with _ | r_21
            · exact op_no hs (by rw [hV_12, if_neg c_13, h_14, ob1_mk, if_neg c_15, h_16, ob1_mk, if_neg c_17, h_18, ob1_mk, if_neg c_19, h_20, ob1_mk, h_21, ob1_no])
            refine rd_V (val := r_21) (As := [.int r_5]) (rest := [.int (r_20 + 4), .ref aM]) ⟨hx, hb, hml, hown, hT⟩ (c_MO_textSize l D cB cI aM aMst aMdcs aMtot aMfrm aMsiz aMffr aMfsz aMlkd aMlat aMkkd aMkat aModr aMgrp aMikd aMiat fu thr tpd frs frt top bgn mst ovr tgr lvs its hgh loo dfl st r_5 r_21 h_21) (cwV 1 hT (gV_of k_1293 k_1295 kp_MO_textSize k_12 kc_MO_textSize) rfl rfl rfl hd_MO_textSize ⟨Nat.le_of_ble_eq_true rfl, Nat.le_of_ble_eq_true rfl⟩) hk hP (q0 := 0) rfl rfl rfl rfl hl.1 rfl (Nat.le_of_ble_eq_true rfl) d_MO_lookupFault_113 ⟨Nat.zero_le _, Nat.zero_le _⟩ ?_
            rcases h_22 : tw_MO_isPlain fu st (r_20 + 4) r_21 with _ | r_22
            · exact op_no hs (by rw [hV_12, if_neg c_13, h_14, ob1_mk, if_neg c_15, h_16, ob1_mk, if_neg c_17, h_18, ob1_mk, if_neg c_19, h_20, ob1_mk, h_21, ob1_mk, h_22, ob1_no])
            refine rd_V (val := b2i r_22) (As := [.int (r_20 + 4), .int r_21]) (rest := []) ⟨hx, hb, hml, hown, hT⟩ (c_MO_isPlain l D cB cI aM aMst aMdcs aMtot aMfrm aMsiz aMffr aMfsz aMlkd aMlat aMkkd aMkat aModr aMgrp aMikd aMiat fu thr tpd frs frt top bgn mst ovr tgr lvs its hgh loo dfl st (r_20 + 4) r_21 r_22 h_22) (cwV 2 hT (gV_of k_1236 k_1238 kp_MO_isPlain k_12 kc_MO_isPlain) rfl rfl rfl hd_MO_isPlain ⟨Nat.le_of_ble_eq_true rfl, Nat.le_of_ble_eq_true rfl⟩) hk hP (q0 := 0) rfl rfl rfl rfl hl.1 rfl (Nat.le_of_ble_eq_true rfl) d_MO_lookupFault_116 ⟨Nat.zero_le _, Nat.zero_le _⟩ ?_
            refine lv_if_ne (tgt := 124) hx hb d_MO_lookupFault_119 (by decide) (fun c_23 => ?_) (fun c_23 => ?_)
            · refine lv_aload_n hx hb d_MO_lookupFault_124 rfl (lv_at hl 0 rfl) ?_
              refine lv_aload_n hx hb d_MO_lookupFault_125 rfl (lv_at hl 0 rfl) ?_
              refine lv_iload_n hx hb d_MO_lookupFault_126 rfl (lv_at hl 1 rfl) ?_
              rcases h_24 : tw_MO_valueOf fu st r_3 with _ | r_24
              · exact op_no hs (by rw [hV_12, if_neg c_13, h_14, ob1_mk, if_neg c_15, h_16, ob1_mk, if_neg c_17, h_18, ob1_mk, if_neg c_19, h_20, ob1_mk, h_21, ob1_mk, h_22, ob1_mk, if_neg c_23, h_24, ob1_no])
              refine rd_V (val := r_24) (As := [.int r_3]) (rest := [.ref aM]) ⟨hx, hb, hml, hown, hT⟩ (c_MO_valueOf l D cB cI aM aMst aMdcs aMtot aMfrm aMsiz aMffr aMfsz aMlkd aMlat aMkkd aMkat aModr aMgrp aMikd aMiat fu thr tpd frs frt top bgn mst ovr tgr lvs its hgh loo dfl st r_3 r_24 h_24) (cwV 1 hT (gV_of k_1182 k_1184 kp_MO_valueOf k_12 kc_MO_valueOf) rfl rfl rfl hd_MO_valueOf ⟨Nat.le_of_ble_eq_true rfl, Nat.le_of_ble_eq_true rfl⟩) hk hP (q0 := 0) rfl rfl rfl rfl hl.1 rfl (Nat.le_of_ble_eq_true rfl) d_MO_lookupFault_127 ⟨Nat.zero_le _, Nat.zero_le _⟩ ?_
              refine lv_iconst (v := 4) hx hb d_MO_lookupFault_130 (by decide) ?_
              refine lv_iadd hx hb d_MO_lookupFault_131 ?_
              refine lv_aload_n hx hb d_MO_lookupFault_132 rfl (lv_at hl 0 rfl) ?_
              refine lv_iload_n hx hb d_MO_lookupFault_133 rfl (lv_at hl 1 rfl) ?_
              rcases h_25 : tw_MO_textSize fu st r_3 with _ | r_25
              · exact op_no hs (by rw [hV_12, if_neg c_13, h_14, ob1_mk, if_neg c_15, h_16, ob1_mk, if_neg c_17, h_18, ob1_mk, if_neg c_19, h_20, ob1_mk, h_21, ob1_mk, h_22, ob1_mk, if_neg c_23, h_24, ob1_mk, h_25, ob1_no])
              refine rd_V (val := r_25) (As := [.int r_3]) (rest := [.int (r_24 + 4), .ref aM]) ⟨hx, hb, hml, hown, hT⟩ (c_MO_textSize l D cB cI aM aMst aMdcs aMtot aMfrm aMsiz aMffr aMfsz aMlkd aMlat aMkkd aMkat aModr aMgrp aMikd aMiat fu thr tpd frs frt top bgn mst ovr tgr lvs its hgh loo dfl st r_3 r_25 h_25) (cwV 1 hT (gV_of k_1293 k_1295 kp_MO_textSize k_12 kc_MO_textSize) rfl rfl rfl hd_MO_textSize ⟨Nat.le_of_ble_eq_true rfl, Nat.le_of_ble_eq_true rfl⟩) hk hP (q0 := 0) rfl rfl rfl rfl hl.1 rfl (Nat.le_of_ble_eq_true rfl) d_MO_lookupFault_134 ⟨Nat.zero_le _, Nat.zero_le _⟩ ?_
              rcases h_26 : tw_MO_isPath fu st (r_24 + 4) r_25 with _ | r_26
              · exact op_no hs (by rw [hV_12, if_neg c_13, h_14, ob1_mk, if_neg c_15, h_16, ob1_mk, if_neg c_17, h_18, ob1_mk, if_neg c_19, h_20, ob1_mk, h_21, ob1_mk, h_22, ob1_mk, if_neg c_23, h_24, ob1_mk, h_25, ob1_mk, h_26, ob1_no])
              refine rd_V (val := b2i r_26) (As := [.int (r_24 + 4), .int r_25]) (rest := []) ⟨hx, hb, hml, hown, hT⟩ (c_MO_isPath l D cB cI aM aMst aMdcs aMtot aMfrm aMsiz aMffr aMfsz aMlkd aMlat aMkkd aMkat aModr aMgrp aMikd aMiat fu thr tpd frs frt top bgn mst ovr tgr lvs its hgh loo dfl st (r_24 + 4) r_25 r_26 h_26) (cwV 2 hT (gV_of k_1248 k_1250 kp_MO_isPath k_12 kc_MO_isPath) rfl rfl rfl hd_MO_isPath ⟨Nat.le_of_ble_eq_true rfl, Nat.le_of_ble_eq_true rfl⟩) hk hP (q0 := 0) rfl rfl rfl rfl hl.1 rfl (Nat.le_of_ble_eq_true rfl) d_MO_lookupFault_137 ⟨Nat.zero_le _, Nat.zero_le _⟩ ?_
              refine lv_if_eq (tgt := 166) hx hb d_MO_lookupFault_140 (by decide) (fun c_27 => ?_) (fun c_27 => ?_)
              · refine lv_iconst (v := 3) hx hb d_MO_lookupFault_166 (by decide) ?_
                exact W.iret (v := 3) hx hb hr (fun t ht hW => ⟨3, rfl, (op_eq hs (by rw [hV_12, if_neg c_13, h_14, ob1_mk, if_neg c_15, h_16, ob1_mk, if_neg c_17, h_18, ob1_mk, if_neg c_19, h_20, ob1_mk, h_21, ob1_mk, h_22, ob1_mk, if_neg c_23, h_24, ob1_mk, h_25, ob1_mk, h_26, ob1_mk, if_pos c_27])), ht⟩) (fun _ h => by cases h) d_MO_lookupFault_167
              · refine lv_aload_n hx hb d_MO_lookupFault_143 rfl (lv_at hl 0 rfl) ?_
                refine lv_aload_n hx hb d_MO_lookupFault_144 rfl (lv_at hl 0 rfl) ?_
                refine lv_iload_n hx hb d_MO_lookupFault_145 rfl (lv_at hl 2 rfl) ?_
                rcases h_28 : tw_MO_valueOf fu st r_4 with _ | r_28
                · exact op_no hs (by rw [hV_12, if_neg c_13, h_14, ob1_mk, if_neg c_15, h_16, ob1_mk, if_neg c_17, h_18, ob1_mk, if_neg c_19, h_20, ob1_mk, h_21, ob1_mk, h_22, ob1_mk, if_neg c_23, h_24, ob1_mk, h_25, ob1_mk, h_26, ob1_mk, if_neg c_27, h_28, ob1_no])
                refine rd_V (val := r_28) (As := [.int r_4]) (rest := [.ref aM]) ⟨hx, hb, hml, hown, hT⟩ (c_MO_valueOf l D cB cI aM aMst aMdcs aMtot aMfrm aMsiz aMffr aMfsz aMlkd aMlat aMkkd aMkat aModr aMgrp aMikd aMiat fu thr tpd frs frt top bgn mst ovr tgr lvs its hgh loo dfl st r_4 r_28 h_28) (cwV 1 hT (gV_of k_1182 k_1184 kp_MO_valueOf k_12 kc_MO_valueOf) rfl rfl rfl hd_MO_valueOf ⟨Nat.le_of_ble_eq_true rfl, Nat.le_of_ble_eq_true rfl⟩) hk hP (q0 := 0) rfl rfl rfl rfl hl.1 rfl (Nat.le_of_ble_eq_true rfl) d_MO_lookupFault_146 ⟨Nat.zero_le _, Nat.zero_le _⟩ ?_
                refine lv_iconst (v := 4) hx hb d_MO_lookupFault_149 (by decide) ?_
                refine lv_iadd hx hb d_MO_lookupFault_150 ?_
                refine lv_aload_n hx hb d_MO_lookupFault_151 rfl (lv_at hl 0 rfl) ?_
                refine lv_iload_n hx hb d_MO_lookupFault_152 rfl (lv_at hl 2 rfl) ?_
                rcases h_29 : tw_MO_textSize fu st r_4 with _ | r_29
                · exact op_no hs (by rw [hV_12, if_neg c_13, h_14, ob1_mk, if_neg c_15, h_16, ob1_mk, if_neg c_17, h_18, ob1_mk, if_neg c_19, h_20, ob1_mk, h_21, ob1_mk, h_22, ob1_mk, if_neg c_23, h_24, ob1_mk, h_25, ob1_mk, h_26, ob1_mk, if_neg c_27, h_28, ob1_mk, h_29, ob1_no])
                refine rd_V (val := r_29) (As := [.int r_4]) (rest := [.int (r_28 + 4), .ref aM]) ⟨hx, hb, hml, hown, hT⟩ (c_MO_textSize l D cB cI aM aMst aMdcs aMtot aMfrm aMsiz aMffr aMfsz aMlkd aMlat aMkkd aMkat aModr aMgrp aMikd aMiat fu thr tpd frs frt top bgn mst ovr tgr lvs its hgh loo dfl st r_4 r_29 h_29) (cwV 1 hT (gV_of k_1293 k_1295 kp_MO_textSize k_12 kc_MO_textSize) rfl rfl rfl hd_MO_textSize ⟨Nat.le_of_ble_eq_true rfl, Nat.le_of_ble_eq_true rfl⟩) hk hP (q0 := 0) rfl rfl rfl rfl hl.1 rfl (Nat.le_of_ble_eq_true rfl) d_MO_lookupFault_153 ⟨Nat.zero_le _, Nat.zero_le _⟩ ?_
                rcases h_30 : tw_MO_isPath fu st (r_28 + 4) r_29 with _ | r_30
                · exact op_no hs (by rw [hV_12, if_neg c_13, h_14, ob1_mk, if_neg c_15, h_16, ob1_mk, if_neg c_17, h_18, ob1_mk, if_neg c_19, h_20, ob1_mk, h_21, ob1_mk, h_22, ob1_mk, if_neg c_23, h_24, ob1_mk, h_25, ob1_mk, h_26, ob1_mk, if_neg c_27, h_28, ob1_mk, h_29, ob1_mk, h_30, ob1_no])
                refine rd_V (val := b2i r_30) (As := [.int (r_28 + 4), .int r_29]) (rest := []) ⟨hx, hb, hml, hown, hT⟩ (c_MO_isPath l D cB cI aM aMst aMdcs aMtot aMfrm aMsiz aMffr aMfsz aMlkd aMlat aMkkd aMkat aModr aMgrp aMikd aMiat fu thr tpd frs frt top bgn mst ovr tgr lvs its hgh loo dfl st (r_28 + 4) r_29 r_30 h_30) (cwV 2 hT (gV_of k_1248 k_1250 kp_MO_isPath k_12 kc_MO_isPath) rfl rfl rfl hd_MO_isPath ⟨Nat.le_of_ble_eq_true rfl, Nat.le_of_ble_eq_true rfl⟩) hk hP (q0 := 0) rfl rfl rfl rfl hl.1 rfl (Nat.le_of_ble_eq_true rfl) d_MO_lookupFault_156 ⟨Nat.zero_le _, Nat.zero_le _⟩ ?_
                refine lv_if_eq (tgt := 166) hx hb d_MO_lookupFault_159 (by decide) (fun c_31 => ?_) (fun c_31 => ?_)
                · refine lv_iconst (v := 3) hx hb d_MO_lookupFault_166 (by decide) ?_
                  exact W.iret (v := 3) hx hb hr (fun t ht hW => ⟨3, rfl, (op_eq hs (by rw [hV_12, if_neg c_13, h_14, ob1_mk, if_neg c_15, h_16, ob1_mk, if_neg c_17, h_18, ob1_mk, if_neg c_19, h_20, ob1_mk, h_21, ob1_mk, h_22, ob1_mk, if_neg c_23, h_24, ob1_mk, h_25, ob1_mk, h_26, ob1_mk, if_neg c_27, h_28, ob1_mk, h_29, ob1_mk, h_30, ob1_mk, if_pos c_31])), ht⟩) (fun _ h => by cases h) d_MO_lookupFault_167
                · refine lv_iconst (v := 0) hx hb d_MO_lookupFault_162 (by decide) ?_
                  refine lv_goto (tgt := 167) hx hb d_MO_lookupFault_163 (by decide) ?_
                  exact W.iret (v := 0) hx hb hr (fun t ht hW => ⟨0, rfl, (op_eq hs (by rw [hV_12, if_neg c_13, h_14, ob1_mk, if_neg c_15, h_16, ob1_mk, if_neg c_17, h_18, ob1_mk, if_neg c_19, h_20, ob1_mk, h_21, ob1_mk, h_22, ob1_mk, if_neg c_23, h_24, ob1_mk, h_25, ob1_mk, h_26, ob1_mk, if_neg c_27, h_28, ob1_mk, h_29, ob1_mk, h_30, ob1_mk, if_neg c_31])), ht⟩) (fun _ h => by cases h) d_MO_lookupFault_167
            · refine lv_iconst (v := 2) hx hb d_MO_lookupFault_122 (by decide) ?_
              exact W.iret (v := 2) hx hb hr (fun t ht hW => ⟨2, rfl, (op_eq hs (by rw [hV_12, if_neg c_13, h_14, ob1_mk, if_neg c_15, h_16, ob1_mk, if_neg c_17, h_18, ob1_mk, if_neg c_19, h_20, ob1_mk, h_21, ob1_mk, h_22, ob1_mk, if_pos c_23])), ht⟩) (fun _ h => by cases h) d_MO_lookupFault_123
  · refine lv_iconst (v := 2) hx hb d_MO_lookupFault_9 (by decide) ?_
    exact W.iret (v := 2) hx hb hr (fun t ht hW => ⟨2, rfl, (op_eq hs (by rw [tw_MO_lookupFault, h_1, ob1_mk, if_neg c_2])), ht⟩) (fun _ h => by cases h) d_MO_lookupFault_10
set_option maxHeartbeats 4000000 in
set_option maxRecDepth 100000 in
theorem c_MO_stageFault (l : Launch) (D : va_G) (cB cI : ClassId) (aM aMst aMdcs aMtot aMfrm aMsiz aMffr aMfsz aMlkd aMlat aMkkd aMkat aModr aMgrp aMikd aMiat : Nat) (fu : Nat) (thr : Int32) (tpd : Int32) (frs : Int32) (frt : Int32) (top : Int32) (bgn : Int32) (mst : Int32) (ovr : Bool) (tgr : Bool) (lvs : Int32) (its : Int32) (hgh : Int64) (loo : Int64) (dfl : Bool) (st : Nat → Int32) (p0 : Int32) (V0 : Int32) (hs : tw_MO_stageFault fu st p0 = some V0) : Met l y_MO_stageFault mw_MO_stageFault { frames := 5, cells := 0, slots := 0, locals := 114 } (va_Pc [.ref aM, .int p0] (fun U => va_P D vwCl [(aM, .inr (11, [.int thr, .ref aMst, .int tpd, .ref aMdcs, .ref aMtot, .ref aMfrm, .ref aMsiz, .int frs, .int frt, .ref aMffr, .ref aMfsz, .int top, .int bgn, .int mst, .int (b2i ovr), .int (b2i tgr), .int lvs, .ref aMlkd, .ref aMlat, .ref aMkkd, .ref aMkat, .ref aModr, .ref aMgrp, .int its, .ref aMikd, .ref aMiat, .long hgh, .long loo, .int (b2i dfl)])), (aMst, .inl (cI, 136400, .inl st))] U.heap ∧ hk_ D cB cI U)) (vp_Si (fun r => r = V0)) 0 0 (fun _ => False) := by
  refine Met.ofW (cc := b_MO_stageFault) (maxL := 4) (ret := (some .int)) (by decide) rfl ?_
  intro p e s m args below meth c s₁ B0 hml hv
  obtain ⟨rfl, hP, hk⟩ := hv
  have hK := hk.1
  have hN := hk.2.1
  have hx := B0.exec
  have hb := B0.bytes
  have hr := B0.returns
  have hT : ∀ w ∈ lw_g, w.before _ s = true := fun w h => atoms_spec (ws := mw_MO_stageFault) B0.pre w (List.mem_cons_of_mem _ h)
  have hown : s.vm.findClass R_MO = some m.cls := findClass_of_methodNamed B0.named
  have hlocks := B0.notSynchronized
  have hl := lv_entry ([.ref aM, .int p0]) (n := 4) (Nat.le_of_ble_eq_true rfl)
  rw [lg_entry_eq]
  generalize (lg_sl ([.ref aM, .int p0]) ++ List.replicate (4 - (lg_sl ([.ref aM, .int p0])).length) Slot.unset).toArray = ls at hl ⊢
  have hl : lv_has ls 4 [(0, .ref aM), (1, .int p0)] := hl
  refine lv_aload_n hx hb d_MO_stageFault_0 rfl (lv_at hl 0 rfl) ?_
  refine lv_iload_n hx hb d_MO_stageFault_1 rfl (lv_at hl 1 rfl) ?_
  rcases h_1 : tw_MO_stageOf fu st p0 with _ | r_1
  · exact op_no hs (by rw [tw_MO_stageFault, h_1, ob1_no])
  refine rd_V (val := r_1) (As := [.int p0]) (rest := []) ⟨hx, hb, hml, hown, hT⟩ (c_MO_stageOf l D cB cI aM aMst aMdcs aMtot aMfrm aMsiz aMffr aMfsz aMlkd aMlat aMkkd aMkat aModr aMgrp aMikd aMiat fu thr tpd frs frt top bgn mst ovr tgr lvs its hgh loo dfl st p0 r_1 h_1) (cwV 1 hT (gV_of k_1212 k_1214 kp_MO_stageOf k_12 kc_MO_stageOf) rfl rfl rfl hd_MO_stageOf ⟨Nat.le_of_ble_eq_true rfl, Nat.le_of_ble_eq_true rfl⟩) hk hP (q0 := 0) rfl rfl rfl rfl hl.1 rfl (Nat.le_of_ble_eq_true rfl) d_MO_stageFault_2 ⟨Nat.zero_le _, Nat.zero_le _⟩ ?_
  refine lv_istore_n (lv' := [(2, .int r_1), (0, .ref aM), (1, .int p0)]) hx hb d_MO_stageFault_5 rfl hl (by decide) rfl (fun ls hl => ?_)
  refine lv_iload_n hx hb d_MO_stageFault_6 rfl (lv_at hl 0 rfl) ?_
  refine lv_if_ne (tgt := 12) hx hb d_MO_stageFault_7 (by decide) (fun c_2 => ?_) (fun c_2 => ?_)
  · refine lv_aload_n hx hb d_MO_stageFault_12 rfl (lv_at hl 1 rfl) ?_
    refine lv_iload_n hx hb d_MO_stageFault_13 rfl (lv_at hl 2 rfl) ?_
    rcases h_3 : tw_MO_valueOf fu st p0 with _ | r_3
    · exact op_no hs (by rw [tw_MO_stageFault, h_1, ob1_mk, if_neg c_2, h_3, ob1_no])
    refine rd_V (val := r_3) (As := [.int p0]) (rest := []) ⟨hx, hb, hml, hown, hT⟩ (c_MO_valueOf l D cB cI aM aMst aMdcs aMtot aMfrm aMsiz aMffr aMfsz aMlkd aMlat aMkkd aMkat aModr aMgrp aMikd aMiat fu thr tpd frs frt top bgn mst ovr tgr lvs its hgh loo dfl st p0 r_3 h_3) (cwV 1 hT (gV_of k_1182 k_1184 kp_MO_valueOf k_12 kc_MO_valueOf) rfl rfl rfl hd_MO_valueOf ⟨Nat.le_of_ble_eq_true rfl, Nat.le_of_ble_eq_true rfl⟩) hk hP (q0 := 0) rfl rfl rfl rfl hl.1 rfl (Nat.le_of_ble_eq_true rfl) d_MO_stageFault_14 ⟨Nat.zero_le _, Nat.zero_le _⟩ ?_
    refine lv_istore_n (lv' := [(3, .int r_3), (2, .int r_1), (0, .ref aM), (1, .int p0)]) hx hb d_MO_stageFault_17 rfl hl (by decide) rfl (fun ls hl => ?_)
    refine lv_iload_n hx hb d_MO_stageFault_18 rfl (lv_at hl 1 rfl) ?_
    by_cases c_4 : r_1 = 1
    · refine sw_T (tgt := 60) hx hb d_MO_stageFault_19 (Or.inr ⟨by rw [c_4]; decide, by rw [c_4]; decide, 41, by rw [c_4]; rfl, by decide⟩) ?_
      refine lv_aload_n hx hb d_MO_stageFault_60 rfl (lv_at hl 2 rfl) ?_
      refine va_get (D := D) (ci := 11) (v := .ref aMst) (C := R_MO) (T := T_MO) (N := 29) hx hb hT u_MO hown hK hP 0 rfl rfl 1 (by decide) (hT _ k_1044) (fun _ h9 => h9) rfl d_MO_stageFault_61 ?_
      refine lv_iload_n hx hb d_MO_stageFault_64 rfl (lv_at hl 3 rfl) ?_
      by_cases c_5 : 0 ≤ p0 ∧ p0 < 136400
      rotate_left
      · exact op_no hs (by rw [tw_MO_stageFault, h_1, ob1_mk, if_neg c_2, h_3, ob1_mk, if_pos c_4, if_neg c_5])
      refine va_iald hx hb hK hP 1 1 rfl rfl (in_pp c_5.1 c_5.2 rfl) d_MO_stageFault_65 ?_
      refine lv_iconst (v := 3) hx hb d_MO_stageFault_66 (by decide) ?_
      refine lv_icmp_eq (tgt := 74) hx hb d_MO_stageFault_67 (by decide) (fun c_6 => ?_) (fun c_6 => ?_)
      · refine lv_aload_n hx hb d_MO_stageFault_74 rfl (lv_at hl 2 rfl) ?_
        refine lv_iload_n hx hb d_MO_stageFault_75 rfl (lv_at hl 0 rfl) ?_
        rcases h_7 : tw_MO_projectFault fu st r_3 with _ | r_7
        · exact op_no hs (by rw [tw_MO_stageFault, h_1, ob1_mk, if_neg c_2, h_3, ob1_mk, if_pos c_4, if_pos c_5, if_pos c_6, h_7, ob1_no])
        refine rd_V (val := r_7) (As := [.int r_3]) (rest := []) ⟨hx, hb, hml, hown, hT⟩ (c_MO_projectFault l D cB cI aM aMst aMdcs aMtot aMfrm aMsiz aMffr aMfsz aMlkd aMlat aMkkd aMkat aModr aMgrp aMikd aMiat fu thr tpd frs frt top bgn mst ovr tgr lvs its hgh loo dfl st r_3 r_7 h_7) (cwV 1 hT (gV_of k_1228 k_1230 kp_MO_projectFault k_12 kc_MO_projectFault) rfl rfl rfl hd_MO_projectFault ⟨Nat.le_of_ble_eq_true rfl, Nat.le_of_ble_eq_true rfl⟩) hk hP (q0 := 0) rfl rfl rfl rfl hl.1 rfl (Nat.le_of_ble_eq_true rfl) d_MO_stageFault_76 ⟨Nat.zero_le _, Nat.zero_le _⟩ ?_
        exact W.iret (v := r_7) hx hb hr (fun t ht hW => ⟨r_7, rfl, (op_eq hs (by rw [tw_MO_stageFault, h_1, ob1_mk, if_neg c_2, h_3, ob1_mk, if_pos c_4, if_pos c_5, if_pos c_6, h_7, ob1_mk])), ht⟩) (fun _ h => by cases h) d_MO_stageFault_79
      · refine lv_iconst (v := 2) hx hb d_MO_stageFault_70 (by decide) ?_
        refine lv_goto (tgt := 79) hx hb d_MO_stageFault_71 (by decide) ?_
        exact W.iret (v := 2) hx hb hr (fun t ht hW => ⟨2, rfl, (op_eq hs (by rw [tw_MO_stageFault, h_1, ob1_mk, if_neg c_2, h_3, ob1_mk, if_pos c_4, if_pos c_5, if_neg c_6])), ht⟩) (fun _ h => by cases h) d_MO_stageFault_79
    by_cases c_8 : r_1 = 2
    · refine sw_T (tgt := 80) hx hb d_MO_stageFault_19 (Or.inr ⟨by rw [c_8]; decide, by rw [c_8]; decide, 61, by rw [c_8]; rfl, by decide⟩) ?_
      refine lv_aload_n hx hb d_MO_stageFault_80 rfl (lv_at hl 2 rfl) ?_
      refine lv_iload_n hx hb d_MO_stageFault_81 rfl (lv_at hl 3 rfl) ?_
      rcases h_9 : tw_MO_isExpressionPath fu st p0 with _ | r_9
      · exact op_no hs (by rw [tw_MO_stageFault, h_1, ob1_mk, if_neg c_2, h_3, ob1_mk, if_neg c_4, if_pos c_8, h_9, ob1_no])
      refine rd_V (val := b2i r_9) (As := [.int p0]) (rest := []) ⟨hx, hb, hml, hown, hT⟩ (c_MO_isExpressionPath l D cB cI aM aMst aMdcs aMtot aMfrm aMsiz aMffr aMfsz aMlkd aMlat aMkkd aMkat aModr aMgrp aMikd aMiat fu thr tpd frs frt top bgn mst ovr tgr lvs its hgh loo dfl st p0 r_9 h_9) (cwV 1 hT (gV_of k_1244 k_1246 kp_MO_isExpressionPath k_12 kc_MO_isExpressionPath) rfl rfl rfl hd_MO_isExpressionPath ⟨Nat.le_of_ble_eq_true rfl, Nat.le_of_ble_eq_true rfl⟩) hk hP (q0 := 0) rfl rfl rfl rfl hl.1 rfl (Nat.le_of_ble_eq_true rfl) d_MO_stageFault_82 ⟨Nat.zero_le _, Nat.zero_le _⟩ ?_
      refine lv_if_ne (tgt := 92) hx hb d_MO_stageFault_85 (by decide) (fun c_10 => ?_) (fun c_10 => ?_)
      · refine lv_aload_n hx hb d_MO_stageFault_92 rfl (lv_at hl 2 rfl) ?_
        refine lv_iload_n hx hb d_MO_stageFault_93 rfl (lv_at hl 3 rfl) ?_
        rcases h_11 : tw_MO_expressionFault fu st p0 with _ | r_11
        · exact op_no hs (by rw [tw_MO_stageFault, h_1, ob1_mk, if_neg c_2, h_3, ob1_mk, if_neg c_4, if_pos c_8, h_9, ob1_mk, if_neg c_10, h_11, ob1_no])
        refine rd_V (val := r_11) (As := [.int p0]) (rest := []) ⟨hx, hb, hml, hown, hT⟩ (c_MO_expressionFault l D cB cI aM aMst aMdcs aMtot aMfrm aMsiz aMffr aMfsz aMlkd aMlat aMkkd aMkat aModr aMgrp aMikd aMiat fu thr tpd frs frt top bgn mst ovr tgr lvs its hgh loo dfl st p0 r_11 h_11) (cwV 1 hT (gV_of k_1240 k_1242 kp_MO_expressionFault k_12 kc_MO_expressionFault) rfl rfl rfl hd_MO_expressionFault ⟨Nat.le_of_ble_eq_true rfl, Nat.le_of_ble_eq_true rfl⟩) hk hP (q0 := 0) rfl rfl rfl rfl hl.1 rfl (Nat.le_of_ble_eq_true rfl) d_MO_stageFault_94 ⟨Nat.zero_le _, Nat.zero_le _⟩ ?_
        exact W.iret (v := r_11) hx hb hr (fun t ht hW => ⟨r_11, rfl, (op_eq hs (by rw [tw_MO_stageFault, h_1, ob1_mk, if_neg c_2, h_3, ob1_mk, if_neg c_4, if_pos c_8, h_9, ob1_mk, if_neg c_10, h_11, ob1_mk])), ht⟩) (fun _ h => by cases h) d_MO_stageFault_97
      · refine lv_iconst (v := 2) hx hb d_MO_stageFault_88 (by decide) ?_
        refine lv_goto (tgt := 97) hx hb d_MO_stageFault_89 (by decide) ?_
        exact W.iret (v := 2) hx hb hr (fun t ht hW => ⟨2, rfl, (op_eq hs (by rw [tw_MO_stageFault, h_1, ob1_mk, if_neg c_2, h_3, ob1_mk, if_neg c_4, if_pos c_8, h_9, ob1_mk, if_pos c_10])), ht⟩) (fun _ h => by cases h) d_MO_stageFault_97
    by_cases c_12 : r_1 = 3
    · refine sw_T (tgt := 98) hx hb d_MO_stageFault_19 (Or.inr ⟨by rw [c_12]; decide, by rw [c_12]; decide, 79, by rw [c_12]; rfl, by decide⟩) ?_
      refine lv_aload_n hx hb d_MO_stageFault_98 rfl (lv_at hl 2 rfl) ?_
      refine va_get (D := D) (ci := 11) (v := .ref aMst) (C := R_MO) (T := T_MO) (N := 29) hx hb hT u_MO hown hK hP 0 rfl rfl 1 (by decide) (hT _ k_1044) (fun _ h9 => h9) rfl d_MO_stageFault_99 ?_
      refine lv_iload_n hx hb d_MO_stageFault_102 rfl (lv_at hl 3 rfl) ?_
      by_cases c_13 : 0 ≤ p0 ∧ p0 < 136400
      rotate_left
      · exact op_no hs (by rw [tw_MO_stageFault, h_1, ob1_mk, if_neg c_2, h_3, ob1_mk, if_neg c_4, if_neg c_8, if_pos c_12, if_neg c_13])
      refine va_iald hx hb hK hP 1 1 rfl rfl (in_pp c_13.1 c_13.2 rfl) d_MO_stageFault_103 ?_
      refine lv_iconst (v := 3) hx hb d_MO_stageFault_104 (by decide) ?_
      refine lv_icmp_eq (tgt := 112) hx hb d_MO_stageFault_105 (by decide) (fun c_14 => ?_) (fun c_14 => ?_)
      · refine lv_aload_n hx hb d_MO_stageFault_112 rfl (lv_at hl 2 rfl) ?_
        refine lv_iload_n hx hb d_MO_stageFault_113 rfl (lv_at hl 0 rfl) ?_
        rcases h_15 : tw_MO_groupFault fu st r_3 with _ | r_15
        · exact op_no hs (by rw [tw_MO_stageFault, h_1, ob1_mk, if_neg c_2, h_3, ob1_mk, if_neg c_4, if_neg c_8, if_pos c_12, if_pos c_13, if_pos c_14, h_15, ob1_no])
        refine rd_V (val := r_15) (As := [.int r_3]) (rest := []) ⟨hx, hb, hml, hown, hT⟩ (c_MO_groupFault l D cB cI aM aMst aMdcs aMtot aMfrm aMsiz aMffr aMfsz aMlkd aMlat aMkkd aMkat aModr aMgrp aMikd aMiat fu thr tpd frs frt top bgn mst ovr tgr lvs its hgh loo dfl st r_3 r_15 h_15) (cwV 1 hT (gV_of k_1252 k_1254 kp_MO_groupFault k_12 kc_MO_groupFault) rfl rfl rfl hd_MO_groupFault ⟨Nat.le_of_ble_eq_true rfl, Nat.le_of_ble_eq_true rfl⟩) hk hP (q0 := 0) rfl rfl rfl rfl hl.1 rfl (Nat.le_of_ble_eq_true rfl) d_MO_stageFault_114 ⟨Nat.zero_le _, Nat.zero_le _⟩ ?_
        exact W.iret (v := r_15) hx hb hr (fun t ht hW => ⟨r_15, rfl, (op_eq hs (by rw [tw_MO_stageFault, h_1, ob1_mk, if_neg c_2, h_3, ob1_mk, if_neg c_4, if_neg c_8, if_pos c_12, if_pos c_13, if_pos c_14, h_15, ob1_mk])), ht⟩) (fun _ h => by cases h) d_MO_stageFault_117
      · refine lv_iconst (v := 2) hx hb d_MO_stageFault_108 (by decide) ?_
        refine lv_goto (tgt := 117) hx hb d_MO_stageFault_109 (by decide) ?_
        exact W.iret (v := 2) hx hb hr (fun t ht hW => ⟨2, rfl, (op_eq hs (by rw [tw_MO_stageFault, h_1, ob1_mk, if_neg c_2, h_3, ob1_mk, if_neg c_4, if_neg c_8, if_pos c_12, if_pos c_13, if_neg c_14])), ht⟩) (fun _ h => by cases h) d_MO_stageFault_117
    by_cases c_16 : r_1 = 4
    · refine sw_T (tgt := 118) hx hb d_MO_stageFault_19 (Or.inr ⟨by rw [c_16]; decide, by rw [c_16]; decide, 99, by rw [c_16]; rfl, by decide⟩) ?_
      refine lv_aload_n hx hb d_MO_stageFault_118 rfl (lv_at hl 2 rfl) ?_
      refine va_get (D := D) (ci := 11) (v := .ref aMst) (C := R_MO) (T := T_MO) (N := 29) hx hb hT u_MO hown hK hP 0 rfl rfl 1 (by decide) (hT _ k_1044) (fun _ h9 => h9) rfl d_MO_stageFault_119 ?_
      refine lv_iload_n hx hb d_MO_stageFault_122 rfl (lv_at hl 3 rfl) ?_
      by_cases c_17 : 0 ≤ p0 ∧ p0 < 136400
      rotate_left
      · exact op_no hs (by rw [tw_MO_stageFault, h_1, ob1_mk, if_neg c_2, h_3, ob1_mk, if_neg c_4, if_neg c_8, if_neg c_12, if_pos c_16, if_neg c_17])
      refine va_iald hx hb hK hP 1 1 rfl rfl (in_pp c_17.1 c_17.2 rfl) d_MO_stageFault_123 ?_
      refine lv_iconst (v := 3) hx hb d_MO_stageFault_124 (by decide) ?_
      refine lv_icmp_eq (tgt := 132) hx hb d_MO_stageFault_125 (by decide) (fun c_18 => ?_) (fun c_18 => ?_)
      · refine lv_aload_n hx hb d_MO_stageFault_132 rfl (lv_at hl 2 rfl) ?_
        refine lv_iload_n hx hb d_MO_stageFault_133 rfl (lv_at hl 0 rfl) ?_
        rcases h_19 : tw_MO_sortFault fu st r_3 with _ | r_19
        · exact op_no hs (by rw [tw_MO_stageFault, h_1, ob1_mk, if_neg c_2, h_3, ob1_mk, if_neg c_4, if_neg c_8, if_neg c_12, if_pos c_16, if_pos c_17, if_pos c_18, h_19, ob1_no])
        refine rd_V (val := r_19) (As := [.int r_3]) (rest := []) ⟨hx, hb, hml, hown, hT⟩ (c_MO_sortFault l D cB cI aM aMst aMdcs aMtot aMfrm aMsiz aMffr aMfsz aMlkd aMlat aMkkd aMkat aModr aMgrp aMikd aMiat fu thr tpd frs frt top bgn mst ovr tgr lvs its hgh loo dfl st r_3 r_19 h_19) (cwV 1 hT (gV_of k_1273 k_1275 kp_MO_sortFault k_12 kc_MO_sortFault) rfl rfl rfl hd_MO_sortFault ⟨Nat.le_of_ble_eq_true rfl, Nat.le_of_ble_eq_true rfl⟩) hk hP (q0 := 0) rfl rfl rfl rfl hl.1 rfl (Nat.le_of_ble_eq_true rfl) d_MO_stageFault_134 ⟨Nat.zero_le _, Nat.zero_le _⟩ ?_
        exact W.iret (v := r_19) hx hb hr (fun t ht hW => ⟨r_19, rfl, (op_eq hs (by rw [tw_MO_stageFault, h_1, ob1_mk, if_neg c_2, h_3, ob1_mk, if_neg c_4, if_neg c_8, if_neg c_12, if_pos c_16, if_pos c_17, if_pos c_18, h_19, ob1_mk])), ht⟩) (fun _ h => by cases h) d_MO_stageFault_137
      · refine lv_iconst (v := 2) hx hb d_MO_stageFault_128 (by decide) ?_
        refine lv_goto (tgt := 137) hx hb d_MO_stageFault_129 (by decide) ?_
        exact W.iret (v := 2) hx hb hr (fun t ht hW => ⟨2, rfl, (op_eq hs (by rw [tw_MO_stageFault, h_1, ob1_mk, if_neg c_2, h_3, ob1_mk, if_neg c_4, if_neg c_8, if_neg c_12, if_pos c_16, if_pos c_17, if_neg c_18])), ht⟩) (fun _ h => by cases h) d_MO_stageFault_137
    by_cases c_20 : r_1 = 7
    · refine sw_T (tgt := 138) hx hb d_MO_stageFault_19 (Or.inr ⟨by rw [c_20]; decide, by rw [c_20]; decide, 119, by rw [c_20]; rfl, by decide⟩) ?_
      refine lv_aload_n hx hb d_MO_stageFault_138 rfl (lv_at hl 2 rfl) ?_
      refine va_get (D := D) (ci := 11) (v := .ref aMst) (C := R_MO) (T := T_MO) (N := 29) hx hb hT u_MO hown hK hP 0 rfl rfl 1 (by decide) (hT _ k_1044) (fun _ h9 => h9) rfl d_MO_stageFault_139 ?_
      refine lv_iload_n hx hb d_MO_stageFault_142 rfl (lv_at hl 3 rfl) ?_
      by_cases c_21 : 0 ≤ p0 ∧ p0 < 136400
      rotate_left
      · exact op_no hs (by rw [tw_MO_stageFault, h_1, ob1_mk, if_neg c_2, h_3, ob1_mk, if_neg c_4, if_neg c_8, if_neg c_12, if_neg c_16, if_pos c_20, if_neg c_21])
      refine va_iald hx hb hK hP 1 1 rfl rfl (in_pp c_21.1 c_21.2 rfl) d_MO_stageFault_143 ?_
      refine lv_iconst (v := 3) hx hb d_MO_stageFault_144 (by decide) ?_
      refine lv_icmp_eq (tgt := 152) hx hb d_MO_stageFault_145 (by decide) (fun c_22 => ?_) (fun c_22 => ?_)
      · refine lv_aload_n hx hb d_MO_stageFault_152 rfl (lv_at hl 2 rfl) ?_
        refine lv_iload_n hx hb d_MO_stageFault_153 rfl (lv_at hl 0 rfl) ?_
        rcases h_23 : tw_MO_lookupFault fu st r_3 with _ | r_23
        · exact op_no hs (by rw [tw_MO_stageFault, h_1, ob1_mk, if_neg c_2, h_3, ob1_mk, if_neg c_4, if_neg c_8, if_neg c_12, if_neg c_16, if_pos c_20, if_pos c_21, if_pos c_22, h_23, ob1_no])
        refine rd_V (val := r_23) (As := [.int r_3]) (rest := []) ⟨hx, hb, hml, hown, hT⟩ (c_MO_lookupFault l D cB cI aM aMst aMdcs aMtot aMfrm aMsiz aMffr aMfsz aMlkd aMlat aMkkd aMkat aModr aMgrp aMikd aMiat fu thr tpd frs frt top bgn mst ovr tgr lvs its hgh loo dfl st r_3 r_23 h_23) (cwV 1 hT (gV_of k_1282 k_1284 kp_MO_lookupFault k_12 kc_MO_lookupFault) rfl rfl rfl hd_MO_lookupFault ⟨Nat.le_of_ble_eq_true rfl, Nat.le_of_ble_eq_true rfl⟩) hk hP (q0 := 0) rfl rfl rfl rfl hl.1 rfl (Nat.le_of_ble_eq_true rfl) d_MO_stageFault_154 ⟨Nat.zero_le _, Nat.zero_le _⟩ ?_
        exact W.iret (v := r_23) hx hb hr (fun t ht hW => ⟨r_23, rfl, (op_eq hs (by rw [tw_MO_stageFault, h_1, ob1_mk, if_neg c_2, h_3, ob1_mk, if_neg c_4, if_neg c_8, if_neg c_12, if_neg c_16, if_pos c_20, if_pos c_21, if_pos c_22, h_23, ob1_mk])), ht⟩) (fun _ h => by cases h) d_MO_stageFault_157
      · refine lv_iconst (v := 2) hx hb d_MO_stageFault_148 (by decide) ?_
        refine lv_goto (tgt := 157) hx hb d_MO_stageFault_149 (by decide) ?_
        exact W.iret (v := 2) hx hb hr (fun t ht hW => ⟨2, rfl, (op_eq hs (by rw [tw_MO_stageFault, h_1, ob1_mk, if_neg c_2, h_3, ob1_mk, if_neg c_4, if_neg c_8, if_neg c_12, if_neg c_16, if_pos c_20, if_pos c_21, if_neg c_22])), ht⟩) (fun _ h => by cases h) d_MO_stageFault_157
    have h_c_4 := lv_neT c_4 (show (1 : Int32).toInt = 1 from rfl)
    have h_c_8 := lv_neT c_8 (show (2 : Int32).toInt = 2 from rfl)
    have h_c_12 := lv_neT c_12 (show (3 : Int32).toInt = 3 from rfl)
    have h_c_16 := lv_neT c_16 (show (4 : Int32).toInt = 4 from rfl)
    have h_c_20 := lv_neT c_20 (show (7 : Int32).toInt = 7 from rfl)
    refine sw_T (tgt := 158) hx hb d_MO_stageFault_19 (by
      rcases Int.lt_or_le r_1.toInt 1 with q | q
      · exact Or.inl ⟨Or.inl q, by decide⟩
      · rcases Int.lt_or_le 7 r_1.toInt with q2 | q2
        · exact Or.inl ⟨Or.inr q2, by decide⟩
        · refine Or.inr ⟨by omega, by omega, ?_⟩
          have q3 : r_1.toInt = 5 ∨ r_1.toInt = 6 := by omega
          rcases q3 with q3 | q3 <;> (rw [q3]; exact ⟨_, rfl, by decide⟩)) ?_
    refine lv_aload_n hx hb d_MO_stageFault_158 rfl (lv_at hl 2 rfl) ?_
    refine va_get (D := D) (ci := 11) (v := .ref aMst) (C := R_MO) (T := T_MO) (N := 29) hx hb hT u_MO hown hK hP 0 rfl rfl 1 (by decide) (hT _ k_1044) (fun _ h9 => h9) rfl d_MO_stageFault_159 ?_
    refine lv_iload_n hx hb d_MO_stageFault_162 rfl (lv_at hl 3 rfl) ?_
    by_cases c_24 : 0 ≤ p0 ∧ p0 < 136400
    rotate_left
    · exact op_no hs (by rw [tw_MO_stageFault, h_1, ob1_mk, if_neg c_2, h_3, ob1_mk, if_neg c_4, if_neg c_8, if_neg c_12, if_neg c_16, if_neg c_20, if_neg c_24])
    refine va_iald hx hb hK hP 1 1 rfl rfl (in_pp c_24.1 c_24.2 rfl) d_MO_stageFault_163 ?_
    refine lv_bipush (v := 16) hx hb d_MO_stageFault_164 (by decide) ?_
    refine lv_icmp_eq (tgt := 180) hx hb d_MO_stageFault_166 (by decide) (fun c_25 => ?_) (fun c_25 => ?_)
    · refine lv_aload_n hx hb d_MO_stageFault_180 rfl (lv_at hl 2 rfl) ?_
      refine lv_aload_n hx hb d_MO_stageFault_181 rfl (lv_at hl 2 rfl) ?_
      refine va_get (D := D) (ci := 11) (v := .ref aMst) (C := R_MO) (T := T_MO) (N := 29) hx hb hT u_MO hown hK hP 0 rfl rfl 1 (by decide) (hT _ k_1044) (fun _ h9 => h9) rfl d_MO_stageFault_182 ?_
      refine lv_iload_n hx hb d_MO_stageFault_185 rfl (lv_at hl 3 rfl) ?_
      refine va_iald hx hb hK hP 1 1 rfl rfl (in_pp c_24.1 c_24.2 rfl) d_MO_stageFault_186 ?_
      refine lv_iload_n hx hb d_MO_stageFault_187 rfl (lv_at hl 0 rfl) ?_
      rcases h_26 : tw_MO_number fu st (st p0.toNatClampNeg) r_3 with _ | r_26
      · exact op_no hs (by rw [tw_MO_stageFault, h_1, ob1_mk, if_neg c_2, h_3, ob1_mk, if_neg c_4, if_neg c_8, if_neg c_12, if_neg c_16, if_neg c_20, if_pos c_24, if_pos c_25, h_26, ob1_no])
      refine rd_Vl (val := r_26) (As := [.int (st p0.toNatClampNeg), .int r_3]) (rest := []) ⟨hx, hb, hml, hown, hT⟩ (c_MO_number l D cB cI aM aMst aMdcs aMtot aMfrm aMsiz aMffr aMfsz aMlkd aMlat aMkkd aMkat aModr aMgrp aMikd aMiat fu thr tpd frs frt top bgn mst ovr tgr lvs its hgh loo dfl st (st p0.toNatClampNeg) r_3 r_26 h_26) (cwV 2 hT (gV_of k_1277 k_1279 kp_MO_number k_12 kc_MO_number) rfl rfl rfl hd_MO_number ⟨Nat.le_of_ble_eq_true rfl, Nat.le_of_ble_eq_true rfl⟩) hk hP (q0 := 0) rfl rfl rfl rfl hl.1 rfl (Nat.le_of_ble_eq_true rfl) d_MO_stageFault_188 ⟨Nat.zero_le _, Nat.zero_le _⟩ ?_
      refine lv_lconst (v := 0) hx hb d_MO_stageFault_191 (by decide) ?_
      refine W.lcmp hx hb d_MO_stageFault_192 ?_
      refine lv_if_lt (tgt := 200) hx hb d_MO_stageFault_193 (by decide) (fun c_27 => ?_) (fun c_27 => ?_)
      · refine lv_iconst (v := 2) hx hb d_MO_stageFault_200 (by decide) ?_
        exact W.iret (v := 2) hx hb hr (fun t ht hW => ⟨2, rfl, (op_eq hs (by rw [tw_MO_stageFault, h_1, ob1_mk, if_neg c_2, h_3, ob1_mk, if_neg c_4, if_neg c_8, if_neg c_12, if_neg c_16, if_neg c_20, if_pos c_24, if_pos c_25, h_26, ob1_mk, if_pos c_27])), ht⟩) (fun _ h => by cases h) d_MO_stageFault_201
      · refine lv_iconst (v := 0) hx hb d_MO_stageFault_196 (by decide) ?_
        refine lv_goto (tgt := 201) hx hb d_MO_stageFault_197 (by decide) ?_
        exact W.iret (v := 0) hx hb hr (fun t ht hW => ⟨0, rfl, (op_eq hs (by rw [tw_MO_stageFault, h_1, ob1_mk, if_neg c_2, h_3, ob1_mk, if_neg c_4, if_neg c_8, if_neg c_12, if_neg c_16, if_neg c_20, if_pos c_24, if_pos c_25, h_26, ob1_mk, if_neg c_27])), ht⟩) (fun _ h => by cases h) d_MO_stageFault_201
    · refine lv_aload_n hx hb d_MO_stageFault_169 rfl (lv_at hl 2 rfl) ?_
      refine va_get (D := D) (ci := 11) (v := .ref aMst) (C := R_MO) (T := T_MO) (N := 29) hx hb hT u_MO hown hK hP 0 rfl rfl 1 (by decide) (hT _ k_1044) (fun _ h9 => h9) rfl d_MO_stageFault_170 ?_
      refine lv_iload_n hx hb d_MO_stageFault_173 rfl (lv_at hl 3 rfl) ?_
      refine va_iald hx hb hK hP 1 1 rfl rfl (in_pp c_24.1 c_24.2 rfl) d_MO_stageFault_174 ?_
      refine lv_bipush (v := 18) hx hb d_MO_stageFault_175 (by decide) ?_
      refine lv_icmp_ne (tgt := 200) hx hb d_MO_stageFault_177 (by decide) (fun c_28 => ?_) (fun c_28 => ?_)
      · refine lv_iconst (v := 2) hx hb d_MO_stageFault_200 (by decide) ?_
        exact W.iret (v := 2) hx hb hr (fun t ht hW => ⟨2, rfl, (op_eq hs (by rw [tw_MO_stageFault, h_1, ob1_mk, if_neg c_2, h_3, ob1_mk, if_neg c_4, if_neg c_8, if_neg c_12, if_neg c_16, if_neg c_20, if_pos c_24, if_neg c_25, if_neg c_28])), ht⟩) (fun _ h => by cases h) d_MO_stageFault_201
      · refine lv_aload_n hx hb d_MO_stageFault_180 rfl (lv_at hl 2 rfl) ?_
        refine lv_aload_n hx hb d_MO_stageFault_181 rfl (lv_at hl 2 rfl) ?_
        refine va_get (D := D) (ci := 11) (v := .ref aMst) (C := R_MO) (T := T_MO) (N := 29) hx hb hT u_MO hown hK hP 0 rfl rfl 1 (by decide) (hT _ k_1044) (fun _ h9 => h9) rfl d_MO_stageFault_182 ?_
        refine lv_iload_n hx hb d_MO_stageFault_185 rfl (lv_at hl 3 rfl) ?_
        refine va_iald hx hb hK hP 1 1 rfl rfl (in_pp c_24.1 c_24.2 rfl) d_MO_stageFault_186 ?_
        refine lv_iload_n hx hb d_MO_stageFault_187 rfl (lv_at hl 0 rfl) ?_
        rcases h_29 : tw_MO_number fu st (st p0.toNatClampNeg) r_3 with _ | r_29
        · exact op_no hs (by rw [tw_MO_stageFault, h_1, ob1_mk, if_neg c_2, h_3, ob1_mk, if_neg c_4, if_neg c_8, if_neg c_12, if_neg c_16, if_neg c_20, if_pos c_24, if_neg c_25, if_pos c_28, h_29, ob1_no])
        refine rd_Vl (val := r_29) (As := [.int (st p0.toNatClampNeg), .int r_3]) (rest := []) ⟨hx, hb, hml, hown, hT⟩ (c_MO_number l D cB cI aM aMst aMdcs aMtot aMfrm aMsiz aMffr aMfsz aMlkd aMlat aMkkd aMkat aModr aMgrp aMikd aMiat fu thr tpd frs frt top bgn mst ovr tgr lvs its hgh loo dfl st (st p0.toNatClampNeg) r_3 r_29 h_29) (cwV 2 hT (gV_of k_1277 k_1279 kp_MO_number k_12 kc_MO_number) rfl rfl rfl hd_MO_number ⟨Nat.le_of_ble_eq_true rfl, Nat.le_of_ble_eq_true rfl⟩) hk hP (q0 := 0) rfl rfl rfl rfl hl.1 rfl (Nat.le_of_ble_eq_true rfl) d_MO_stageFault_188 ⟨Nat.zero_le _, Nat.zero_le _⟩ ?_
        refine lv_lconst (v := 0) hx hb d_MO_stageFault_191 (by decide) ?_
        refine W.lcmp hx hb d_MO_stageFault_192 ?_
        refine lv_if_lt (tgt := 200) hx hb d_MO_stageFault_193 (by decide) (fun c_30 => ?_) (fun c_30 => ?_)
        · refine lv_iconst (v := 2) hx hb d_MO_stageFault_200 (by decide) ?_
          exact W.iret (v := 2) hx hb hr (fun t ht hW => ⟨2, rfl, (op_eq hs (by rw [tw_MO_stageFault, h_1, ob1_mk, if_neg c_2, h_3, ob1_mk, if_neg c_4, if_neg c_8, if_neg c_12, if_neg c_16, if_neg c_20, if_pos c_24, if_neg c_25, if_pos c_28, h_29, ob1_mk, if_pos c_30])), ht⟩) (fun _ h => by cases h) d_MO_stageFault_201
        · refine lv_iconst (v := 0) hx hb d_MO_stageFault_196 (by decide) ?_
          refine lv_goto (tgt := 201) hx hb d_MO_stageFault_197 (by decide) ?_
          exact W.iret (v := 0) hx hb hr (fun t ht hW => ⟨0, rfl, (op_eq hs (by rw [tw_MO_stageFault, h_1, ob1_mk, if_neg c_2, h_3, ob1_mk, if_neg c_4, if_neg c_8, if_neg c_12, if_neg c_16, if_neg c_20, if_pos c_24, if_neg c_25, if_pos c_28, h_29, ob1_mk, if_neg c_30])), ht⟩) (fun _ h => by cases h) d_MO_stageFault_201
  · refine lv_iconst (v := 1) hx hb d_MO_stageFault_10 (by decide) ?_
    exact W.iret (v := 1) hx hb hr (fun t ht hW => ⟨1, rfl, (op_eq hs (by rw [tw_MO_stageFault, h_1, ob1_mk, if_pos c_2])), ht⟩) (fun _ h => by cases h) d_MO_stageFault_11
set_option maxHeartbeats 4000000 in
set_option maxRecDepth 100000 in
theorem l_MO_sameName_h6 {p : Program} {e : Env} {s : State} {m : MethodId} {args : Array Value} {below : List Frame} {meth : Method} {c : Code} {V : Option (Int32)} {V0 : Int32} (C0 : lc_C p s m meth c args b_MO_sameName 4 (some .int) R_MO lw_g) (hs : V = some V0) (l : Launch) (D : va_G) (cB cI : ClassId) (aM aMst aMdcs aMtot aMfrm aMsiz aMffr aMfsz aMlkd aMlat aMkkd aMkat aModr aMgrp aMikd aMiat : Nat) (fu : Nat) (thr : Int32) (tpd : Int32) (frs : Int32) (frt : Int32) (top : Int32) (bgn : Int32) (mst : Int32) (ovr : Bool) (tgr : Bool) (lvs : Int32) (its : Int32) (hgh : Int64) (loo : Int64) (dfl : Bool) (st : Nat → Int32) (hP : va_P D vwCl [(aM, .inr (11, [.int thr, .ref aMst, .int tpd, .ref aMdcs, .ref aMtot, .ref aMfrm, .ref aMsiz, .int frs, .int frt, .ref aMffr, .ref aMfsz, .int top, .int bgn, .int mst, .int (b2i ovr), .int (b2i tgr), .int lvs, .ref aMlkd, .ref aMlat, .ref aMkkd, .ref aMkat, .ref aModr, .ref aMgrp, .int its, .ref aMikd, .ref aMiat, .long hgh, .long loo, .int (b2i dfl)])), (aMst, .inl (cI, 136400, .inl st))] s.heap) (hk : hk_ D cB cI s) (p1 : Int32) {K : Int32 → Option (Int32)} (hKx : ∀ (x3 : Int32), V = K x3 → ∀ ls : Array Slot, lv_has ls 4 [] → W p l e ({ frames := 3, cells := 0, slots := 0, locals := 66 }) s m args below meth c s.heap [] 0 0 (MQ below (vp_Si (fun r => r = V0)) args s 0 0 (fun _ => False)) (F0 m 52 ls [])) : ∀ (n : Nat) (x3 : Int32), V = tw_MO_sameName_h6 fu K st p1 n x3 → ∀ ls : Array Slot, lv_has ls 4 [(0, .ref aM), (2, .int p1), (3, .int x3)] → W p l e ({ frames := 3, cells := 0, slots := 0, locals := 66 }) s m args below meth c s.heap [] 0 0 (MQ below (vp_Si (fun r => r = V0)) args s 0 0 (fun _ => False)) (F0 m 6 ls []) := by
  obtain ⟨hx, hb, hml, hr, hown, hlocks, hT⟩ := id C0
  have hK := hk.1
  have hN := hk.2.1
  intro n
  induction n with
  | zero =>
    intro x3 hV
    exact op_no hs (hV.trans rfl)
  | succ n ih =>
    intro x3 hV ls hl
    refine lv_iload_n hx hb d_MO_sameName_6 rfl (lv_at hl 2 rfl) ?_
    refine lv_if_le (tgt := 52) hx hb d_MO_sameName_7 (by decide) (fun c_2 => ?_) (fun c_2 => ?_)
    · exact hKx x3 (by rw [hV, tw_MO_sameName_h6, if_pos c_2]) ls (lv_sub hl [] rfl)
    · refine lv_aload_n hx hb d_MO_sameName_10 rfl (lv_at hl 0 rfl) ?_
      refine lv_iload_n hx hb d_MO_sameName_11 rfl (lv_at hl 2 rfl) ?_
      refine lv_iconst (v := 1) hx hb d_MO_sameName_12 (by decide) ?_
      refine lv_iadd hx hb d_MO_sameName_13 ?_
      refine lv_aload_n hx hb d_MO_sameName_14 rfl (lv_at hl 0 rfl) ?_
      refine lv_iload_n hx hb d_MO_sameName_15 rfl (lv_at hl 2 rfl) ?_
      rcases h_3 : tw_MO_nameEndOf fu st x3 with _ | r_3
      · exact op_no hs (by rw [hV, tw_MO_sameName_h6, if_neg c_2, h_3, ob1_no])
      refine rd_V (val := r_3) (As := [.int x3]) (rest := [.int (x3 + 1), .ref aM]) ⟨hx, hb, hml, hown, hT⟩ (c_MO_nameEndOf l D cB cI aM aMst aMdcs aMtot aMfrm aMsiz aMffr aMfsz aMlkd aMlat aMkkd aMkat aModr aMgrp aMikd aMiat fu thr tpd frs frt top bgn mst ovr tgr lvs its hgh loo dfl st x3 r_3 h_3) (cwV 1 hT (gV_of k_1174 k_1176 kp_MO_nameEndOf k_12 kc_MO_nameEndOf) rfl rfl rfl hd_MO_nameEndOf ⟨Nat.le_of_ble_eq_true rfl, Nat.le_of_ble_eq_true rfl⟩) hk hP (q0 := 0) rfl rfl rfl rfl hl.1 rfl (Nat.le_of_ble_eq_true rfl) d_MO_sameName_16 ⟨Nat.zero_le _, Nat.zero_le _⟩ ?_
      refine lv_iload_n hx hb d_MO_sameName_19 rfl (lv_at hl 2 rfl) ?_
      refine lv_isub hx hb d_MO_sameName_20 ?_
      refine lv_iconst (v := 1) hx hb d_MO_sameName_21 (by decide) ?_
      refine lv_isub hx hb d_MO_sameName_22 ?_
      refine lv_iload_n hx hb d_MO_sameName_23 rfl (lv_at hl 1 rfl) ?_
      refine lv_iconst (v := 1) hx hb d_MO_sameName_24 (by decide) ?_
      refine lv_iadd hx hb d_MO_sameName_25 ?_
      refine lv_aload_n hx hb d_MO_sameName_26 rfl (lv_at hl 0 rfl) ?_
      refine lv_iload_n hx hb d_MO_sameName_27 rfl (lv_at hl 1 rfl) ?_
      rcases h_4 : tw_MO_nameEndOf fu st p1 with _ | r_4
      · exact op_no hs (by rw [hV, tw_MO_sameName_h6, if_neg c_2, h_3, ob1_mk, h_4, ob1_no])
      refine rd_V (val := r_4) (As := [.int p1]) (rest := [.int (p1 + 1), .int ((r_3 - x3) - 1), .int (x3 + 1), .ref aM]) ⟨hx, hb, hml, hown, hT⟩ (c_MO_nameEndOf l D cB cI aM aMst aMdcs aMtot aMfrm aMsiz aMffr aMfsz aMlkd aMlat aMkkd aMkat aModr aMgrp aMikd aMiat fu thr tpd frs frt top bgn mst ovr tgr lvs its hgh loo dfl st p1 r_4 h_4) (cwV 1 hT (gV_of k_1174 k_1176 kp_MO_nameEndOf k_12 kc_MO_nameEndOf) rfl rfl rfl hd_MO_nameEndOf ⟨Nat.le_of_ble_eq_true rfl, Nat.le_of_ble_eq_true rfl⟩) hk hP (q0 := 0) rfl rfl rfl rfl hl.1 rfl (Nat.le_of_ble_eq_true rfl) d_MO_sameName_28 ⟨Nat.zero_le _, Nat.zero_le _⟩ ?_
      refine lv_iload_n hx hb d_MO_sameName_31 rfl (lv_at hl 1 rfl) ?_
      refine lv_isub hx hb d_MO_sameName_32 ?_
      refine lv_iconst (v := 1) hx hb d_MO_sameName_33 (by decide) ?_
      refine lv_isub hx hb d_MO_sameName_34 ?_
      rcases h_5 : tw_MO_orderBytes fu st (x3 + 1) ((r_3 - x3) - 1) (p1 + 1) ((r_4 - p1) - 1) with _ | r_5
      · exact op_no hs (by rw [hV, tw_MO_sameName_h6, if_neg c_2, h_3, ob1_mk, h_4, ob1_mk, h_5, ob1_no])
      refine rd_V (val := r_5) (As := [.int (x3 + 1), .int ((r_3 - x3) - 1), .int (p1 + 1), .int ((r_4 - p1) - 1)]) (rest := []) ⟨hx, hb, hml, hown, hT⟩ (c_MO_orderBytes l D cB cI aM aMst aMdcs aMtot aMfrm aMsiz aMffr aMfsz aMlkd aMlat aMkkd aMkat aModr aMgrp aMikd aMiat fu thr tpd frs frt top bgn mst ovr tgr lvs its hgh loo dfl st (x3 + 1) ((r_3 - x3) - 1) (p1 + 1) ((r_4 - p1) - 1) r_5 h_5) (cwV 4 hT (gV_of k_1178 k_1180 kp_MO_orderBytes k_12 kc_MO_orderBytes) rfl rfl rfl hd_MO_orderBytes ⟨Nat.le_of_ble_eq_true rfl, Nat.le_of_ble_eq_true rfl⟩) hk hP (q0 := 0) rfl rfl rfl rfl hl.1 rfl (Nat.le_of_ble_eq_true rfl) d_MO_sameName_35 ⟨Nat.zero_le _, Nat.zero_le _⟩ ?_
      refine lv_if_ne (tgt := 43) hx hb d_MO_sameName_38 (by decide) (fun c_6 => ?_) (fun c_6 => ?_)
      · refine lv_aload_n hx hb d_MO_sameName_43 rfl (lv_at hl 0 rfl) ?_
        refine lv_iload_n hx hb d_MO_sameName_44 rfl (lv_at hl 2 rfl) ?_
        rcases h_7 : tw_MO_nextOf fu st x3 with _ | r_7
        · exact op_no hs (by rw [hV, tw_MO_sameName_h6, if_neg c_2, h_3, ob1_mk, h_4, ob1_mk, h_5, ob1_mk, if_neg c_6, h_7, ob1_no])
        refine rd_V (val := r_7) (As := [.int x3]) (rest := []) ⟨hx, hb, hml, hown, hT⟩ (c_MO_nextOf l D cB cI aM aMst aMdcs aMtot aMfrm aMsiz aMffr aMfsz aMlkd aMlat aMkkd aMkat aModr aMgrp aMikd aMiat fu thr tpd frs frt top bgn mst ovr tgr lvs its hgh loo dfl st x3 r_7 h_7) (cwV 1 hT (gV_of k_1204 k_1206 kp_MO_nextOf k_12 kc_MO_nextOf) rfl rfl rfl hd_MO_nextOf ⟨Nat.le_of_ble_eq_true rfl, Nat.le_of_ble_eq_true rfl⟩) hk hP (q0 := 0) rfl rfl rfl rfl hl.1 rfl (Nat.le_of_ble_eq_true rfl) d_MO_sameName_45 ⟨Nat.zero_le _, Nat.zero_le _⟩ ?_
        refine lv_istore_n (lv' := [(3, .int r_7), (0, .ref aM), (2, .int p1)]) hx hb d_MO_sameName_48 rfl hl (by decide) rfl (fun ls hl => ?_)
        refine lv_goto (tgt := 6) hx hb d_MO_sameName_49 (by decide) ?_
        exact ih r_7 (by rw [hV, tw_MO_sameName_h6, if_neg c_2, h_3, ob1_mk, h_4, ob1_mk, h_5, ob1_mk, if_neg c_6, h_7, ob1_mk]) ls (lv_sub hl [1, 2, 0] rfl)
      · refine lv_iload_n hx hb d_MO_sameName_41 rfl (lv_at hl 2 rfl) ?_
        exact W.iret (v := x3) hx hb hr (fun t ht hW => ⟨x3, rfl, (op_eq hs (by rw [hV, tw_MO_sameName_h6, if_neg c_2, h_3, ob1_mk, h_4, ob1_mk, h_5, ob1_mk, if_pos c_6])), ht⟩) (fun _ h => by cases h) d_MO_sameName_42
set_option maxHeartbeats 4000000 in
set_option maxRecDepth 100000 in
theorem c_MO_sameName (l : Launch) (D : va_G) (cB cI : ClassId) (aM aMst aMdcs aMtot aMfrm aMsiz aMffr aMfsz aMlkd aMlat aMkkd aMkat aModr aMgrp aMikd aMiat : Nat) (fu : Nat) (thr : Int32) (tpd : Int32) (frs : Int32) (frt : Int32) (top : Int32) (bgn : Int32) (mst : Int32) (ovr : Bool) (tgr : Bool) (lvs : Int32) (its : Int32) (hgh : Int64) (loo : Int64) (dfl : Bool) (st : Nat → Int32) (p0 : Int32) (p1 : Int32) (V0 : Int32) (hs : tw_MO_sameName fu st p0 p1 = some V0) : Met l y_MO_sameName mw_MO_sameName { frames := 3, cells := 0, slots := 0, locals := 66 } (va_Pc [.ref aM, .int p0, .int p1] (fun U => va_P D vwCl [(aM, .inr (11, [.int thr, .ref aMst, .int tpd, .ref aMdcs, .ref aMtot, .ref aMfrm, .ref aMsiz, .int frs, .int frt, .ref aMffr, .ref aMfsz, .int top, .int bgn, .int mst, .int (b2i ovr), .int (b2i tgr), .int lvs, .ref aMlkd, .ref aMlat, .ref aMkkd, .ref aMkat, .ref aModr, .ref aMgrp, .int its, .ref aMikd, .ref aMiat, .long hgh, .long loo, .int (b2i dfl)])), (aMst, .inl (cI, 136400, .inl st))] U.heap ∧ hk_ D cB cI U)) (vp_Si (fun r => r = V0)) 0 0 (fun _ => False) := by
  refine Met.ofW (cc := b_MO_sameName) (maxL := 4) (ret := (some .int)) (by decide) rfl ?_
  intro p e s m args below meth c s₁ B0 hml hv
  obtain ⟨rfl, hP, hk⟩ := hv
  have hK := hk.1
  have hN := hk.2.1
  have hx := B0.exec
  have hb := B0.bytes
  have hr := B0.returns
  have hT : ∀ w ∈ lw_g, w.before _ s = true := fun w h => atoms_spec (ws := mw_MO_sameName) B0.pre w (List.mem_cons_of_mem _ h)
  have hown : s.vm.findClass R_MO = some m.cls := findClass_of_methodNamed B0.named
  have hlocks := B0.notSynchronized
  have hl := lv_entry ([.ref aM, .int p0, .int p1]) (n := 4) (Nat.le_of_ble_eq_true rfl)
  rw [lg_entry_eq]
  generalize (lg_sl ([.ref aM, .int p0, .int p1]) ++ List.replicate (4 - (lg_sl ([.ref aM, .int p0, .int p1])).length) Slot.unset).toArray = ls at hl ⊢
  have hl : lv_has ls 4 [(0, .ref aM), (1, .int p0), (2, .int p1)] := hl
  have C0 : lc_C p s m meth c _ b_MO_sameName 4 (some .int) R_MO lw_g := ⟨hx, hb, hml, hr, hown, hlocks, hT⟩
  refine lv_aload_n hx hb d_MO_sameName_0 rfl (lv_at hl 0 rfl) ?_
  refine lv_iload_n hx hb d_MO_sameName_1 rfl (lv_at hl 1 rfl) ?_
  rcases h_1 : tw_MO_firstOf fu st p0 with _ | r_1
  · exact op_no hs (by rw [tw_MO_sameName, h_1, ob1_no])
  refine rd_V (val := r_1) (As := [.int p0]) (rest := []) ⟨hx, hb, hml, hown, hT⟩ (c_MO_firstOf l D cB cI aM aMst aMdcs aMtot aMfrm aMsiz aMffr aMfsz aMlkd aMlat aMkkd aMkat aModr aMgrp aMikd aMiat fu thr tpd frs frt top bgn mst ovr tgr lvs its hgh loo dfl st p0 r_1 h_1) (cwV 1 hT (gV_of k_1196 k_1198 kp_MO_firstOf k_12 kc_MO_firstOf) rfl rfl rfl hd_MO_firstOf ⟨Nat.le_of_ble_eq_true rfl, Nat.le_of_ble_eq_true rfl⟩) hk hP (q0 := 0) rfl rfl rfl rfl hl.1 rfl (Nat.le_of_ble_eq_true rfl) d_MO_sameName_2 ⟨Nat.zero_le _, Nat.zero_le _⟩ ?_
  refine lv_istore_n (lv' := [(3, .int r_1), (0, .ref aM), (1, .int p0), (2, .int p1)]) hx hb d_MO_sameName_5 rfl hl (by decide) rfl (fun ls hl => ?_)
  refine l_MO_sameName_h6 C0 hs l D cB cI aM aMst aMdcs aMtot aMfrm aMsiz aMffr aMfsz aMlkd aMlat aMkkd aMkat aModr aMgrp aMikd aMiat fu thr tpd frs frt top bgn mst ovr tgr lvs its hgh loo dfl st hP hk p1  (K := (fun (x3_8 : Int32) =>
      some 0)) ?_ fu r_1  (by rw [tw_MO_sameName, h_1, ob1_mk]) ls (lv_sub hl [1, 3, 0] rfl)
  intro x3_8 hV_8 ls hl
  refine lv_iconst (v := 0) hx hb d_MO_sameName_52 (by decide) ?_
  exact W.iret (v := 0) hx hb hr (fun t ht hW => ⟨0, rfl, (op_eq hs (by rw [hV_8])), ht⟩) (fun _ h => by cases h) d_MO_sameName_53
