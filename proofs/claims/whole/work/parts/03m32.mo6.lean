/-! printed by wip/gen -/
theorem k_1052 : (Jvm.Cond.fieldLink "PipelineBeltModel" (26 : Nat) "PipelineBeltModel" "freshFrom" "[I") ∈ lw_g := lw_gm (List.mem_append_right _ (List.mem_of_getElem? (i := 1052) (by decide +kernel))) rfl
theorem k_1053 : (Jvm.Cond.fieldLink "PipelineBeltModel" (29 : Nat) "PipelineBeltModel" "freshSize" "[I") ∈ lw_g := lw_gm (List.mem_append_right _ (List.mem_of_getElem? (i := 1053) (by decide +kernel))) rfl
theorem k_1064 : (Jvm.Cond.fieldLink "PipelineBeltModel" (45 : Nat) "PipelineBeltModel" "order" "[I") ∈ lw_g := lw_gm (List.mem_append_right _ (List.mem_of_getElem? (i := 1064) (by decide +kernel))) rfl
theorem k_1065 : (Jvm.Cond.fieldLink "PipelineBeltModel" (48 : Nat) "PipelineBeltModel" "group" "[I") ∈ lw_g := lw_gm (List.mem_append_right _ (List.mem_of_getElem? (i := 1065) (by decide +kernel))) rfl
theorem k_1066 : (Jvm.Cond.fieldLink "PipelineBeltModel" (367 : Nat) "PipelineBeltModel" "items" "I") ∈ lw_g := lw_gm (List.mem_append_right _ (List.mem_of_getElem? (i := 1066) (by decide +kernel))) rfl
theorem k_1067 : (Jvm.Cond.fieldLink "PipelineBeltModel" (51 : Nat) "PipelineBeltModel" "itemKind" "[I") ∈ lw_g := lw_gm (List.mem_append_right _ (List.mem_of_getElem? (i := 1067) (by decide +kernel))) rfl
theorem k_1068 : (Jvm.Cond.fieldLink "PipelineBeltModel" (54 : Nat) "PipelineBeltModel" "itemAt" "[I") ∈ lw_g := lw_gm (List.mem_append_right _ (List.mem_of_getElem? (i := 1068) (by decide +kernel))) rfl
theorem k_1069 : (Jvm.Cond.fieldLink "PipelineBeltModel" (342 : Nat) "PipelineBeltModel" "high" "J") ∈ lw_g := lw_gm (List.mem_append_right _ (List.mem_of_getElem? (i := 1069) (by decide +kernel))) rfl
theorem k_1070 : (Jvm.Cond.fieldLink "PipelineBeltModel" (348 : Nat) "PipelineBeltModel" "low" "J") ∈ lw_g := lw_gm (List.mem_append_right _ (List.mem_of_getElem? (i := 1070) (by decide +kernel))) rfl
theorem k_1144 : (Jvm.Cond.methodLink "PipelineBeltModel" (401 : Nat) ({ cls := "PipelineBeltModel", name := "isDocument", desc := "(I)Z" } : Jvm.MethodName)) ∈ lw_g := lw_gm (List.mem_append_right _ (List.mem_of_getElem? (i := 1144) (by decide +kernel))) rfl
theorem k_1146 : (Jvm.Cond.instanceMethod ({ cls := "PipelineBeltModel", name := "isDocument", desc := "(I)Z" } : Jvm.MethodName)) ∈ lw_g := lw_gm (List.mem_append_right _ (List.mem_of_getElem? (i := 1146) (by decide +kernel))) rfl
theorem k_1195 : (Jvm.Cond.constant "PipelineBeltModel" (404 : Nat) (134400 : Int32)) ∈ lw_g := lw_gm (List.mem_append_right _ (List.mem_of_getElem? (i := 1195) (by decide +kernel))) rfl
theorem k_1208 : (Jvm.Cond.methodLink "PipelineBeltModel" (405 : Nat) ({ cls := "PipelineBeltModel", name := "stageFault", desc := "(I)I" } : Jvm.MethodName)) ∈ lw_g := lw_gm (List.mem_append_right _ (List.mem_of_getElem? (i := 1208) (by decide +kernel))) rfl
theorem k_1210 : (Jvm.Cond.instanceMethod ({ cls := "PipelineBeltModel", name := "stageFault", desc := "(I)I" } : Jvm.MethodName)) ∈ lw_g := lw_gm (List.mem_append_right _ (List.mem_of_getElem? (i := 1210) (by decide +kernel))) rfl
theorem k_1297 : (Jvm.Cond.methodLink "PipelineBeltModel" (408 : Nat) ({ cls := "PipelineBeltModel", name := "does", desc := "(I)I" } : Jvm.MethodName)) ∈ lw_g := lw_gm (List.mem_append_right _ (List.mem_of_getElem? (i := 1297) (by decide +kernel))) rfl
theorem k_1299 : (Jvm.Cond.instanceMethod ({ cls := "PipelineBeltModel", name := "does", desc := "(I)I" } : Jvm.MethodName)) ∈ lw_g := lw_gm (List.mem_append_right _ (List.mem_of_getElem? (i := 1299) (by decide +kernel))) rfl
theorem k_1301 : (Jvm.Cond.methodLink "PipelineBeltModel" (327 : Nat) ({ cls := "PipelineBeltModel", name := "beginAll", desc := "()V" } : Jvm.MethodName)) ∈ lw_g := lw_gm (List.mem_append_right _ (List.mem_of_getElem? (i := 1301) (by decide +kernel))) rfl
theorem k_1303 : (Jvm.Cond.instanceMethod ({ cls := "PipelineBeltModel", name := "beginAll", desc := "()V" } : Jvm.MethodName)) ∈ lw_g := lw_gm (List.mem_append_right _ (List.mem_of_getElem? (i := 1303) (by decide +kernel))) rfl
theorem k_1306 : (Jvm.Cond.methodLink "PipelineBeltModel" (384 : Nat) ({ cls := "PipelineBeltModel", name := "project", desc := "(I)V" } : Jvm.MethodName)) ∈ lw_g := lw_gm (List.mem_append_right _ (List.mem_of_getElem? (i := 1306) (by decide +kernel))) rfl
theorem k_1308 : (Jvm.Cond.instanceMethod ({ cls := "PipelineBeltModel", name := "project", desc := "(I)V" } : Jvm.MethodName)) ∈ lw_g := lw_gm (List.mem_append_right _ (List.mem_of_getElem? (i := 1308) (by decide +kernel))) rfl
theorem k_1310 : (Jvm.Cond.methodLink "PipelineBeltModel" (208 : Nat) ({ cls := "PipelineBeltModel", name := "beginDocument", desc := "()I" } : Jvm.MethodName)) ∈ lw_g := lw_gm (List.mem_append_right _ (List.mem_of_getElem? (i := 1310) (by decide +kernel))) rfl
theorem k_1312 : (Jvm.Cond.instanceMethod ({ cls := "PipelineBeltModel", name := "beginDocument", desc := "()I" } : Jvm.MethodName)) ∈ lw_g := lw_gm (List.mem_append_right _ (List.mem_of_getElem? (i := 1312) (by decide +kernel))) rfl
theorem k_1330 : (Jvm.Cond.methodLink "PipelineBeltModel" (300 : Nat) ({ cls := "PipelineBeltModel", name := "sameName", desc := "(II)I" } : Jvm.MethodName)) ∈ lw_g := lw_gm (List.mem_append_right _ (List.mem_of_getElem? (i := 1330) (by decide +kernel))) rfl
theorem k_1332 : (Jvm.Cond.instanceMethod ({ cls := "PipelineBeltModel", name := "sameName", desc := "(II)I" } : Jvm.MethodName)) ∈ lw_g := lw_gm (List.mem_append_right _ (List.mem_of_getElem? (i := 1332) (by decide +kernel))) rfl
theorem k_1342 : (Jvm.Cond.methodLink "PipelineBeltModel" (306 : Nat) ({ cls := "PipelineBeltModel", name := "valueElement", desc := "(III)V" } : Jvm.MethodName)) ∈ lw_g := lw_gm (List.mem_append_right _ (List.mem_of_getElem? (i := 1342) (by decide +kernel))) rfl
theorem k_1344 : (Jvm.Cond.instanceMethod ({ cls := "PipelineBeltModel", name := "valueElement", desc := "(III)V" } : Jvm.MethodName)) ∈ lw_g := lw_gm (List.mem_append_right _ (List.mem_of_getElem? (i := 1344) (by decide +kernel))) rfl
theorem k_1346 : (Jvm.Cond.constant "PipelineBeltModel" (309 : Nat) (124000 : Int32)) ∈ lw_g := lw_gm (List.mem_append_right _ (List.mem_of_getElem? (i := 1346) (by decide +kernel))) rfl
theorem k_1347 : (Jvm.Cond.methodLink "PipelineBeltModel" (310 : Nat) ({ cls := "PipelineBeltModel", name := "evaluate", desc := "(III)I" } : Jvm.MethodName)) ∈ lw_g := lw_gm (List.mem_append_right _ (List.mem_of_getElem? (i := 1347) (by decide +kernel))) rfl
theorem k_1349 : (Jvm.Cond.instanceMethod ({ cls := "PipelineBeltModel", name := "evaluate", desc := "(III)I" } : Jvm.MethodName)) ∈ lw_g := lw_gm (List.mem_append_right _ (List.mem_of_getElem? (i := 1349) (by decide +kernel))) rfl
theorem k_1379 : (Jvm.Cond.methodLink "PipelineBeltModel" (211 : Nat) ({ cls := "PipelineBeltModel", name := "endDocument", desc := "(I)V" } : Jvm.MethodName)) ∈ lw_g := lw_gm (List.mem_append_right _ (List.mem_of_getElem? (i := 1379) (by decide +kernel))) rfl
theorem k_1381 : (Jvm.Cond.instanceMethod ({ cls := "PipelineBeltModel", name := "endDocument", desc := "(I)V" } : Jvm.MethodName)) ∈ lw_g := lw_gm (List.mem_append_right _ (List.mem_of_getElem? (i := 1381) (by decide +kernel))) rfl
theorem k_1387 : (Jvm.Cond.methodLink "PipelineBeltModel" (387 : Nat) ({ cls := "PipelineBeltModel", name := "unwind", desc := "(I)V" } : Jvm.MethodName)) ∈ lw_g := lw_gm (List.mem_append_right _ (List.mem_of_getElem? (i := 1387) (by decide +kernel))) rfl
theorem k_1389 : (Jvm.Cond.instanceMethod ({ cls := "PipelineBeltModel", name := "unwind", desc := "(I)V" } : Jvm.MethodName)) ∈ lw_g := lw_gm (List.mem_append_right _ (List.mem_of_getElem? (i := 1389) (by decide +kernel))) rfl
theorem k_1395 : (Jvm.Cond.methodLink "PipelineBeltModel" (320 : Nat) ({ cls := "PipelineBeltModel", name := "keep", desc := "(I)V" } : Jvm.MethodName)) ∈ lw_g := lw_gm (List.mem_append_right _ (List.mem_of_getElem? (i := 1395) (by decide +kernel))) rfl
theorem k_1397 : (Jvm.Cond.instanceMethod ({ cls := "PipelineBeltModel", name := "keep", desc := "(I)V" } : Jvm.MethodName)) ∈ lw_g := lw_gm (List.mem_append_right _ (List.mem_of_getElem? (i := 1397) (by decide +kernel))) rfl
theorem k_1399 : (Jvm.Cond.methodLink "PipelineBeltModel" (390 : Nat) ({ cls := "PipelineBeltModel", name := "group", desc := "(I)I" } : Jvm.MethodName)) ∈ lw_g := lw_gm (List.mem_append_right _ (List.mem_of_getElem? (i := 1399) (by decide +kernel))) rfl
theorem k_1401 : (Jvm.Cond.instanceMethod ({ cls := "PipelineBeltModel", name := "group", desc := "(I)I" } : Jvm.MethodName)) ∈ lw_g := lw_gm (List.mem_append_right _ (List.mem_of_getElem? (i := 1401) (by decide +kernel))) rfl
theorem k_1403 : (Jvm.Cond.methodLink "PipelineBeltModel" (323 : Nat) ({ cls := "PipelineBeltModel", name := "keyOf", desc := "(III)I" } : Jvm.MethodName)) ∈ lw_g := lw_gm (List.mem_append_right _ (List.mem_of_getElem? (i := 1403) (by decide +kernel))) rfl
theorem k_1405 : (Jvm.Cond.instanceMethod ({ cls := "PipelineBeltModel", name := "keyOf", desc := "(III)I" } : Jvm.MethodName)) ∈ lw_g := lw_gm (List.mem_append_right _ (List.mem_of_getElem? (i := 1405) (by decide +kernel))) rfl
theorem k_1407 : (Jvm.Cond.constant "PipelineBeltModel" (326 : Nat) (128200 : Int32)) ∈ lw_g := lw_gm (List.mem_append_right _ (List.mem_of_getElem? (i := 1407) (by decide +kernel))) rfl
theorem k_1419 : (Jvm.Cond.methodLink "PipelineBeltModel" (333 : Nat) ({ cls := "PipelineBeltModel", name := "resume", desc := "(II)V" } : Jvm.MethodName)) ∈ lw_g := lw_gm (List.mem_append_right _ (List.mem_of_getElem? (i := 1419) (by decide +kernel))) rfl
theorem k_1421 : (Jvm.Cond.instanceMethod ({ cls := "PipelineBeltModel", name := "resume", desc := "(II)V" } : Jvm.MethodName)) ∈ lw_g := lw_gm (List.mem_append_right _ (List.mem_of_getElem? (i := 1421) (by decide +kernel))) rfl
theorem k_1423 : (Jvm.Cond.methodLink "PipelineBeltModel" (336 : Nat) ({ cls := "PipelineBeltModel", name := "gather", desc := "(III)Z" } : Jvm.MethodName)) ∈ lw_g := lw_gm (List.mem_append_right _ (List.mem_of_getElem? (i := 1423) (by decide +kernel))) rfl
theorem k_1425 : (Jvm.Cond.instanceMethod ({ cls := "PipelineBeltModel", name := "gather", desc := "(III)Z" } : Jvm.MethodName)) ∈ lw_g := lw_gm (List.mem_append_right _ (List.mem_of_getElem? (i := 1425) (by decide +kernel))) rfl
theorem k_1427 : (Jvm.Cond.methodLink "PipelineBeltModel" (339 : Nat) ({ cls := "PipelineBeltModel", name := "sum", desc := "(III)Z" } : Jvm.MethodName)) ∈ lw_g := lw_gm (List.mem_append_right _ (List.mem_of_getElem? (i := 1427) (by decide +kernel))) rfl
theorem k_1429 : (Jvm.Cond.instanceMethod ({ cls := "PipelineBeltModel", name := "sum", desc := "(III)Z" } : Jvm.MethodName)) ∈ lw_g := lw_gm (List.mem_append_right _ (List.mem_of_getElem? (i := 1429) (by decide +kernel))) rfl
theorem k_1431 : (Jvm.Cond.constantLong "PipelineBeltModel" (346 : Nat) (1000000000 : Int64)) ∈ lw_g := lw_gm (List.mem_append_right _ (List.mem_of_getElem? (i := 1431) (by decide +kernel))) rfl
theorem k_1432 : (Jvm.Cond.constantLong "PipelineBeltModel" (359 : Nat) (9223372036 : Int64)) ∈ lw_g := lw_gm (List.mem_append_right _ (List.mem_of_getElem? (i := 1432) (by decide +kernel))) rfl
theorem k_1433 : (Jvm.Cond.constantLong "PipelineBeltModel" (361 : Nat) (-9223372036 : Int64)) ∈ lw_g := lw_gm (List.mem_append_right _ (List.mem_of_getElem? (i := 1433) (by decide +kernel))) rfl
theorem k_1434 : (Jvm.Cond.constantLong "PipelineBeltModel" (363 : Nat) (854775807 : Int64)) ∈ lw_g := lw_gm (List.mem_append_right _ (List.mem_of_getElem? (i := 1434) (by decide +kernel))) rfl
theorem k_1435 : (Jvm.Cond.constantLong "PipelineBeltModel" (365 : Nat) (-854775808 : Int64)) ∈ lw_g := lw_gm (List.mem_append_right _ (List.mem_of_getElem? (i := 1435) (by decide +kernel))) rfl
theorem k_1436 : (Jvm.Cond.methodLink "PipelineBeltModel" (351 : Nat) ({ cls := "PipelineBeltModel", name := "pick", desc := "(IIIII)V" } : Jvm.MethodName)) ∈ lw_g := lw_gm (List.mem_append_right _ (List.mem_of_getElem? (i := 1436) (by decide +kernel))) rfl
theorem k_1438 : (Jvm.Cond.instanceMethod ({ cls := "PipelineBeltModel", name := "pick", desc := "(IIIII)V" } : Jvm.MethodName)) ∈ lw_g := lw_gm (List.mem_append_right _ (List.mem_of_getElem? (i := 1438) (by decide +kernel))) rfl
theorem k_1440 : (Jvm.Cond.methodLink "PipelineBeltModel" (355 : Nat) ({ cls := "PipelineBeltModel", name := "rowOf", desc := "(IIIZI)V" } : Jvm.MethodName)) ∈ lw_g := lw_gm (List.mem_append_right _ (List.mem_of_getElem? (i := 1440) (by decide +kernel))) rfl
theorem k_1442 : (Jvm.Cond.instanceMethod ({ cls := "PipelineBeltModel", name := "rowOf", desc := "(IIIZI)V" } : Jvm.MethodName)) ∈ lw_g := lw_gm (List.mem_append_right _ (List.mem_of_getElem? (i := 1442) (by decide +kernel))) rfl
theorem k_1444 : (Jvm.Cond.methodLink "PipelineBeltModel" (392 : Nat) ({ cls := "PipelineBeltModel", name := "sort", desc := "(I)V" } : Jvm.MethodName)) ∈ lw_g := lw_gm (List.mem_append_right _ (List.mem_of_getElem? (i := 1444) (by decide +kernel))) rfl
theorem k_1446 : (Jvm.Cond.instanceMethod ({ cls := "PipelineBeltModel", name := "sort", desc := "(I)V" } : Jvm.MethodName)) ∈ lw_g := lw_gm (List.mem_append_right _ (List.mem_of_getElem? (i := 1446) (by decide +kernel))) rfl
theorem k_1448 : (Jvm.Cond.methodLink "PipelineBeltModel" (370 : Nat) ({ cls := "PipelineBeltModel", name := "findKey", desc := "(IIIZ)V" } : Jvm.MethodName)) ∈ lw_g := lw_gm (List.mem_append_right _ (List.mem_of_getElem? (i := 1448) (by decide +kernel))) rfl
theorem k_1450 : (Jvm.Cond.instanceMethod ({ cls := "PipelineBeltModel", name := "findKey", desc := "(IIIZ)V" } : Jvm.MethodName)) ∈ lw_g := lw_gm (List.mem_append_right _ (List.mem_of_getElem? (i := 1450) (by decide +kernel))) rfl
theorem k_1460 : (Jvm.Cond.methodLink "PipelineBeltModel" (374 : Nat) ({ cls := "PipelineBeltModel", name := "isBehind", desc := "(IIZ)Z" } : Jvm.MethodName)) ∈ lw_g := lw_gm (List.mem_append_right _ (List.mem_of_getElem? (i := 1460) (by decide +kernel))) rfl
theorem k_1462 : (Jvm.Cond.instanceMethod ({ cls := "PipelineBeltModel", name := "isBehind", desc := "(IIZ)Z" } : Jvm.MethodName)) ∈ lw_g := lw_gm (List.mem_append_right _ (List.mem_of_getElem? (i := 1462) (by decide +kernel))) rfl
theorem k_1464 : (Jvm.Cond.methodLink "PipelineBeltModel" (395 : Nat) ({ cls := "PipelineBeltModel", name := "lookup", desc := "(I)V" } : Jvm.MethodName)) ∈ lw_g := lw_gm (List.mem_append_right _ (List.mem_of_getElem? (i := 1464) (by decide +kernel))) rfl
theorem k_1466 : (Jvm.Cond.instanceMethod ({ cls := "PipelineBeltModel", name := "lookup", desc := "(I)V" } : Jvm.MethodName)) ∈ lw_g := lw_gm (List.mem_append_right _ (List.mem_of_getElem? (i := 1466) (by decide +kernel))) rfl
theorem k_1468 : (Jvm.Cond.methodLink "PipelineBeltModel" (378 : Nat) ({ cls := "PipelineBeltModel", name := "found", desc := "(III)V" } : Jvm.MethodName)) ∈ lw_g := lw_gm (List.mem_append_right _ (List.mem_of_getElem? (i := 1468) (by decide +kernel))) rfl
theorem k_1470 : (Jvm.Cond.instanceMethod ({ cls := "PipelineBeltModel", name := "found", desc := "(III)V" } : Jvm.MethodName)) ∈ lw_g := lw_gm (List.mem_append_right _ (List.mem_of_getElem? (i := 1470) (by decide +kernel))) rfl
theorem k_1472 : (Jvm.Cond.methodLink "PipelineBeltModel" (381 : Nat) ({ cls := "PipelineBeltModel", name := "belongs", desc := "(I)Z" } : Jvm.MethodName)) ∈ lw_g := lw_gm (List.mem_append_right _ (List.mem_of_getElem? (i := 1472) (by decide +kernel))) rfl
theorem k_1474 : (Jvm.Cond.instanceMethod ({ cls := "PipelineBeltModel", name := "belongs", desc := "(I)Z" } : Jvm.MethodName)) ∈ lw_g := lw_gm (List.mem_append_right _ (List.mem_of_getElem? (i := 1474) (by decide +kernel))) rfl
theorem k_1476 : (Jvm.Cond.methodLink "PipelineBeltModel" (398 : Nat) ({ cls := "PipelineBeltModel", name := "finish", desc := "()I" } : Jvm.MethodName)) ∈ lw_g := lw_gm (List.mem_append_right _ (List.mem_of_getElem? (i := 1476) (by decide +kernel))) rfl
theorem k_1478 : (Jvm.Cond.instanceMethod ({ cls := "PipelineBeltModel", name := "finish", desc := "()I" } : Jvm.MethodName)) ∈ lw_g := lw_gm (List.mem_append_right _ (List.mem_of_getElem? (i := 1478) (by decide +kernel))) rfl
abbrev b_MO_evaluate : ByteArray := prog_13_method_41_code
def y_MO_evaluate : MethodName := ⟨R_MO, "evaluate", "(III)I"⟩
theorem kc_MO_evaluate : Cond.code y_MO_evaluate b_MO_evaluate 4 (some .int) ∈ lw_g := lw_gm (List.mem_append_right _ (List.mem_of_getElem? (i := 1350) (by decide +kernel))) rfl
abbrev mw_MO_evaluate : List Cond := Cond.code y_MO_evaluate b_MO_evaluate 4 (some .int) :: lw_g
theorem hd_MO_evaluate : y_MO_evaluate.cls = R_MO ∧ y_MO_evaluate.cls ≠ "java/lang/invoke/MethodHandle" ∧ y_MO_evaluate.cls ≠ "java/lang/invoke/VarHandle" ∧ (parseMethodDescriptor y_MO_evaluate.desc).map (fun d => d.parameters.length) = some 3 := by decide +kernel
theorem kp_MO_evaluate : Cond.selects R_MO y_MO_evaluate y_MO_evaluate ∈ lw_g := lw_gm (List.mem_append_left _ (by decide +kernel)) rfl
theorem d_MO_evaluate_0 : decode b_MO_evaluate 0 = .ok (.aload_n 0, 1) := by decide +kernel
theorem d_MO_evaluate_1 : decode b_MO_evaluate 1 = .ok (.iload_n 3, 1) := by decide +kernel
theorem d_MO_evaluate_2 : decode b_MO_evaluate 2 = .ok (.sipush 4100, 3) := by decide +kernel
theorem d_MO_evaluate_5 : decode b_MO_evaluate 5 = .ok (.invokevirtual 190, 3) := by decide +kernel
theorem d_MO_evaluate_8 : decode b_MO_evaluate 8 = .ok (.aload_n 0, 1) := by decide +kernel
theorem d_MO_evaluate_9 : decode b_MO_evaluate 9 = .ok (.iload_n 1, 1) := by decide +kernel
theorem d_MO_evaluate_10 : decode b_MO_evaluate 10 = .ok (.invokevirtual 193, 3) := by decide +kernel
theorem d_MO_evaluate_13 : decode b_MO_evaluate 13 = .ok (.ifCond .eq 17, 3) := by decide +kernel
theorem d_MO_evaluate_16 : decode b_MO_evaluate 16 = .ok (.aload_n 0, 1) := by decide +kernel
theorem d_MO_evaluate_17 : decode b_MO_evaluate 17 = .ok (.iconst 3, 1) := by decide +kernel
theorem d_MO_evaluate_18 : decode b_MO_evaluate 18 = .ok (.iload_n 2, 1) := by decide +kernel
theorem d_MO_evaluate_19 : decode b_MO_evaluate 19 = .ok (.aload_n 0, 1) := by decide +kernel
theorem d_MO_evaluate_20 : decode b_MO_evaluate 20 = .ok (.iload_n 1, 1) := by decide +kernel
theorem d_MO_evaluate_21 : decode b_MO_evaluate 21 = .ok (.invokevirtual 81, 3) := by decide +kernel
theorem d_MO_evaluate_24 : decode b_MO_evaluate 24 = .ok (.iconst 5, 1) := by decide +kernel
theorem d_MO_evaluate_25 : decode b_MO_evaluate 25 = .ok (.iadd, 1) := by decide +kernel
theorem d_MO_evaluate_26 : decode b_MO_evaluate 26 = .ok (.invokevirtual 176, 3) := by decide +kernel
theorem d_MO_evaluate_29 : decode b_MO_evaluate 29 = .ok (.ireturn, 1) := by decide +kernel
theorem d_MO_evaluate_30 : decode b_MO_evaluate 30 = .ok (.aload_n 0, 1) := by decide +kernel
theorem d_MO_evaluate_31 : decode b_MO_evaluate 31 = .ok (.aload_n 0, 1) := by decide +kernel
theorem d_MO_evaluate_32 : decode b_MO_evaluate 32 = .ok (.iload_n 1, 1) := by decide +kernel
theorem d_MO_evaluate_33 : decode b_MO_evaluate 33 = .ok (.invokevirtual 81, 3) := by decide +kernel
theorem d_MO_evaluate_36 : decode b_MO_evaluate 36 = .ok (.aload_n 0, 1) := by decide +kernel
theorem d_MO_evaluate_37 : decode b_MO_evaluate 37 = .ok (.aload_n 0, 1) := by decide +kernel
theorem d_MO_evaluate_38 : decode b_MO_evaluate 38 = .ok (.getfield 8, 3) := by decide +kernel
theorem d_MO_evaluate_41 : decode b_MO_evaluate 41 = .ok (.iload_n 1, 1) := by decide +kernel
theorem d_MO_evaluate_42 : decode b_MO_evaluate 42 = .ok (.iaload, 1) := by decide +kernel
theorem d_MO_evaluate_43 : decode b_MO_evaluate 43 = .ok (.aload_n 0, 1) := by decide +kernel
theorem d_MO_evaluate_44 : decode b_MO_evaluate 44 = .ok (.iload_n 1, 1) := by decide +kernel
theorem d_MO_evaluate_45 : decode b_MO_evaluate 45 = .ok (.invokevirtual 81, 3) := by decide +kernel
theorem d_MO_evaluate_48 : decode b_MO_evaluate 48 = .ok (.invokevirtual 84, 3) := by decide +kernel
theorem d_MO_evaluate_51 : decode b_MO_evaluate 51 = .ok (.invokevirtual 173, 3) := by decide +kernel
theorem d_MO_evaluate_54 : decode b_MO_evaluate 54 = .ok (.aload_n 0, 1) := by decide +kernel
theorem d_MO_evaluate_55 : decode b_MO_evaluate 55 = .ok (.getfield 8, 3) := by decide +kernel
theorem d_MO_evaluate_58 : decode b_MO_evaluate 58 = .ok (.iload_n 1, 1) := by decide +kernel
theorem d_MO_evaluate_59 : decode b_MO_evaluate 59 = .ok (.iaload, 1) := by decide +kernel
theorem d_MO_evaluate_60 : decode b_MO_evaluate 60 = .ok (.ireturn, 1) := by decide +kernel
abbrev b_MO_keyOf : ByteArray := prog_13_method_66_code
def y_MO_keyOf : MethodName := ⟨R_MO, "keyOf", "(III)I"⟩
theorem kc_MO_keyOf : Cond.code y_MO_keyOf b_MO_keyOf 5 (some .int) ∈ lw_g := lw_gm (List.mem_append_right _ (List.mem_of_getElem? (i := 1406) (by decide +kernel))) rfl
abbrev mw_MO_keyOf : List Cond := Cond.code y_MO_keyOf b_MO_keyOf 5 (some .int) :: lw_g
theorem hd_MO_keyOf : y_MO_keyOf.cls = R_MO ∧ y_MO_keyOf.cls ≠ "java/lang/invoke/MethodHandle" ∧ y_MO_keyOf.cls ≠ "java/lang/invoke/VarHandle" ∧ (parseMethodDescriptor y_MO_keyOf.desc).map (fun d => d.parameters.length) = some 3 := by decide +kernel
theorem kp_MO_keyOf : Cond.selects R_MO y_MO_keyOf y_MO_keyOf ∈ lw_g := lw_gm (List.mem_append_left _ (by decide +kernel)) rfl
theorem d_MO_keyOf_0 : decode b_MO_keyOf 0 = .ok (.aload_n 0, 1) := by decide +kernel
theorem d_MO_keyOf_1 : decode b_MO_keyOf 1 = .ok (.iload_n 1, 1) := by decide +kernel
theorem d_MO_keyOf_2 : decode b_MO_keyOf 2 = .ok (.iload_n 2, 1) := by decide +kernel
theorem d_MO_keyOf_3 : decode b_MO_keyOf 3 = .ok (.iload_n 3, 1) := by decide +kernel
theorem d_MO_keyOf_4 : decode b_MO_keyOf 4 = .ok (.invokevirtual 310, 3) := by decide +kernel
theorem d_MO_keyOf_7 : decode b_MO_keyOf 7 = .ok (.istore 4, 2) := by decide +kernel
theorem d_MO_keyOf_9 : decode b_MO_keyOf 9 = .ok (.iload 4, 2) := by decide +kernel
theorem d_MO_keyOf_11 : decode b_MO_keyOf 11 = .ok (.ifCond .ne 8, 3) := by decide +kernel
theorem d_MO_keyOf_14 : decode b_MO_keyOf 14 = .ok (.bipush 10, 2) := by decide +kernel
theorem d_MO_keyOf_16 : decode b_MO_keyOf 16 = .ok (.goto 5, 3) := by decide +kernel
theorem d_MO_keyOf_19 : decode b_MO_keyOf 19 = .ok (.iload 4, 2) := by decide +kernel
theorem d_MO_keyOf_21 : decode b_MO_keyOf 21 = .ok (.ireturn, 1) := by decide +kernel
abbrev b_MO_endDocument : ByteArray := prog_13_method_44_code
def y_MO_endDocument : MethodName := ⟨R_MO, "endDocument", "(I)V"⟩
theorem kc_MO_endDocument : Cond.code y_MO_endDocument b_MO_endDocument 3 none ∈ lw_g := lw_gm (List.mem_append_right _ (List.mem_of_getElem? (i := 1382) (by decide +kernel))) rfl
abbrev mw_MO_endDocument : List Cond := Cond.code y_MO_endDocument b_MO_endDocument 3 none :: lw_g
theorem hd_MO_endDocument : y_MO_endDocument.cls = R_MO ∧ y_MO_endDocument.cls ≠ "java/lang/invoke/MethodHandle" ∧ y_MO_endDocument.cls ≠ "java/lang/invoke/VarHandle" ∧ (parseMethodDescriptor y_MO_endDocument.desc).map (fun d => d.parameters.length) = some 1 := by decide +kernel
theorem kp_MO_endDocument : Cond.selects R_MO y_MO_endDocument y_MO_endDocument ∈ lw_g := lw_gm (List.mem_append_left _ (by decide +kernel)) rfl
theorem d_MO_endDocument_0 : decode b_MO_endDocument 0 = .ok (.aload_n 0, 1) := by decide +kernel
theorem d_MO_endDocument_1 : decode b_MO_endDocument 1 = .ok (.iload_n 1, 1) := by decide +kernel
theorem d_MO_endDocument_2 : decode b_MO_endDocument 2 = .ok (.invokevirtual 187, 3) := by decide +kernel
theorem d_MO_endDocument_5 : decode b_MO_endDocument 5 = .ok (.aload_n 0, 1) := by decide +kernel
theorem d_MO_endDocument_6 : decode b_MO_endDocument 6 = .ok (.getfield 155, 3) := by decide +kernel
theorem d_MO_endDocument_9 : decode b_MO_endDocument 9 = .ok (.iload_n 1, 1) := by decide +kernel
theorem d_MO_endDocument_10 : decode b_MO_endDocument 10 = .ok (.isub, 1) := by decide +kernel
theorem d_MO_endDocument_11 : decode b_MO_endDocument 11 = .ok (.istore_n 2, 1) := by decide +kernel
theorem d_MO_endDocument_12 : decode b_MO_endDocument 12 = .ok (.aload_n 0, 1) := by decide +kernel
theorem d_MO_endDocument_13 : decode b_MO_endDocument 13 = .ok (.getfield 151, 3) := by decide +kernel
theorem d_MO_endDocument_16 : decode b_MO_endDocument 16 = .ok (.ifCond .ne 42, 3) := by decide +kernel
theorem d_MO_endDocument_19 : decode b_MO_endDocument 19 = .ok (.iload_n 2, 1) := by decide +kernel
theorem d_MO_endDocument_20 : decode b_MO_endDocument 20 = .ok (.sipush 2000, 3) := by decide +kernel
theorem d_MO_endDocument_23 : decode b_MO_endDocument 23 = .ok (.if_icmp .gt 35, 3) := by decide +kernel
theorem d_MO_endDocument_26 : decode b_MO_endDocument 26 = .ok (.aload_n 0, 1) := by decide +kernel
theorem d_MO_endDocument_27 : decode b_MO_endDocument 27 = .ok (.getfield 197, 3) := by decide +kernel
theorem d_MO_endDocument_30 : decode b_MO_endDocument 30 = .ok (.sipush 200, 3) := by decide +kernel
theorem d_MO_endDocument_33 : decode b_MO_endDocument 33 = .ok (.if_icmp .eq 25, 3) := by decide +kernel
theorem d_MO_endDocument_36 : decode b_MO_endDocument 36 = .ok (.aload_n 0, 1) := by decide +kernel
theorem d_MO_endDocument_37 : decode b_MO_endDocument 37 = .ok (.getfield 200, 3) := by decide +kernel
theorem d_MO_endDocument_40 : decode b_MO_endDocument 40 = .ok (.iload_n 2, 1) := by decide +kernel
theorem d_MO_endDocument_41 : decode b_MO_endDocument 41 = .ok (.iadd, 1) := by decide +kernel
theorem d_MO_endDocument_42 : decode b_MO_endDocument 42 = .ok (.ldc 207, 2) := by decide +kernel
theorem d_MO_endDocument_44 : decode b_MO_endDocument 44 = .ok (.if_icmp .gt 14, 3) := by decide +kernel
theorem d_MO_endDocument_47 : decode b_MO_endDocument 47 = .ok (.aload_n 0, 1) := by decide +kernel
theorem d_MO_endDocument_48 : decode b_MO_endDocument 48 = .ok (.iconst 3, 1) := by decide +kernel
theorem d_MO_endDocument_49 : decode b_MO_endDocument 49 = .ok (.iload_n 1, 1) := by decide +kernel
theorem d_MO_endDocument_50 : decode b_MO_endDocument 50 = .ok (.invokevirtual 128, 3) := by decide +kernel
theorem d_MO_endDocument_53 : decode b_MO_endDocument 53 = .ok (.bipush 16, 2) := by decide +kernel
theorem d_MO_endDocument_55 : decode b_MO_endDocument 55 = .ok (.if_icmp .le 9, 3) := by decide +kernel
theorem d_MO_endDocument_58 : decode b_MO_endDocument 58 = .ok (.aload_n 0, 1) := by decide +kernel
theorem d_MO_endDocument_59 : decode b_MO_endDocument 59 = .ok (.iconst 1, 1) := by decide +kernel
theorem d_MO_endDocument_60 : decode b_MO_endDocument 60 = .ok (.putfield 203, 3) := by decide +kernel
theorem d_MO_endDocument_63 : decode b_MO_endDocument 63 = .ok (.return_, 1) := by decide +kernel
theorem d_MO_endDocument_64 : decode b_MO_endDocument 64 = .ok (.aload_n 0, 1) := by decide +kernel
theorem d_MO_endDocument_65 : decode b_MO_endDocument 65 = .ok (.getfield 203, 3) := by decide +kernel
theorem d_MO_endDocument_68 : decode b_MO_endDocument 68 = .ok (.ifCond .eq 4, 3) := by decide +kernel
theorem d_MO_endDocument_71 : decode b_MO_endDocument 71 = .ok (.return_, 1) := by decide +kernel
theorem d_MO_endDocument_72 : decode b_MO_endDocument 72 = .ok (.aload_n 0, 1) := by decide +kernel
theorem d_MO_endDocument_73 : decode b_MO_endDocument 73 = .ok (.getfield 26, 3) := by decide +kernel
theorem d_MO_endDocument_76 : decode b_MO_endDocument 76 = .ok (.aload_n 0, 1) := by decide +kernel
theorem d_MO_endDocument_77 : decode b_MO_endDocument 77 = .ok (.getfield 197, 3) := by decide +kernel
theorem d_MO_endDocument_80 : decode b_MO_endDocument 80 = .ok (.iload_n 1, 1) := by decide +kernel
theorem d_MO_endDocument_81 : decode b_MO_endDocument 81 = .ok (.iastore, 1) := by decide +kernel
theorem d_MO_endDocument_82 : decode b_MO_endDocument 82 = .ok (.aload_n 0, 1) := by decide +kernel
theorem d_MO_endDocument_83 : decode b_MO_endDocument 83 = .ok (.getfield 29, 3) := by decide +kernel
theorem d_MO_endDocument_86 : decode b_MO_endDocument 86 = .ok (.aload_n 0, 1) := by decide +kernel
theorem d_MO_endDocument_87 : decode b_MO_endDocument 87 = .ok (.getfield 197, 3) := by decide +kernel
theorem d_MO_endDocument_90 : decode b_MO_endDocument 90 = .ok (.iload_n 2, 1) := by decide +kernel
theorem d_MO_endDocument_91 : decode b_MO_endDocument 91 = .ok (.iastore, 1) := by decide +kernel
theorem d_MO_endDocument_92 : decode b_MO_endDocument 92 = .ok (.aload_n 0, 1) := by decide +kernel
theorem d_MO_endDocument_93 : decode b_MO_endDocument 93 = .ok (.dup, 1) := by decide +kernel
theorem d_MO_endDocument_94 : decode b_MO_endDocument 94 = .ok (.getfield 197, 3) := by decide +kernel
theorem d_MO_endDocument_97 : decode b_MO_endDocument 97 = .ok (.iconst 1, 1) := by decide +kernel
theorem d_MO_endDocument_98 : decode b_MO_endDocument 98 = .ok (.iadd, 1) := by decide +kernel
theorem d_MO_endDocument_99 : decode b_MO_endDocument 99 = .ok (.putfield 197, 3) := by decide +kernel
theorem d_MO_endDocument_102 : decode b_MO_endDocument 102 = .ok (.aload_n 0, 1) := by decide +kernel
theorem d_MO_endDocument_103 : decode b_MO_endDocument 103 = .ok (.dup, 1) := by decide +kernel
theorem d_MO_endDocument_104 : decode b_MO_endDocument 104 = .ok (.getfield 200, 3) := by decide +kernel
theorem d_MO_endDocument_107 : decode b_MO_endDocument 107 = .ok (.iload_n 2, 1) := by decide +kernel
theorem d_MO_endDocument_108 : decode b_MO_endDocument 108 = .ok (.iadd, 1) := by decide +kernel
theorem d_MO_endDocument_109 : decode b_MO_endDocument 109 = .ok (.putfield 200, 3) := by decide +kernel
theorem d_MO_endDocument_112 : decode b_MO_endDocument 112 = .ok (.return_, 1) := by decide +kernel
abbrev b_MO_keep : ByteArray := prog_13_method_45_code
def y_MO_keep : MethodName := ⟨R_MO, "keep", "(I)V"⟩
theorem kc_MO_keep : Cond.code y_MO_keep b_MO_keep 4 none ∈ lw_g := lw_gm (List.mem_append_right _ (List.mem_of_getElem? (i := 1398) (by decide +kernel))) rfl
abbrev mw_MO_keep : List Cond := Cond.code y_MO_keep b_MO_keep 4 none :: lw_g
theorem hd_MO_keep : y_MO_keep.cls = R_MO ∧ y_MO_keep.cls ≠ "java/lang/invoke/MethodHandle" ∧ y_MO_keep.cls ≠ "java/lang/invoke/VarHandle" ∧ (parseMethodDescriptor y_MO_keep.desc).map (fun d => d.parameters.length) = some 1 := by decide +kernel
theorem kp_MO_keep : Cond.selects R_MO y_MO_keep y_MO_keep ∈ lw_g := lw_gm (List.mem_append_left _ (by decide +kernel)) rfl
theorem d_MO_keep_0 : decode b_MO_keep 0 = .ok (.aload_n 0, 1) := by decide +kernel
theorem d_MO_keep_1 : decode b_MO_keep 1 = .ok (.getfield 20, 3) := by decide +kernel
theorem d_MO_keep_4 : decode b_MO_keep 4 = .ok (.iload_n 1, 1) := by decide +kernel
theorem d_MO_keep_5 : decode b_MO_keep 5 = .ok (.iaload, 1) := by decide +kernel
theorem d_MO_keep_6 : decode b_MO_keep 6 = .ok (.istore_n 2, 1) := by decide +kernel
theorem d_MO_keep_7 : decode b_MO_keep 7 = .ok (.aload_n 0, 1) := by decide +kernel
theorem d_MO_keep_8 : decode b_MO_keep 8 = .ok (.invokevirtual 208, 3) := by decide +kernel
theorem d_MO_keep_11 : decode b_MO_keep 11 = .ok (.istore_n 3, 1) := by decide +kernel
theorem d_MO_keep_12 : decode b_MO_keep 12 = .ok (.aload_n 0, 1) := by decide +kernel
theorem d_MO_keep_13 : decode b_MO_keep 13 = .ok (.iload_n 2, 1) := by decide +kernel
theorem d_MO_keep_14 : decode b_MO_keep 14 = .ok (.iconst 4, 1) := by decide +kernel
theorem d_MO_keep_15 : decode b_MO_keep 15 = .ok (.iadd, 1) := by decide +kernel
theorem d_MO_keep_16 : decode b_MO_keep 16 = .ok (.aload_n 0, 1) := by decide +kernel
theorem d_MO_keep_17 : decode b_MO_keep 17 = .ok (.getfield 23, 3) := by decide +kernel
theorem d_MO_keep_20 : decode b_MO_keep 20 = .ok (.iload_n 1, 1) := by decide +kernel
theorem d_MO_keep_21 : decode b_MO_keep 21 = .ok (.iaload, 1) := by decide +kernel
theorem d_MO_keep_22 : decode b_MO_keep 22 = .ok (.iconst 5, 1) := by decide +kernel
theorem d_MO_keep_23 : decode b_MO_keep 23 = .ok (.isub, 1) := by decide +kernel
theorem d_MO_keep_24 : decode b_MO_keep 24 = .ok (.invokevirtual 173, 3) := by decide +kernel
theorem d_MO_keep_27 : decode b_MO_keep 27 = .ok (.aload_n 0, 1) := by decide +kernel
theorem d_MO_keep_28 : decode b_MO_keep 28 = .ok (.iload_n 3, 1) := by decide +kernel
theorem d_MO_keep_29 : decode b_MO_keep 29 = .ok (.invokevirtual 211, 3) := by decide +kernel
theorem d_MO_keep_32 : decode b_MO_keep 32 = .ok (.return_, 1) := by decide +kernel
abbrev b_MO_finish : ByteArray := prog_13_method_46_code
def y_MO_finish : MethodName := ⟨R_MO, "finish", "()I"⟩
theorem kc_MO_finish : Cond.code y_MO_finish b_MO_finish 4 (some .int) ∈ lw_g := lw_gm (List.mem_append_right _ (List.mem_of_getElem? (i := 1479) (by decide +kernel))) rfl
abbrev mw_MO_finish : List Cond := Cond.code y_MO_finish b_MO_finish 4 (some .int) :: lw_g
theorem hd_MO_finish : y_MO_finish.cls = R_MO ∧ y_MO_finish.cls ≠ "java/lang/invoke/MethodHandle" ∧ y_MO_finish.cls ≠ "java/lang/invoke/VarHandle" ∧ (parseMethodDescriptor y_MO_finish.desc).map (fun d => d.parameters.length) = some 0 := by decide +kernel
theorem kp_MO_finish : Cond.selects R_MO y_MO_finish y_MO_finish ∈ lw_g := lw_gm (List.mem_append_left _ (by decide +kernel)) rfl
theorem d_MO_finish_0 : decode b_MO_finish 0 = .ok (.aload_n 0, 1) := by decide +kernel
theorem d_MO_finish_1 : decode b_MO_finish 1 = .ok (.getfield 203, 3) := by decide +kernel
theorem d_MO_finish_4 : decode b_MO_finish 4 = .ok (.ifCond .eq 5, 3) := by decide +kernel
theorem d_MO_finish_7 : decode b_MO_finish 7 = .ok (.iconst 5, 1) := by decide +kernel
theorem d_MO_finish_8 : decode b_MO_finish 8 = .ok (.ireturn, 1) := by decide +kernel
theorem d_MO_finish_9 : decode b_MO_finish 9 = .ok (.iconst 0, 1) := by decide +kernel
theorem d_MO_finish_10 : decode b_MO_finish 10 = .ok (.istore_n 1, 1) := by decide +kernel
theorem d_MO_finish_11 : decode b_MO_finish 11 = .ok (.iconst 0, 1) := by decide +kernel
theorem d_MO_finish_12 : decode b_MO_finish 12 = .ok (.istore_n 2, 1) := by decide +kernel
theorem d_MO_finish_13 : decode b_MO_finish 13 = .ok (.iload_n 2, 1) := by decide +kernel
theorem d_MO_finish_14 : decode b_MO_finish 14 = .ok (.aload_n 0, 1) := by decide +kernel
theorem d_MO_finish_15 : decode b_MO_finish 15 = .ok (.getfield 197, 3) := by decide +kernel
theorem d_MO_finish_18 : decode b_MO_finish 18 = .ok (.if_icmp .ge 76, 3) := by decide +kernel
theorem d_MO_finish_21 : decode b_MO_finish 21 = .ok (.aload_n 0, 1) := by decide +kernel
theorem d_MO_finish_22 : decode b_MO_finish 22 = .ok (.getfield 20, 3) := by decide +kernel
theorem d_MO_finish_25 : decode b_MO_finish 25 = .ok (.iload_n 2, 1) := by decide +kernel
theorem d_MO_finish_26 : decode b_MO_finish 26 = .ok (.iload_n 1, 1) := by decide +kernel
theorem d_MO_finish_27 : decode b_MO_finish 27 = .ok (.iastore, 1) := by decide +kernel
theorem d_MO_finish_28 : decode b_MO_finish 28 = .ok (.aload_n 0, 1) := by decide +kernel
theorem d_MO_finish_29 : decode b_MO_finish 29 = .ok (.getfield 23, 3) := by decide +kernel
theorem d_MO_finish_32 : decode b_MO_finish 32 = .ok (.iload_n 2, 1) := by decide +kernel
theorem d_MO_finish_33 : decode b_MO_finish 33 = .ok (.aload_n 0, 1) := by decide +kernel
theorem d_MO_finish_34 : decode b_MO_finish 34 = .ok (.getfield 29, 3) := by decide +kernel
theorem d_MO_finish_37 : decode b_MO_finish 37 = .ok (.iload_n 2, 1) := by decide +kernel
theorem d_MO_finish_38 : decode b_MO_finish 38 = .ok (.iaload, 1) := by decide +kernel
theorem d_MO_finish_39 : decode b_MO_finish 39 = .ok (.iastore, 1) := by decide +kernel
theorem d_MO_finish_40 : decode b_MO_finish 40 = .ok (.iconst 0, 1) := by decide +kernel
theorem d_MO_finish_41 : decode b_MO_finish 41 = .ok (.istore_n 3, 1) := by decide +kernel
theorem d_MO_finish_42 : decode b_MO_finish 42 = .ok (.iload_n 3, 1) := by decide +kernel
theorem d_MO_finish_43 : decode b_MO_finish 43 = .ok (.aload_n 0, 1) := by decide +kernel
theorem d_MO_finish_44 : decode b_MO_finish 44 = .ok (.getfield 23, 3) := by decide +kernel
theorem d_MO_finish_47 : decode b_MO_finish 47 = .ok (.iload_n 2, 1) := by decide +kernel
theorem d_MO_finish_48 : decode b_MO_finish 48 = .ok (.iaload, 1) := by decide +kernel
theorem d_MO_finish_49 : decode b_MO_finish 49 = .ok (.if_icmp .ge 30, 3) := by decide +kernel
theorem d_MO_finish_52 : decode b_MO_finish 52 = .ok (.aload_n 0, 1) := by decide +kernel
theorem d_MO_finish_53 : decode b_MO_finish 53 = .ok (.getfield 8, 3) := by decide +kernel
theorem d_MO_finish_56 : decode b_MO_finish 56 = .ok (.iload_n 1, 1) := by decide +kernel
theorem d_MO_finish_57 : decode b_MO_finish 57 = .ok (.iload_n 3, 1) := by decide +kernel
theorem d_MO_finish_58 : decode b_MO_finish 58 = .ok (.iadd, 1) := by decide +kernel
theorem d_MO_finish_59 : decode b_MO_finish 59 = .ok (.aload_n 0, 1) := by decide +kernel
theorem d_MO_finish_60 : decode b_MO_finish 60 = .ok (.getfield 8, 3) := by decide +kernel
theorem d_MO_finish_63 : decode b_MO_finish 63 = .ok (.aload_n 0, 1) := by decide +kernel
theorem d_MO_finish_64 : decode b_MO_finish 64 = .ok (.getfield 26, 3) := by decide +kernel
theorem d_MO_finish_67 : decode b_MO_finish 67 = .ok (.iload_n 2, 1) := by decide +kernel
theorem d_MO_finish_68 : decode b_MO_finish 68 = .ok (.iaload, 1) := by decide +kernel
theorem d_MO_finish_69 : decode b_MO_finish 69 = .ok (.iload_n 3, 1) := by decide +kernel
theorem d_MO_finish_70 : decode b_MO_finish 70 = .ok (.iadd, 1) := by decide +kernel
theorem d_MO_finish_71 : decode b_MO_finish 71 = .ok (.iaload, 1) := by decide +kernel
theorem d_MO_finish_72 : decode b_MO_finish 72 = .ok (.iastore, 1) := by decide +kernel
theorem d_MO_finish_73 : decode b_MO_finish 73 = .ok (.iinc 3 1, 3) := by decide +kernel
theorem d_MO_finish_76 : decode b_MO_finish 76 = .ok (.goto (-34), 3) := by decide +kernel
theorem d_MO_finish_79 : decode b_MO_finish 79 = .ok (.iload_n 1, 1) := by decide +kernel
theorem d_MO_finish_80 : decode b_MO_finish 80 = .ok (.aload_n 0, 1) := by decide +kernel
theorem d_MO_finish_81 : decode b_MO_finish 81 = .ok (.getfield 23, 3) := by decide +kernel
theorem d_MO_finish_84 : decode b_MO_finish 84 = .ok (.iload_n 2, 1) := by decide +kernel
theorem d_MO_finish_85 : decode b_MO_finish 85 = .ok (.iaload, 1) := by decide +kernel
theorem d_MO_finish_86 : decode b_MO_finish 86 = .ok (.iadd, 1) := by decide +kernel
theorem d_MO_finish_87 : decode b_MO_finish 87 = .ok (.istore_n 1, 1) := by decide +kernel
theorem d_MO_finish_88 : decode b_MO_finish 88 = .ok (.iinc 2 1, 3) := by decide +kernel
theorem d_MO_finish_91 : decode b_MO_finish 91 = .ok (.goto (-78), 3) := by decide +kernel
theorem d_MO_finish_94 : decode b_MO_finish 94 = .ok (.aload_n 0, 1) := by decide +kernel
theorem d_MO_finish_95 : decode b_MO_finish 95 = .ok (.getfield 14, 3) := by decide +kernel
theorem d_MO_finish_98 : decode b_MO_finish 98 = .ok (.iconst 0, 1) := by decide +kernel
theorem d_MO_finish_99 : decode b_MO_finish 99 = .ok (.aload_n 0, 1) := by decide +kernel
theorem d_MO_finish_100 : decode b_MO_finish 100 = .ok (.getfield 197, 3) := by decide +kernel
theorem d_MO_finish_103 : decode b_MO_finish 103 = .ok (.iastore, 1) := by decide +kernel
theorem d_MO_finish_104 : decode b_MO_finish 104 = .ok (.aload_n 0, 1) := by decide +kernel
theorem d_MO_finish_105 : decode b_MO_finish 105 = .ok (.getfield 17, 3) := by decide +kernel
theorem d_MO_finish_108 : decode b_MO_finish 108 = .ok (.iconst 0, 1) := by decide +kernel
theorem d_MO_finish_109 : decode b_MO_finish 109 = .ok (.iload_n 1, 1) := by decide +kernel
theorem d_MO_finish_110 : decode b_MO_finish 110 = .ok (.iastore, 1) := by decide +kernel
theorem d_MO_finish_111 : decode b_MO_finish 111 = .ok (.iconst 0, 1) := by decide +kernel
theorem d_MO_finish_112 : decode b_MO_finish 112 = .ok (.ireturn, 1) := by decide +kernel
abbrev b_MO_valueElement : ByteArray := prog_13_method_63_code
def y_MO_valueElement : MethodName := ⟨R_MO, "valueElement", "(III)V"⟩
theorem kc_MO_valueElement : Cond.code y_MO_valueElement b_MO_valueElement 10 none ∈ lw_g := lw_gm (List.mem_append_right _ (List.mem_of_getElem? (i := 1345) (by decide +kernel))) rfl
abbrev mw_MO_valueElement : List Cond := Cond.code y_MO_valueElement b_MO_valueElement 10 none :: lw_g
theorem hd_MO_valueElement : y_MO_valueElement.cls = R_MO ∧ y_MO_valueElement.cls ≠ "java/lang/invoke/MethodHandle" ∧ y_MO_valueElement.cls ≠ "java/lang/invoke/VarHandle" ∧ (parseMethodDescriptor y_MO_valueElement.desc).map (fun d => d.parameters.length) = some 3 := by decide +kernel
theorem kp_MO_valueElement : Cond.selects R_MO y_MO_valueElement y_MO_valueElement ∈ lw_g := lw_gm (List.mem_append_left _ (by decide +kernel)) rfl
theorem d_MO_valueElement_0 : decode b_MO_valueElement 0 = .ok (.aload_n 0, 1) := by decide +kernel
theorem d_MO_valueElement_1 : decode b_MO_valueElement 1 = .ok (.getfield 155, 3) := by decide +kernel
theorem d_MO_valueElement_4 : decode b_MO_valueElement 4 = .ok (.istore 4, 2) := by decide +kernel
theorem d_MO_valueElement_6 : decode b_MO_valueElement 6 = .ok (.aload_n 0, 1) := by decide +kernel
theorem d_MO_valueElement_7 : decode b_MO_valueElement 7 = .ok (.getfield 158, 3) := by decide +kernel
theorem d_MO_valueElement_10 : decode b_MO_valueElement 10 = .ok (.istore 5, 2) := by decide +kernel
theorem d_MO_valueElement_12 : decode b_MO_valueElement 12 = .ok (.aload_n 0, 1) := by decide +kernel
theorem d_MO_valueElement_13 : decode b_MO_valueElement 13 = .ok (.getfield 161, 3) := by decide +kernel
theorem d_MO_valueElement_16 : decode b_MO_valueElement 16 = .ok (.istore 6, 2) := by decide +kernel
theorem d_MO_valueElement_18 : decode b_MO_valueElement 18 = .ok (.aload_n 0, 1) := by decide +kernel
theorem d_MO_valueElement_19 : decode b_MO_valueElement 19 = .ok (.getfield 151, 3) := by decide +kernel
theorem d_MO_valueElement_22 : decode b_MO_valueElement 22 = .ok (.istore 7, 2) := by decide +kernel
theorem d_MO_valueElement_24 : decode b_MO_valueElement 24 = .ok (.aload_n 0, 1) := by decide +kernel
theorem d_MO_valueElement_25 : decode b_MO_valueElement 25 = .ok (.iload_n 3, 1) := by decide +kernel
theorem d_MO_valueElement_26 : decode b_MO_valueElement 26 = .ok (.iload_n 2, 1) := by decide +kernel
theorem d_MO_valueElement_27 : decode b_MO_valueElement 27 = .ok (.ldc_w 309, 3) := by decide +kernel
theorem d_MO_valueElement_30 : decode b_MO_valueElement 30 = .ok (.invokevirtual 310, 3) := by decide +kernel
theorem d_MO_valueElement_33 : decode b_MO_valueElement 33 = .ok (.istore 8, 2) := by decide +kernel
theorem d_MO_valueElement_35 : decode b_MO_valueElement 35 = .ok (.aload_n 0, 1) := by decide +kernel
theorem d_MO_valueElement_36 : decode b_MO_valueElement 36 = .ok (.getfield 155, 3) := by decide +kernel
theorem d_MO_valueElement_39 : decode b_MO_valueElement 39 = .ok (.ldc_w 309, 3) := by decide +kernel
theorem d_MO_valueElement_42 : decode b_MO_valueElement 42 = .ok (.isub, 1) := by decide +kernel
theorem d_MO_valueElement_43 : decode b_MO_valueElement 43 = .ok (.istore 9, 2) := by decide +kernel
theorem d_MO_valueElement_45 : decode b_MO_valueElement 45 = .ok (.aload_n 0, 1) := by decide +kernel
theorem d_MO_valueElement_46 : decode b_MO_valueElement 46 = .ok (.iload 4, 2) := by decide +kernel
theorem d_MO_valueElement_48 : decode b_MO_valueElement 48 = .ok (.putfield 155, 3) := by decide +kernel
theorem d_MO_valueElement_51 : decode b_MO_valueElement 51 = .ok (.aload_n 0, 1) := by decide +kernel
theorem d_MO_valueElement_52 : decode b_MO_valueElement 52 = .ok (.iload 5, 2) := by decide +kernel
theorem d_MO_valueElement_54 : decode b_MO_valueElement 54 = .ok (.putfield 158, 3) := by decide +kernel
theorem d_MO_valueElement_57 : decode b_MO_valueElement 57 = .ok (.aload_n 0, 1) := by decide +kernel
theorem d_MO_valueElement_58 : decode b_MO_valueElement 58 = .ok (.iload 6, 2) := by decide +kernel
theorem d_MO_valueElement_60 : decode b_MO_valueElement 60 = .ok (.putfield 161, 3) := by decide +kernel
theorem d_MO_valueElement_63 : decode b_MO_valueElement 63 = .ok (.aload_n 0, 1) := by decide +kernel
theorem d_MO_valueElement_64 : decode b_MO_valueElement 64 = .ok (.iload 7, 2) := by decide +kernel
theorem d_MO_valueElement_66 : decode b_MO_valueElement 66 = .ok (.putfield 151, 3) := by decide +kernel
theorem d_MO_valueElement_69 : decode b_MO_valueElement 69 = .ok (.iload 8, 2) := by decide +kernel
theorem d_MO_valueElement_71 : decode b_MO_valueElement 71 = .ok (.ifCond .ne 4, 3) := by decide +kernel
theorem d_MO_valueElement_74 : decode b_MO_valueElement 74 = .ok (.return_, 1) := by decide +kernel
theorem d_MO_valueElement_75 : decode b_MO_valueElement 75 = .ok (.aload_n 0, 1) := by decide +kernel
theorem d_MO_valueElement_76 : decode b_MO_valueElement 76 = .ok (.iload 8, 2) := by decide +kernel
theorem d_MO_valueElement_78 : decode b_MO_valueElement 78 = .ok (.iload_n 1, 1) := by decide +kernel
theorem d_MO_valueElement_79 : decode b_MO_valueElement 79 = .ok (.invokevirtual 313, 3) := by decide +kernel
theorem d_MO_valueElement_82 : decode b_MO_valueElement 82 = .ok (.aload_n 0, 1) := by decide +kernel
theorem d_MO_valueElement_83 : decode b_MO_valueElement 83 = .ok (.ldc_w 309, 3) := by decide +kernel
theorem d_MO_valueElement_86 : decode b_MO_valueElement 86 = .ok (.iload 9, 2) := by decide +kernel
theorem d_MO_valueElement_88 : decode b_MO_valueElement 88 = .ok (.invokevirtual 173, 3) := by decide +kernel
theorem d_MO_valueElement_91 : decode b_MO_valueElement 91 = .ok (.return_, 1) := by decide +kernel
abbrev b_MO_project : ByteArray := prog_13_method_61_code
def y_MO_project : MethodName := ⟨R_MO, "project", "(I)V"⟩
theorem kc_MO_project : Cond.code y_MO_project b_MO_project 6 none ∈ lw_g := lw_gm (List.mem_append_right _ (List.mem_of_getElem? (i := 1309) (by decide +kernel))) rfl
abbrev mw_MO_project : List Cond := Cond.code y_MO_project b_MO_project 6 none :: lw_g
theorem hd_MO_project : y_MO_project.cls = R_MO ∧ y_MO_project.cls ≠ "java/lang/invoke/MethodHandle" ∧ y_MO_project.cls ≠ "java/lang/invoke/VarHandle" ∧ (parseMethodDescriptor y_MO_project.desc).map (fun d => d.parameters.length) = some 1 := by decide +kernel
theorem kp_MO_project : Cond.selects R_MO y_MO_project y_MO_project ∈ lw_g := lw_gm (List.mem_append_left _ (by decide +kernel)) rfl
theorem d_MO_project_0 : decode b_MO_project 0 = .ok (.iconst 0, 1) := by decide +kernel
theorem d_MO_project_1 : decode b_MO_project 1 = .ok (.istore_n 2, 1) := by decide +kernel
theorem d_MO_project_2 : decode b_MO_project 2 = .ok (.iload_n 2, 1) := by decide +kernel
theorem d_MO_project_3 : decode b_MO_project 3 = .ok (.aload_n 0, 1) := by decide +kernel
theorem d_MO_project_4 : decode b_MO_project 4 = .ok (.getfield 14, 3) := by decide +kernel
theorem d_MO_project_7 : decode b_MO_project 7 = .ok (.iconst 0, 1) := by decide +kernel
theorem d_MO_project_8 : decode b_MO_project 8 = .ok (.iaload, 1) := by decide +kernel
theorem d_MO_project_9 : decode b_MO_project 9 = .ok (.if_icmp .ge 111, 3) := by decide +kernel
theorem d_MO_project_12 : decode b_MO_project 12 = .ok (.aload_n 0, 1) := by decide +kernel
theorem d_MO_project_13 : decode b_MO_project 13 = .ok (.invokevirtual 208, 3) := by decide +kernel
theorem d_MO_project_16 : decode b_MO_project 16 = .ok (.istore_n 3, 1) := by decide +kernel
theorem d_MO_project_17 : decode b_MO_project 17 = .ok (.aload_n 0, 1) := by decide +kernel
theorem d_MO_project_18 : decode b_MO_project 18 = .ok (.iload_n 1, 1) := by decide +kernel
theorem d_MO_project_19 : decode b_MO_project 19 = .ok (.invokevirtual 108, 3) := by decide +kernel
theorem d_MO_project_22 : decode b_MO_project 22 = .ok (.istore 4, 2) := by decide +kernel
theorem d_MO_project_24 : decode b_MO_project 24 = .ok (.iload 4, 2) := by decide +kernel
theorem d_MO_project_26 : decode b_MO_project 26 = .ok (.ifCond .le 83, 3) := by decide +kernel
theorem d_MO_project_29 : decode b_MO_project 29 = .ok (.aload_n 0, 1) := by decide +kernel
theorem d_MO_project_30 : decode b_MO_project 30 = .ok (.getfield 8, 3) := by decide +kernel
theorem d_MO_project_33 : decode b_MO_project 33 = .ok (.iload 4, 2) := by decide +kernel
theorem d_MO_project_35 : decode b_MO_project 35 = .ok (.iaload, 1) := by decide +kernel
theorem d_MO_project_36 : decode b_MO_project 36 = .ok (.bipush 8, 2) := by decide +kernel
theorem d_MO_project_38 : decode b_MO_project 38 = .ok (.if_icmp .ne 46, 3) := by decide +kernel
theorem d_MO_project_41 : decode b_MO_project 41 = .ok (.aload_n 0, 1) := by decide +kernel
theorem d_MO_project_42 : decode b_MO_project 42 = .ok (.getfield 8, 3) := by decide +kernel
theorem d_MO_project_45 : decode b_MO_project 45 = .ok (.aload_n 0, 1) := by decide +kernel
theorem d_MO_project_46 : decode b_MO_project 46 = .ok (.iload 4, 2) := by decide +kernel
theorem d_MO_project_48 : decode b_MO_project 48 = .ok (.invokevirtual 81, 3) := by decide +kernel
theorem d_MO_project_51 : decode b_MO_project 51 = .ok (.iaload, 1) := by decide +kernel
theorem d_MO_project_52 : decode b_MO_project 52 = .ok (.iconst 1, 1) := by decide +kernel
theorem d_MO_project_53 : decode b_MO_project 53 = .ok (.if_icmp .ne 31, 3) := by decide +kernel
theorem d_MO_project_56 : decode b_MO_project 56 = .ok (.aload_n 0, 1) := by decide +kernel
theorem d_MO_project_57 : decode b_MO_project 57 = .ok (.aload_n 0, 1) := by decide +kernel
theorem d_MO_project_58 : decode b_MO_project 58 = .ok (.getfield 20, 3) := by decide +kernel
theorem d_MO_project_61 : decode b_MO_project 61 = .ok (.iload_n 2, 1) := by decide +kernel
theorem d_MO_project_62 : decode b_MO_project 62 = .ok (.iaload, 1) := by decide +kernel
theorem d_MO_project_63 : decode b_MO_project 63 = .ok (.iload 4, 2) := by decide +kernel
theorem d_MO_project_65 : decode b_MO_project 65 = .ok (.invokevirtual 300, 3) := by decide +kernel
theorem d_MO_project_68 : decode b_MO_project 68 = .ok (.istore 5, 2) := by decide +kernel
theorem d_MO_project_70 : decode b_MO_project 70 = .ok (.iload 5, 2) := by decide +kernel
theorem d_MO_project_72 : decode b_MO_project 72 = .ok (.ifCond .le 9, 3) := by decide +kernel
theorem d_MO_project_75 : decode b_MO_project 75 = .ok (.aload_n 0, 1) := by decide +kernel
theorem d_MO_project_76 : decode b_MO_project 76 = .ok (.iload 5, 2) := by decide +kernel
theorem d_MO_project_78 : decode b_MO_project 78 = .ok (.invokevirtual 303, 3) := by decide +kernel
theorem d_MO_project_81 : decode b_MO_project 81 = .ok (.goto 17, 3) := by decide +kernel
theorem d_MO_project_84 : decode b_MO_project 84 = .ok (.aload_n 0, 1) := by decide +kernel
theorem d_MO_project_85 : decode b_MO_project 85 = .ok (.iload 4, 2) := by decide +kernel
theorem d_MO_project_87 : decode b_MO_project 87 = .ok (.aload_n 0, 1) := by decide +kernel
theorem d_MO_project_88 : decode b_MO_project 88 = .ok (.getfield 20, 3) := by decide +kernel
theorem d_MO_project_91 : decode b_MO_project 91 = .ok (.iload_n 2, 1) := by decide +kernel
theorem d_MO_project_92 : decode b_MO_project 92 = .ok (.iaload, 1) := by decide +kernel
theorem d_MO_project_93 : decode b_MO_project 93 = .ok (.iload 4, 2) := by decide +kernel
theorem d_MO_project_95 : decode b_MO_project 95 = .ok (.invokevirtual 306, 3) := by decide +kernel
theorem d_MO_project_98 : decode b_MO_project 98 = .ok (.aload_n 0, 1) := by decide +kernel
theorem d_MO_project_99 : decode b_MO_project 99 = .ok (.iload 4, 2) := by decide +kernel
theorem d_MO_project_101 : decode b_MO_project 101 = .ok (.invokevirtual 111, 3) := by decide +kernel
theorem d_MO_project_104 : decode b_MO_project 104 = .ok (.istore 4, 2) := by decide +kernel
theorem d_MO_project_106 : decode b_MO_project 106 = .ok (.goto (-82), 3) := by decide +kernel
theorem d_MO_project_109 : decode b_MO_project 109 = .ok (.aload_n 0, 1) := by decide +kernel
theorem d_MO_project_110 : decode b_MO_project 110 = .ok (.iload_n 3, 1) := by decide +kernel
theorem d_MO_project_111 : decode b_MO_project 111 = .ok (.invokevirtual 211, 3) := by decide +kernel
theorem d_MO_project_114 : decode b_MO_project 114 = .ok (.iinc 2 1, 3) := by decide +kernel
theorem d_MO_project_117 : decode b_MO_project 117 = .ok (.goto (-115), 3) := by decide +kernel
theorem d_MO_project_120 : decode b_MO_project 120 = .ok (.return_, 1) := by decide +kernel
abbrev b_MO_unwind : ByteArray := prog_13_method_64_code
def y_MO_unwind : MethodName := ⟨R_MO, "unwind", "(I)V"⟩
theorem kc_MO_unwind : Cond.code y_MO_unwind b_MO_unwind 8 none ∈ lw_g := lw_gm (List.mem_append_right _ (List.mem_of_getElem? (i := 1390) (by decide +kernel))) rfl
abbrev mw_MO_unwind : List Cond := Cond.code y_MO_unwind b_MO_unwind 8 none :: lw_g
theorem hd_MO_unwind : y_MO_unwind.cls = R_MO ∧ y_MO_unwind.cls ≠ "java/lang/invoke/MethodHandle" ∧ y_MO_unwind.cls ≠ "java/lang/invoke/VarHandle" ∧ (parseMethodDescriptor y_MO_unwind.desc).map (fun d => d.parameters.length) = some 1 := by decide +kernel
theorem kp_MO_unwind : Cond.selects R_MO y_MO_unwind y_MO_unwind ∈ lw_g := lw_gm (List.mem_append_left _ (by decide +kernel)) rfl
theorem d_MO_unwind_0 : decode b_MO_unwind 0 = .ok (.iconst 0, 1) := by decide +kernel
theorem d_MO_unwind_1 : decode b_MO_unwind 1 = .ok (.istore_n 2, 1) := by decide +kernel
theorem d_MO_unwind_2 : decode b_MO_unwind 2 = .ok (.iload_n 2, 1) := by decide +kernel
theorem d_MO_unwind_3 : decode b_MO_unwind 3 = .ok (.aload_n 0, 1) := by decide +kernel
theorem d_MO_unwind_4 : decode b_MO_unwind 4 = .ok (.getfield 14, 3) := by decide +kernel
theorem d_MO_unwind_7 : decode b_MO_unwind 7 = .ok (.iconst 0, 1) := by decide +kernel
theorem d_MO_unwind_8 : decode b_MO_unwind 8 = .ok (.iaload, 1) := by decide +kernel
theorem d_MO_unwind_9 : decode b_MO_unwind 9 = .ok (.if_icmp .ge 178, 3) := by decide +kernel
theorem d_MO_unwind_12 : decode b_MO_unwind 12 = .ok (.iconst 3, 1) := by decide +kernel
theorem d_MO_unwind_13 : decode b_MO_unwind 13 = .ok (.istore_n 3, 1) := by decide +kernel
theorem d_MO_unwind_14 : decode b_MO_unwind 14 = .ok (.aload_n 0, 1) := by decide +kernel
theorem d_MO_unwind_15 : decode b_MO_unwind 15 = .ok (.getfield 20, 3) := by decide +kernel
theorem d_MO_unwind_18 : decode b_MO_unwind 18 = .ok (.iload_n 2, 1) := by decide +kernel
theorem d_MO_unwind_19 : decode b_MO_unwind 19 = .ok (.iaload, 1) := by decide +kernel
theorem d_MO_unwind_20 : decode b_MO_unwind 20 = .ok (.istore 4, 2) := by decide +kernel
theorem d_MO_unwind_22 : decode b_MO_unwind 22 = .ok (.iload_n 1, 1) := by decide +kernel
theorem d_MO_unwind_23 : decode b_MO_unwind 23 = .ok (.istore 5, 2) := by decide +kernel
theorem d_MO_unwind_25 : decode b_MO_unwind 25 = .ok (.iload 5, 2) := by decide +kernel
theorem d_MO_unwind_27 : decode b_MO_unwind 27 = .ok (.ifCond .le 71, 3) := by decide +kernel
theorem d_MO_unwind_30 : decode b_MO_unwind 30 = .ok (.iload_n 3, 1) := by decide +kernel
theorem d_MO_unwind_31 : decode b_MO_unwind 31 = .ok (.ifCond .eq 67, 3) := by decide +kernel
theorem d_MO_unwind_34 : decode b_MO_unwind 34 = .ok (.iload_n 3, 1) := by decide +kernel
theorem d_MO_unwind_35 : decode b_MO_unwind 35 = .ok (.iconst 3, 1) := by decide +kernel
theorem d_MO_unwind_36 : decode b_MO_unwind 36 = .ok (.if_icmp .ne 14, 3) := by decide +kernel
theorem d_MO_unwind_39 : decode b_MO_unwind 39 = .ok (.aload_n 0, 1) := by decide +kernel
theorem d_MO_unwind_40 : decode b_MO_unwind 40 = .ok (.iload 4, 2) := by decide +kernel
theorem d_MO_unwind_42 : decode b_MO_unwind 42 = .ok (.iload 5, 2) := by decide +kernel
theorem d_MO_unwind_44 : decode b_MO_unwind 44 = .ok (.invokevirtual 138, 3) := by decide +kernel
theorem d_MO_unwind_47 : decode b_MO_unwind 47 = .ok (.goto 4, 3) := by decide +kernel
theorem d_MO_unwind_50 : decode b_MO_unwind 50 = .ok (.iconst 0, 1) := by decide +kernel
theorem d_MO_unwind_51 : decode b_MO_unwind 51 = .ok (.istore 6, 2) := by decide +kernel
theorem d_MO_unwind_53 : decode b_MO_unwind 53 = .ok (.iload 6, 2) := by decide +kernel
theorem d_MO_unwind_55 : decode b_MO_unwind 55 = .ok (.ifCond .le 13, 3) := by decide +kernel
theorem d_MO_unwind_58 : decode b_MO_unwind 58 = .ok (.aload_n 0, 1) := by decide +kernel
theorem d_MO_unwind_59 : decode b_MO_unwind 59 = .ok (.getfield 8, 3) := by decide +kernel
theorem d_MO_unwind_62 : decode b_MO_unwind 62 = .ok (.iload 6, 2) := by decide +kernel
theorem d_MO_unwind_64 : decode b_MO_unwind 64 = .ok (.iaload, 1) := by decide +kernel
theorem d_MO_unwind_65 : decode b_MO_unwind 65 = .ok (.goto 4, 3) := by decide +kernel
theorem d_MO_unwind_68 : decode b_MO_unwind 68 = .ok (.iconst 0, 1) := by decide +kernel
theorem d_MO_unwind_69 : decode b_MO_unwind 69 = .ok (.istore_n 3, 1) := by decide +kernel
theorem d_MO_unwind_70 : decode b_MO_unwind 70 = .ok (.iload 6, 2) := by decide +kernel
theorem d_MO_unwind_72 : decode b_MO_unwind 72 = .ok (.ifCond .le 12, 3) := by decide +kernel
theorem d_MO_unwind_75 : decode b_MO_unwind 75 = .ok (.aload_n 0, 1) := by decide +kernel
theorem d_MO_unwind_76 : decode b_MO_unwind 76 = .ok (.iload 6, 2) := by decide +kernel
theorem d_MO_unwind_78 : decode b_MO_unwind 78 = .ok (.invokevirtual 81, 3) := by decide +kernel
theorem d_MO_unwind_81 : decode b_MO_unwind 81 = .ok (.goto 4, 3) := by decide +kernel
theorem d_MO_unwind_84 : decode b_MO_unwind 84 = .ok (.iconst 0, 1) := by decide +kernel
theorem d_MO_unwind_85 : decode b_MO_unwind 85 = .ok (.istore 4, 2) := by decide +kernel
theorem d_MO_unwind_87 : decode b_MO_unwind 87 = .ok (.aload_n 0, 1) := by decide +kernel
theorem d_MO_unwind_88 : decode b_MO_unwind 88 = .ok (.iload 5, 2) := by decide +kernel
theorem d_MO_unwind_90 : decode b_MO_unwind 90 = .ok (.invokevirtual 141, 3) := by decide +kernel
theorem d_MO_unwind_93 : decode b_MO_unwind 93 = .ok (.istore 5, 2) := by decide +kernel
theorem d_MO_unwind_95 : decode b_MO_unwind 95 = .ok (.goto (-70), 3) := by decide +kernel
theorem d_MO_unwind_98 : decode b_MO_unwind 98 = .ok (.iload_n 3, 1) := by decide +kernel
theorem d_MO_unwind_99 : decode b_MO_unwind 99 = .ok (.iconst 4, 1) := by decide +kernel
theorem d_MO_unwind_100 : decode b_MO_unwind 100 = .ok (.if_icmp .ne 66, 3) := by decide +kernel
theorem d_MO_unwind_103 : decode b_MO_unwind 103 = .ok (.aload_n 0, 1) := by decide +kernel
theorem d_MO_unwind_104 : decode b_MO_unwind 104 = .ok (.iload 4, 2) := by decide +kernel
theorem d_MO_unwind_106 : decode b_MO_unwind 106 = .ok (.invokevirtual 108, 3) := by decide +kernel
theorem d_MO_unwind_109 : decode b_MO_unwind 109 = .ok (.istore 6, 2) := by decide +kernel
theorem d_MO_unwind_111 : decode b_MO_unwind 111 = .ok (.iload 6, 2) := by decide +kernel
theorem d_MO_unwind_113 : decode b_MO_unwind 113 = .ok (.ifCond .le 50, 3) := by decide +kernel
theorem d_MO_unwind_116 : decode b_MO_unwind 116 = .ok (.aload_n 0, 1) := by decide +kernel
theorem d_MO_unwind_117 : decode b_MO_unwind 117 = .ok (.invokevirtual 208, 3) := by decide +kernel
theorem d_MO_unwind_120 : decode b_MO_unwind 120 = .ok (.istore 7, 2) := by decide +kernel
theorem d_MO_unwind_122 : decode b_MO_unwind 122 = .ok (.aload_n 0, 1) := by decide +kernel
theorem d_MO_unwind_123 : decode b_MO_unwind 123 = .ok (.aload_n 0, 1) := by decide +kernel
theorem d_MO_unwind_124 : decode b_MO_unwind 124 = .ok (.getfield 20, 3) := by decide +kernel
theorem d_MO_unwind_127 : decode b_MO_unwind 127 = .ok (.iload_n 2, 1) := by decide +kernel
theorem d_MO_unwind_128 : decode b_MO_unwind 128 = .ok (.iaload, 1) := by decide +kernel
theorem d_MO_unwind_129 : decode b_MO_unwind 129 = .ok (.iload_n 1, 1) := by decide +kernel
theorem d_MO_unwind_130 : decode b_MO_unwind 130 = .ok (.aload_n 0, 1) := by decide +kernel
theorem d_MO_unwind_131 : decode b_MO_unwind 131 = .ok (.getfield 8, 3) := by decide +kernel
theorem d_MO_unwind_134 : decode b_MO_unwind 134 = .ok (.iload 6, 2) := by decide +kernel
theorem d_MO_unwind_136 : decode b_MO_unwind 136 = .ok (.iaload, 1) := by decide +kernel
theorem d_MO_unwind_137 : decode b_MO_unwind 137 = .ok (.aload_n 0, 1) := by decide +kernel
theorem d_MO_unwind_138 : decode b_MO_unwind 138 = .ok (.iload 6, 2) := by decide +kernel
theorem d_MO_unwind_140 : decode b_MO_unwind 140 = .ok (.invokevirtual 81, 3) := by decide +kernel
theorem d_MO_unwind_143 : decode b_MO_unwind 143 = .ok (.invokevirtual 316, 3) := by decide +kernel
theorem d_MO_unwind_146 : decode b_MO_unwind 146 = .ok (.aload_n 0, 1) := by decide +kernel
theorem d_MO_unwind_147 : decode b_MO_unwind 147 = .ok (.iload 7, 2) := by decide +kernel
theorem d_MO_unwind_149 : decode b_MO_unwind 149 = .ok (.invokevirtual 211, 3) := by decide +kernel
theorem d_MO_unwind_152 : decode b_MO_unwind 152 = .ok (.aload_n 0, 1) := by decide +kernel
theorem d_MO_unwind_153 : decode b_MO_unwind 153 = .ok (.iload 6, 2) := by decide +kernel
theorem d_MO_unwind_155 : decode b_MO_unwind 155 = .ok (.invokevirtual 111, 3) := by decide +kernel
theorem d_MO_unwind_158 : decode b_MO_unwind 158 = .ok (.istore 6, 2) := by decide +kernel
theorem d_MO_unwind_160 : decode b_MO_unwind 160 = .ok (.goto (-49), 3) := by decide +kernel
theorem d_MO_unwind_163 : decode b_MO_unwind 163 = .ok (.goto 18, 3) := by decide +kernel
theorem d_MO_unwind_166 : decode b_MO_unwind 166 = .ok (.iload_n 3, 1) := by decide +kernel
theorem d_MO_unwind_167 : decode b_MO_unwind 167 = .ok (.ifCond .eq 14, 3) := by decide +kernel
theorem d_MO_unwind_170 : decode b_MO_unwind 170 = .ok (.iload_n 3, 1) := by decide +kernel
theorem d_MO_unwind_171 : decode b_MO_unwind 171 = .ok (.bipush 10, 2) := by decide +kernel
theorem d_MO_unwind_173 : decode b_MO_unwind 173 = .ok (.if_icmp .eq 8, 3) := by decide +kernel
theorem d_MO_unwind_176 : decode b_MO_unwind 176 = .ok (.aload_n 0, 1) := by decide +kernel
theorem d_MO_unwind_177 : decode b_MO_unwind 177 = .ok (.iload_n 2, 1) := by decide +kernel
theorem d_MO_unwind_178 : decode b_MO_unwind 178 = .ok (.invokevirtual 320, 3) := by decide +kernel
theorem d_MO_unwind_181 : decode b_MO_unwind 181 = .ok (.iinc 2 1, 3) := by decide +kernel
theorem d_MO_unwind_184 : decode b_MO_unwind 184 = .ok (.goto (-182), 3) := by decide +kernel
theorem d_MO_unwind_187 : decode b_MO_unwind 187 = .ok (.return_, 1) := by decide +kernel
abbrev b_MO_sum : ByteArray := prog_13_method_70_code
def y_MO_sum : MethodName := ⟨R_MO, "sum", "(III)Z"⟩
theorem kc_MO_sum : Cond.code y_MO_sum b_MO_sum 9 (some .boolean) ∈ lw_g := lw_gm (List.mem_append_right _ (List.mem_of_getElem? (i := 1430) (by decide +kernel))) rfl
abbrev mw_MO_sum : List Cond := Cond.code y_MO_sum b_MO_sum 9 (some .boolean) :: lw_g
theorem hd_MO_sum : y_MO_sum.cls = R_MO ∧ y_MO_sum.cls ≠ "java/lang/invoke/MethodHandle" ∧ y_MO_sum.cls ≠ "java/lang/invoke/VarHandle" ∧ (parseMethodDescriptor y_MO_sum.desc).map (fun d => d.parameters.length) = some 3 := by decide +kernel
theorem kp_MO_sum : Cond.selects R_MO y_MO_sum y_MO_sum ∈ lw_g := lw_gm (List.mem_append_left _ (by decide +kernel)) rfl
theorem d_MO_sum_0 : decode b_MO_sum 0 = .ok (.aload_n 0, 1) := by decide +kernel
theorem d_MO_sum_1 : decode b_MO_sum 1 = .ok (.getfield 155, 3) := by decide +kernel
theorem d_MO_sum_4 : decode b_MO_sum 4 = .ok (.istore 4, 2) := by decide +kernel
theorem d_MO_sum_6 : decode b_MO_sum 6 = .ok (.aload_n 0, 1) := by decide +kernel
theorem d_MO_sum_7 : decode b_MO_sum 7 = .ok (.lconst 0, 1) := by decide +kernel
theorem d_MO_sum_8 : decode b_MO_sum 8 = .ok (.putfield 342, 3) := by decide +kernel
theorem d_MO_sum_11 : decode b_MO_sum 11 = .ok (.aload_n 0, 1) := by decide +kernel
theorem d_MO_sum_12 : decode b_MO_sum 12 = .ok (.lconst 0, 1) := by decide +kernel
theorem d_MO_sum_13 : decode b_MO_sum 13 = .ok (.putfield 348, 3) := by decide +kernel
theorem d_MO_sum_16 : decode b_MO_sum 16 = .ok (.iconst 0, 1) := by decide +kernel
theorem d_MO_sum_17 : decode b_MO_sum 17 = .ok (.istore 5, 2) := by decide +kernel
theorem d_MO_sum_19 : decode b_MO_sum 19 = .ok (.iload 5, 2) := by decide +kernel
theorem d_MO_sum_21 : decode b_MO_sum 21 = .ok (.aload_n 0, 1) := by decide +kernel
theorem d_MO_sum_22 : decode b_MO_sum 22 = .ok (.getfield 14, 3) := by decide +kernel
theorem d_MO_sum_25 : decode b_MO_sum 25 = .ok (.iconst 0, 1) := by decide +kernel
theorem d_MO_sum_26 : decode b_MO_sum 26 = .ok (.iaload, 1) := by decide +kernel
theorem d_MO_sum_27 : decode b_MO_sum 27 = .ok (.if_icmp .ge 96, 3) := by decide +kernel
theorem d_MO_sum_30 : decode b_MO_sum 30 = .ok (.aload_n 0, 1) := by decide +kernel
theorem d_MO_sum_31 : decode b_MO_sum 31 = .ok (.getfield 48, 3) := by decide +kernel
theorem d_MO_sum_34 : decode b_MO_sum 34 = .ok (.iload 5, 2) := by decide +kernel
theorem d_MO_sum_36 : decode b_MO_sum 36 = .ok (.iaload, 1) := by decide +kernel
theorem d_MO_sum_37 : decode b_MO_sum 37 = .ok (.iload_n 2, 1) := by decide +kernel
theorem d_MO_sum_38 : decode b_MO_sum 38 = .ok (.if_icmp .ne 21, 3) := by decide +kernel
theorem d_MO_sum_41 : decode b_MO_sum 41 = .ok (.aload_n 0, 1) := by decide +kernel
theorem d_MO_sum_42 : decode b_MO_sum 42 = .ok (.iload_n 1, 1) := by decide +kernel
theorem d_MO_sum_43 : decode b_MO_sum 43 = .ok (.aload_n 0, 1) := by decide +kernel
theorem d_MO_sum_44 : decode b_MO_sum 44 = .ok (.getfield 20, 3) := by decide +kernel
theorem d_MO_sum_47 : decode b_MO_sum 47 = .ok (.iload 5, 2) := by decide +kernel
theorem d_MO_sum_49 : decode b_MO_sum 49 = .ok (.iaload, 1) := by decide +kernel
theorem d_MO_sum_50 : decode b_MO_sum 50 = .ok (.ldc_w 309, 3) := by decide +kernel
theorem d_MO_sum_53 : decode b_MO_sum 53 = .ok (.invokevirtual 310, 3) := by decide +kernel
theorem d_MO_sum_56 : decode b_MO_sum 56 = .ok (.goto 4, 3) := by decide +kernel
theorem d_MO_sum_59 : decode b_MO_sum 59 = .ok (.iconst 0, 1) := by decide +kernel
theorem d_MO_sum_60 : decode b_MO_sum 60 = .ok (.istore 6, 2) := by decide +kernel
theorem d_MO_sum_62 : decode b_MO_sum 62 = .ok (.iload 6, 2) := by decide +kernel
theorem d_MO_sum_64 : decode b_MO_sum 64 = .ok (.bipush 16, 2) := by decide +kernel
theorem d_MO_sum_66 : decode b_MO_sum 66 = .ok (.if_icmp .eq 10, 3) := by decide +kernel
theorem d_MO_sum_69 : decode b_MO_sum 69 = .ok (.iload 6, 2) := by decide +kernel
theorem d_MO_sum_71 : decode b_MO_sum 71 = .ok (.bipush 18, 2) := by decide +kernel
theorem d_MO_sum_73 : decode b_MO_sum 73 = .ok (.if_icmp .ne 44, 3) := by decide +kernel
theorem d_MO_sum_76 : decode b_MO_sum 76 = .ok (.aload_n 0, 1) := by decide +kernel
theorem d_MO_sum_77 : decode b_MO_sum 77 = .ok (.iload 6, 2) := by decide +kernel
theorem d_MO_sum_79 : decode b_MO_sum 79 = .ok (.ldc_w 309, 3) := by decide +kernel
theorem d_MO_sum_82 : decode b_MO_sum 82 = .ok (.invokevirtual 117, 3) := by decide +kernel
theorem d_MO_sum_85 : decode b_MO_sum 85 = .ok (.lstore 7, 2) := by decide +kernel
theorem d_MO_sum_87 : decode b_MO_sum 87 = .ok (.aload_n 0, 1) := by decide +kernel
theorem d_MO_sum_88 : decode b_MO_sum 88 = .ok (.dup, 1) := by decide +kernel
theorem d_MO_sum_89 : decode b_MO_sum 89 = .ok (.getfield 342, 3) := by decide +kernel
theorem d_MO_sum_92 : decode b_MO_sum 92 = .ok (.lload 7, 2) := by decide +kernel
theorem d_MO_sum_94 : decode b_MO_sum 94 = .ok (.ldc2_w 346, 3) := by decide +kernel
theorem d_MO_sum_97 : decode b_MO_sum 97 = .ok (.ldiv, 1) := by decide +kernel
theorem d_MO_sum_98 : decode b_MO_sum 98 = .ok (.ladd, 1) := by decide +kernel
theorem d_MO_sum_99 : decode b_MO_sum 99 = .ok (.putfield 342, 3) := by decide +kernel
theorem d_MO_sum_102 : decode b_MO_sum 102 = .ok (.aload_n 0, 1) := by decide +kernel
theorem d_MO_sum_103 : decode b_MO_sum 103 = .ok (.dup, 1) := by decide +kernel
theorem d_MO_sum_104 : decode b_MO_sum 104 = .ok (.getfield 348, 3) := by decide +kernel
theorem d_MO_sum_107 : decode b_MO_sum 107 = .ok (.lload 7, 2) := by decide +kernel
theorem d_MO_sum_109 : decode b_MO_sum 109 = .ok (.ldc2_w 346, 3) := by decide +kernel
theorem d_MO_sum_112 : decode b_MO_sum 112 = .ok (.lrem, 1) := by decide +kernel
theorem d_MO_sum_113 : decode b_MO_sum 113 = .ok (.ladd, 1) := by decide +kernel
theorem d_MO_sum_114 : decode b_MO_sum 114 = .ok (.putfield 348, 3) := by decide +kernel
theorem d_MO_sum_117 : decode b_MO_sum 117 = .ok (.iinc 5 1, 3) := by decide +kernel
theorem d_MO_sum_120 : decode b_MO_sum 120 = .ok (.goto (-101), 3) := by decide +kernel
theorem d_MO_sum_123 : decode b_MO_sum 123 = .ok (.aload_n 0, 1) := by decide +kernel
theorem d_MO_sum_124 : decode b_MO_sum 124 = .ok (.iload_n 3, 1) := by decide +kernel
theorem d_MO_sum_125 : decode b_MO_sum 125 = .ok (.iload 4, 2) := by decide +kernel
theorem d_MO_sum_127 : decode b_MO_sum 127 = .ok (.invokevirtual 333, 3) := by decide +kernel
theorem d_MO_sum_130 : decode b_MO_sum 130 = .ok (.aload_n 0, 1) := by decide +kernel
theorem d_MO_sum_131 : decode b_MO_sum 131 = .ok (.dup, 1) := by decide +kernel
theorem d_MO_sum_132 : decode b_MO_sum 132 = .ok (.getfield 342, 3) := by decide +kernel
theorem d_MO_sum_135 : decode b_MO_sum 135 = .ok (.aload_n 0, 1) := by decide +kernel
theorem d_MO_sum_136 : decode b_MO_sum 136 = .ok (.getfield 348, 3) := by decide +kernel
theorem d_MO_sum_139 : decode b_MO_sum 139 = .ok (.ldc2_w 346, 3) := by decide +kernel
theorem d_MO_sum_142 : decode b_MO_sum 142 = .ok (.ldiv, 1) := by decide +kernel
theorem d_MO_sum_143 : decode b_MO_sum 143 = .ok (.ladd, 1) := by decide +kernel
theorem d_MO_sum_144 : decode b_MO_sum 144 = .ok (.putfield 342, 3) := by decide +kernel
theorem d_MO_sum_147 : decode b_MO_sum 147 = .ok (.aload_n 0, 1) := by decide +kernel
theorem d_MO_sum_148 : decode b_MO_sum 148 = .ok (.aload_n 0, 1) := by decide +kernel
theorem d_MO_sum_149 : decode b_MO_sum 149 = .ok (.getfield 348, 3) := by decide +kernel
theorem d_MO_sum_152 : decode b_MO_sum 152 = .ok (.ldc2_w 346, 3) := by decide +kernel
theorem d_MO_sum_155 : decode b_MO_sum 155 = .ok (.lrem, 1) := by decide +kernel
theorem d_MO_sum_156 : decode b_MO_sum 156 = .ok (.putfield 348, 3) := by decide +kernel
theorem d_MO_sum_159 : decode b_MO_sum 159 = .ok (.aload_n 0, 1) := by decide +kernel
theorem d_MO_sum_160 : decode b_MO_sum 160 = .ok (.getfield 342, 3) := by decide +kernel
theorem d_MO_sum_163 : decode b_MO_sum 163 = .ok (.lconst 0, 1) := by decide +kernel
theorem d_MO_sum_164 : decode b_MO_sum 164 = .ok (.lcmp, 1) := by decide +kernel
theorem d_MO_sum_165 : decode b_MO_sum 165 = .ok (.ifCond .le 37, 3) := by decide +kernel
theorem d_MO_sum_168 : decode b_MO_sum 168 = .ok (.aload_n 0, 1) := by decide +kernel
theorem d_MO_sum_169 : decode b_MO_sum 169 = .ok (.getfield 348, 3) := by decide +kernel
theorem d_MO_sum_172 : decode b_MO_sum 172 = .ok (.lconst 0, 1) := by decide +kernel
theorem d_MO_sum_173 : decode b_MO_sum 173 = .ok (.lcmp, 1) := by decide +kernel
theorem d_MO_sum_174 : decode b_MO_sum 174 = .ok (.ifCond .ge 28, 3) := by decide +kernel
theorem d_MO_sum_177 : decode b_MO_sum 177 = .ok (.aload_n 0, 1) := by decide +kernel
theorem d_MO_sum_178 : decode b_MO_sum 178 = .ok (.dup, 1) := by decide +kernel
theorem d_MO_sum_179 : decode b_MO_sum 179 = .ok (.getfield 342, 3) := by decide +kernel
theorem d_MO_sum_182 : decode b_MO_sum 182 = .ok (.lconst 1, 1) := by decide +kernel
theorem d_MO_sum_183 : decode b_MO_sum 183 = .ok (.lsub, 1) := by decide +kernel
theorem d_MO_sum_184 : decode b_MO_sum 184 = .ok (.putfield 342, 3) := by decide +kernel
theorem d_MO_sum_187 : decode b_MO_sum 187 = .ok (.aload_n 0, 1) := by decide +kernel
theorem d_MO_sum_188 : decode b_MO_sum 188 = .ok (.dup, 1) := by decide +kernel
theorem d_MO_sum_189 : decode b_MO_sum 189 = .ok (.getfield 348, 3) := by decide +kernel
theorem d_MO_sum_192 : decode b_MO_sum 192 = .ok (.ldc2_w 346, 3) := by decide +kernel
theorem d_MO_sum_195 : decode b_MO_sum 195 = .ok (.ladd, 1) := by decide +kernel
theorem d_MO_sum_196 : decode b_MO_sum 196 = .ok (.putfield 348, 3) := by decide +kernel
theorem d_MO_sum_199 : decode b_MO_sum 199 = .ok (.goto 43, 3) := by decide +kernel
theorem d_MO_sum_202 : decode b_MO_sum 202 = .ok (.aload_n 0, 1) := by decide +kernel
theorem d_MO_sum_203 : decode b_MO_sum 203 = .ok (.getfield 342, 3) := by decide +kernel
theorem d_MO_sum_206 : decode b_MO_sum 206 = .ok (.lconst 0, 1) := by decide +kernel
theorem d_MO_sum_207 : decode b_MO_sum 207 = .ok (.lcmp, 1) := by decide +kernel
theorem d_MO_sum_208 : decode b_MO_sum 208 = .ok (.ifCond .ge 34, 3) := by decide +kernel
theorem d_MO_sum_211 : decode b_MO_sum 211 = .ok (.aload_n 0, 1) := by decide +kernel
theorem d_MO_sum_212 : decode b_MO_sum 212 = .ok (.getfield 348, 3) := by decide +kernel
theorem d_MO_sum_215 : decode b_MO_sum 215 = .ok (.lconst 0, 1) := by decide +kernel
theorem d_MO_sum_216 : decode b_MO_sum 216 = .ok (.lcmp, 1) := by decide +kernel
theorem d_MO_sum_217 : decode b_MO_sum 217 = .ok (.ifCond .le 25, 3) := by decide +kernel
theorem d_MO_sum_220 : decode b_MO_sum 220 = .ok (.aload_n 0, 1) := by decide +kernel
theorem d_MO_sum_221 : decode b_MO_sum 221 = .ok (.dup, 1) := by decide +kernel
theorem d_MO_sum_222 : decode b_MO_sum 222 = .ok (.getfield 342, 3) := by decide +kernel
theorem d_MO_sum_225 : decode b_MO_sum 225 = .ok (.lconst 1, 1) := by decide +kernel
theorem d_MO_sum_226 : decode b_MO_sum 226 = .ok (.ladd, 1) := by decide +kernel
theorem d_MO_sum_227 : decode b_MO_sum 227 = .ok (.putfield 342, 3) := by decide +kernel
theorem d_MO_sum_230 : decode b_MO_sum 230 = .ok (.aload_n 0, 1) := by decide +kernel
theorem d_MO_sum_231 : decode b_MO_sum 231 = .ok (.dup, 1) := by decide +kernel
theorem d_MO_sum_232 : decode b_MO_sum 232 = .ok (.getfield 348, 3) := by decide +kernel
theorem d_MO_sum_235 : decode b_MO_sum 235 = .ok (.ldc2_w 346, 3) := by decide +kernel
theorem d_MO_sum_238 : decode b_MO_sum 238 = .ok (.lsub, 1) := by decide +kernel
theorem d_MO_sum_239 : decode b_MO_sum 239 = .ok (.putfield 348, 3) := by decide +kernel
theorem d_MO_sum_242 : decode b_MO_sum 242 = .ok (.aload_n 0, 1) := by decide +kernel
theorem d_MO_sum_243 : decode b_MO_sum 243 = .ok (.getfield 342, 3) := by decide +kernel
theorem d_MO_sum_246 : decode b_MO_sum 246 = .ok (.ldc2_w 359, 3) := by decide +kernel
theorem d_MO_sum_249 : decode b_MO_sum 249 = .ok (.lcmp, 1) := by decide +kernel
theorem d_MO_sum_250 : decode b_MO_sum 250 = .ok (.ifCond .ge 14, 3) := by decide +kernel
theorem d_MO_sum_253 : decode b_MO_sum 253 = .ok (.aload_n 0, 1) := by decide +kernel
theorem d_MO_sum_254 : decode b_MO_sum 254 = .ok (.getfield 342, 3) := by decide +kernel
theorem d_MO_sum_257 : decode b_MO_sum 257 = .ok (.ldc2_w 361, 3) := by decide +kernel
theorem d_MO_sum_260 : decode b_MO_sum 260 = .ok (.lcmp, 1) := by decide +kernel
theorem d_MO_sum_261 : decode b_MO_sum 261 = .ok (.ifCond .gt 47, 3) := by decide +kernel
theorem d_MO_sum_264 : decode b_MO_sum 264 = .ok (.aload_n 0, 1) := by decide +kernel
theorem d_MO_sum_265 : decode b_MO_sum 265 = .ok (.getfield 342, 3) := by decide +kernel
theorem d_MO_sum_268 : decode b_MO_sum 268 = .ok (.ldc2_w 359, 3) := by decide +kernel
theorem d_MO_sum_271 : decode b_MO_sum 271 = .ok (.lcmp, 1) := by decide +kernel
theorem d_MO_sum_272 : decode b_MO_sum 272 = .ok (.ifCond .ne 14, 3) := by decide +kernel
theorem d_MO_sum_275 : decode b_MO_sum 275 = .ok (.aload_n 0, 1) := by decide +kernel
theorem d_MO_sum_276 : decode b_MO_sum 276 = .ok (.getfield 348, 3) := by decide +kernel
theorem d_MO_sum_279 : decode b_MO_sum 279 = .ok (.ldc2_w 363, 3) := by decide +kernel
theorem d_MO_sum_282 : decode b_MO_sum 282 = .ok (.lcmp, 1) := by decide +kernel
theorem d_MO_sum_283 : decode b_MO_sum 283 = .ok (.ifCond .le 25, 3) := by decide +kernel
theorem d_MO_sum_286 : decode b_MO_sum 286 = .ok (.aload_n 0, 1) := by decide +kernel
theorem d_MO_sum_287 : decode b_MO_sum 287 = .ok (.getfield 342, 3) := by decide +kernel
theorem d_MO_sum_290 : decode b_MO_sum 290 = .ok (.ldc2_w 361, 3) := by decide +kernel
theorem d_MO_sum_293 : decode b_MO_sum 293 = .ok (.lcmp, 1) := by decide +kernel
theorem d_MO_sum_294 : decode b_MO_sum 294 = .ok (.ifCond .ne 18, 3) := by decide +kernel
theorem d_MO_sum_297 : decode b_MO_sum 297 = .ok (.aload_n 0, 1) := by decide +kernel
theorem d_MO_sum_298 : decode b_MO_sum 298 = .ok (.getfield 348, 3) := by decide +kernel
theorem d_MO_sum_301 : decode b_MO_sum 301 = .ok (.ldc2_w 365, 3) := by decide +kernel
theorem d_MO_sum_304 : decode b_MO_sum 304 = .ok (.lcmp, 1) := by decide +kernel
theorem d_MO_sum_305 : decode b_MO_sum 305 = .ok (.ifCond .lt 7, 3) := by decide +kernel
theorem d_MO_sum_308 : decode b_MO_sum 308 = .ok (.iconst 1, 1) := by decide +kernel
theorem d_MO_sum_309 : decode b_MO_sum 309 = .ok (.goto 4, 3) := by decide +kernel
theorem d_MO_sum_312 : decode b_MO_sum 312 = .ok (.iconst 0, 1) := by decide +kernel
theorem d_MO_sum_313 : decode b_MO_sum 313 = .ok (.ireturn, 1) := by decide +kernel
abbrev wd_MO_evaluate (aM aMst aMdcs aMtot aMfrm aMsiz aMffr aMfsz aMlkd aMlat aMkkd aMkat aModr aMgrp aMikd aMiat : Nat) (cB cI : ClassId) (thr : Int32) (tpd : Int32) (frs : Int32) (frt : Int32) (tgr : Bool) (lvs : Int32) (its : Int32) (hgh : Int64) (loo : Int64) (dfl : Bool) (top : Int32) (bgn : Int32) (mst : Int32) (ovr : Bool) (st : Nat → Int32) : va_W := [(aM, .inr (11, [.int thr, .ref aMst, .int tpd, .ref aMdcs, .ref aMtot, .ref aMfrm, .ref aMsiz, .int frs, .int frt, .ref aMffr, .ref aMfsz, .int top, .int bgn, .int mst, .int (b2i ovr), .int (b2i tgr), .int lvs, .ref aMlkd, .ref aMlat, .ref aMkkd, .ref aMkat, .ref aModr, .ref aMgrp, .int its, .ref aMikd, .ref aMiat, .long hgh, .long loo, .int (b2i dfl)])), (aMst, .inl (cI, 136400, .inl st))]
set_option maxHeartbeats 4000000 in
set_option maxRecDepth 100000 in
theorem c_MO_evaluate (l : Launch) (D : va_G) (cB cI : ClassId) (aM aMst aMdcs aMtot aMfrm aMsiz aMffr aMfsz aMlkd aMlat aMkkd aMkat aModr aMgrp aMikd aMiat : Nat) (fu : Nat) (thr : Int32) (tpd : Int32) (frs : Int32) (frt : Int32) (tgr : Bool) (lvs : Int32) (its : Int32) (hgh : Int64) (loo : Int64) (dfl : Bool) (sz : Nat) (top : Int32) (bgn : Int32) (mst : Int32) (ovr : Bool) (st : Nat → Int32) (p0 : Int32) (p1 : Int32) (p2 : Int32) (V0 : Int32 × Int32 × Int32 × Int32 × Bool × (Nat → Int32)) (hs : tw_MO_evaluate fu top bgn mst ovr st p0 p1 p2 = some V0) : Met l y_MO_evaluate mw_MO_evaluate { frames := 209, cells := 0, slots := 0, locals := 6268 } (va_Pc [.ref aM, .int p0, .int p1, .int p2] (mt_P D cB cI (wd_MO_evaluate aM aMst aMdcs aMtot aMfrm aMsiz aMffr aMfsz aMlkd aMlat aMkkd aMkat aModr aMgrp aMikd aMiat cB cI thr tpd frs frt tgr lvs its hgh loo dfl top bgn mst ovr st) sz)) (va_Qi (fun (r : Int32) (u : Int32 × Int32 × Int32 × Bool × (Nat → Int32)) => (r, u) = V0) (mt_B D (va_A (wd_MO_evaluate aM aMst aMdcs aMtot aMfrm aMsiz aMffr aMfsz aMlkd aMlat aMkkd aMkat aModr aMgrp aMikd aMiat cB cI thr tpd frs frt tgr lvs its hgh loo dfl top bgn mst ovr st) sz) (fun u => wd_MO_evaluate aM aMst aMdcs aMtot aMfrm aMsiz aMffr aMfsz aMlkd aMlat aMkkd aMkat aModr aMgrp aMikd aMiat cB cI thr tpd frs frt tgr lvs its hgh loo dfl u.1 u.2.1 u.2.2.1 u.2.2.2.1 u.2.2.2.2)) (va_A (wd_MO_evaluate aM aMst aMdcs aMtot aMfrm aMsiz aMffr aMfsz aMlkd aMlat aMkkd aMkat aModr aMgrp aMikd aMiat cB cI thr tpd frs frt tgr lvs its hgh loo dfl top bgn mst ovr st) sz)) 0 0 (va_A (wd_MO_evaluate aM aMst aMdcs aMtot aMfrm aMsiz aMffr aMfsz aMlkd aMlat aMkkd aMkat aModr aMgrp aMikd aMiat cB cI thr tpd frs frt tgr lvs its hgh loo dfl top bgn mst ovr st) sz) := by
  refine Met.ofW (cc := b_MO_evaluate) (maxL := 4) (ret := (some .int)) (by decide) rfl ?_
  intro p e s m args below meth c s₁ B0 hml hv
  obtain ⟨rfl, hsz, hP, hk, hD0⟩ := hv
  have hK := hk.1
  have hN := hk.2.1
  have hx := B0.exec
  have hb := B0.bytes
  have hr := B0.returns
  have hT : ∀ w ∈ lw_g, w.before _ s = true := fun w h => atoms_spec (ws := mw_MO_evaluate) B0.pre w (List.mem_cons_of_mem _ h)
  have hown : s.vm.findClass R_MO = some m.cls := findClass_of_methodNamed B0.named
  have hlocks := B0.notSynchronized
  subst hsz
  have hD := hD0.self (sz := s.heap.size)
  generalize hAe : va_A [(aM, .inr (11, [.int thr, .ref aMst, .int tpd, .ref aMdcs, .ref aMtot, .ref aMfrm, .ref aMsiz, .int frs, .int frt, .ref aMffr, .ref aMfsz, .int top, .int bgn, .int mst, .int (b2i ovr), .int (b2i tgr), .int lvs, .ref aMlkd, .ref aMlat, .ref aMkkd, .ref aMkat, .ref aModr, .ref aMgrp, .int its, .ref aMikd, .ref aMiat, .long hgh, .long loo, .int (b2i dfl)])), (aMst, .inl (cI, 136400, .inl st))] s.heap.size = A at hD ⊢
  have hA : ∀ q : Nat, s.heap.size ≤ q → A q := fun q h => by rw [← hAe]; exact Or.inr h
  have hS : va_S A s.heap s.heap [] := va_S.rf
  have hl := lv_entry ([.ref aM, .int p0, .int p1, .int p2]) (n := 4) (Nat.le_of_ble_eq_true rfl)
  rw [lg_entry_eq]
  generalize (lg_sl ([.ref aM, .int p0, .int p1, .int p2]) ++ List.replicate (4 - (lg_sl ([.ref aM, .int p0, .int p1, .int p2])).length) Slot.unset).toArray = ls at hl ⊢
  have hl : lv_has ls 4 [(0, .ref aM), (1, .int p0), (2, .int p1), (3, .int p2)] := hl
  refine lv_aload_n hx hb d_MO_evaluate_0 rfl (lv_at hl 0 rfl) ?_
  refine lv_iload_n hx hb d_MO_evaluate_1 rfl (lv_at hl 3 rfl) ?_
  refine lv_sipush (v := 4100) hx hb d_MO_evaluate_2 (by decide) ?_
  rcases h_1 : tw_MO_beginValue fu top bgn mst ovr p2 4100 with _ | w_1
  · exact op_no hs (by rw [tw_MO_evaluate, h_1, ob4_no])
  refine mt_Vv (As := [.int p2, .int 4100]) (rest := []) (wr := [(aMst, .inl (cI, 136400, .inl st))]) ⟨hx, hb, hml, hown, hT⟩ (c_MO_beginValue l D cB cI aM aMst aMdcs aMtot aMfrm aMsiz aMffr aMfsz aMlkd aMlat aMkkd aMkat aModr aMgrp aMikd aMiat fu thr tpd frs frt tgr lvs its hgh loo dfl _ top bgn mst ovr p2 4100 w_1 h_1) (cwV 2 hT (gV_of k_1314 k_1316 kp_MO_beginValue k_12 kc_MO_beginValue) rfl rfl rfl hd_MO_beginValue ⟨Nat.le_of_ble_eq_true rfl, Nat.le_of_ble_eq_true rfl⟩) hk hP hD hS hA [0] [1] rfl rfl rfl (by decide) (by decide) (by decide) (q0 := 0) rfl rfl rfl rfl hl.1 rfl (Nat.le_of_ble_eq_true rfl) d_MO_evaluate_5 ⟨Nat.zero_le _, Nat.zero_le _⟩ (fun u_1 H locs hw_1 hP hD hS => ?_)
  subst hw_1
  obtain ⟨top_1, bgn_1, mst_1, ovr_1⟩ := u_1
  have hP : va_P D vwCl [(aM, .inr (11, [.int thr, .ref aMst, .int tpd, .ref aMdcs, .ref aMtot, .ref aMfrm, .ref aMsiz, .int frs, .int frt, .ref aMffr, .ref aMfsz, .int top_1, .int bgn_1, .int mst_1, .int (b2i ovr_1), .int (b2i tgr), .int lvs, .ref aMlkd, .ref aMlat, .ref aMkkd, .ref aMkat, .ref aModr, .ref aMgrp, .int its, .ref aMikd, .ref aMiat, .long hgh, .long loo, .int (b2i dfl)])), (aMst, .inl (cI, 136400, .inl st))] H := hP.sub [1, 0] rfl
  have hD : va_D A [(aM, .inr (11, [.int thr, .ref aMst, .int tpd, .ref aMdcs, .ref aMtot, .ref aMfrm, .ref aMsiz, .int frs, .int frt, .ref aMffr, .ref aMfsz, .int top_1, .int bgn_1, .int mst_1, .int (b2i ovr_1), .int (b2i tgr), .int lvs, .ref aMlkd, .ref aMlat, .ref aMkkd, .ref aMkat, .ref aModr, .ref aMgrp, .int its, .ref aMikd, .ref aMiat, .long hgh, .long loo, .int (b2i dfl)])), (aMst, .inl (cI, 136400, .inl st))] := hD.sub [1, 0] (by decide) rfl
  refine lv_aload_n hx hb d_MO_evaluate_8 rfl (lv_at hl 0 rfl) ?_
  refine lv_iload_n hx hb d_MO_evaluate_9 rfl (lv_at hl 1 rfl) ?_
  rcases h_2 : tw_MO_isExpressionPath fu st p0 with _ | r_2
  · exact op_no hs (by rw [tw_MO_evaluate, h_1, ob4_mk, h_2, ob1_no])
  refine rd_V (val := b2i r_2) (As := [.int p0]) (rest := []) ⟨hx, hb, hml, hown, hT⟩ (c_MO_isExpressionPath l D cB cI aM aMst aMdcs aMtot aMfrm aMsiz aMffr aMfsz aMlkd aMlat aMkkd aMkat aModr aMgrp aMikd aMiat fu thr tpd frs frt top_1 bgn_1 mst_1 ovr_1 tgr lvs its hgh loo dfl st p0 r_2 h_2) (cwV 1 hT (gV_of k_1244 k_1246 kp_MO_isExpressionPath k_12 kc_MO_isExpressionPath) rfl rfl rfl hd_MO_isExpressionPath ⟨Nat.le_of_ble_eq_true rfl, Nat.le_of_ble_eq_true rfl⟩) hk hP (q0 := 0) rfl rfl rfl rfl hl.1 rfl (Nat.le_of_ble_eq_true rfl) d_MO_evaluate_10 ⟨Nat.zero_le _, Nat.zero_le _⟩ ?_
  refine lv_if_eq (tgt := 30) hx hb d_MO_evaluate_13 (by decide) (fun c_3 => ?_) (fun c_3 => ?_)
  · refine lv_aload_n hx hb d_MO_evaluate_30 rfl (lv_at hl 0 rfl) ?_
    refine lv_aload_n hx hb d_MO_evaluate_31 rfl (lv_at hl 0 rfl) ?_
    refine lv_iload_n hx hb d_MO_evaluate_32 rfl (lv_at hl 1 rfl) ?_
    rcases h_4 : tw_MO_valueOf fu st p0 with _ | r_4
    · exact op_no hs (by rw [tw_MO_evaluate, h_1, ob4_mk, h_2, ob1_mk, if_pos c_3, h_4, ob1_no])
    refine rd_V (val := r_4) (As := [.int p0]) (rest := [.ref aM]) ⟨hx, hb, hml, hown, hT⟩ (c_MO_valueOf l D cB cI aM aMst aMdcs aMtot aMfrm aMsiz aMffr aMfsz aMlkd aMlat aMkkd aMkat aModr aMgrp aMikd aMiat fu thr tpd frs frt top_1 bgn_1 mst_1 ovr_1 tgr lvs its hgh loo dfl st p0 r_4 h_4) (cwV 1 hT (gV_of k_1182 k_1184 kp_MO_valueOf k_12 kc_MO_valueOf) rfl rfl rfl hd_MO_valueOf ⟨Nat.le_of_ble_eq_true rfl, Nat.le_of_ble_eq_true rfl⟩) hk hP (q0 := 0) rfl rfl rfl rfl hl.1 rfl (Nat.le_of_ble_eq_true rfl) d_MO_evaluate_33 ⟨Nat.zero_le _, Nat.zero_le _⟩ ?_
    refine lv_aload_n hx hb d_MO_evaluate_36 rfl (lv_at hl 0 rfl) ?_
    refine lv_aload_n hx hb d_MO_evaluate_37 rfl (lv_at hl 0 rfl) ?_
    refine va_get (D := D) (ci := 11) (v := .ref aMst) (C := R_MO) (T := T_MO) (N := 29) hx hb hT u_MO hown hK hP 0 rfl rfl 1 (by decide) (hT _ k_1044) (fun _ h9 => h9) rfl d_MO_evaluate_38 ?_
    refine lv_iload_n hx hb d_MO_evaluate_41 rfl (lv_at hl 1 rfl) ?_
    by_cases c_5 : 0 ≤ p0 ∧ p0 < 136400
    rotate_left
    · exact op_no hs (by rw [tw_MO_evaluate, h_1, ob4_mk, h_2, ob1_mk, if_pos c_3, h_4, ob1_mk, if_neg c_5])
    refine va_iald hx hb hK hP 1 1 rfl rfl (in_pp c_5.1 c_5.2 rfl) d_MO_evaluate_42 ?_
    refine lv_aload_n hx hb d_MO_evaluate_43 rfl (lv_at hl 0 rfl) ?_
    refine lv_iload_n hx hb d_MO_evaluate_44 rfl (lv_at hl 1 rfl) ?_
    refine rd_V (val := r_4) (As := [.int p0]) (rest := [.int (st p0.toNatClampNeg), .ref aM, .int r_4, .ref aM]) ⟨hx, hb, hml, hown, hT⟩ (c_MO_valueOf l D cB cI aM aMst aMdcs aMtot aMfrm aMsiz aMffr aMfsz aMlkd aMlat aMkkd aMkat aModr aMgrp aMikd aMiat fu thr tpd frs frt top_1 bgn_1 mst_1 ovr_1 tgr lvs its hgh loo dfl st p0 r_4 h_4) (cwV 1 hT (gV_of k_1182 k_1184 kp_MO_valueOf k_12 kc_MO_valueOf) rfl rfl rfl hd_MO_valueOf ⟨Nat.le_of_ble_eq_true rfl, Nat.le_of_ble_eq_true rfl⟩) hk hP (q0 := 0) rfl rfl rfl rfl hl.1 rfl (Nat.le_of_ble_eq_true rfl) d_MO_evaluate_45 ⟨Nat.zero_le _, Nat.zero_le _⟩ ?_
    rcases h_6 : tw_MO_lengthOf fu st (st p0.toNatClampNeg) r_4 with _ | r_6
    · exact op_no hs (by rw [tw_MO_evaluate, h_1, ob4_mk, h_2, ob1_mk, if_pos c_3, h_4, ob1_mk, if_pos c_5, h_6, ob1_no])
    refine rd_V (val := r_6) (As := [.int (st p0.toNatClampNeg), .int r_4]) (rest := [.int r_4, .ref aM]) ⟨hx, hb, hml, hown, hT⟩ (c_MO_lengthOf l D cB cI aM aMst aMdcs aMtot aMfrm aMsiz aMffr aMfsz aMlkd aMlat aMkkd aMkat aModr aMgrp aMikd aMiat fu thr tpd frs frt top_1 bgn_1 mst_1 ovr_1 tgr lvs its hgh loo dfl st (st p0.toNatClampNeg) r_4 r_6 h_6) (cwV 2 hT (gV_of k_1186 k_1188 kp_MO_lengthOf k_12 kc_MO_lengthOf) rfl rfl rfl hd_MO_lengthOf ⟨Nat.le_of_ble_eq_true rfl, Nat.le_of_ble_eq_true rfl⟩) hk hP (q0 := 0) rfl rfl rfl rfl hl.1 rfl (Nat.le_of_ble_eq_true rfl) d_MO_evaluate_48 ⟨Nat.zero_le _, Nat.zero_le _⟩ ?_
    rcases h_7 : tw_MO_copy fu bgn_1 mst_1 top_1 ovr_1 st r_4 r_6 with _ | w_7
    · exact op_no hs (by rw [tw_MO_evaluate, h_1, ob4_mk, h_2, ob1_mk, if_pos c_3, h_4, ob1_mk, if_pos c_5, h_6, ob1_mk, h_7, ob3_no])
    refine mt_Vv (As := [.int r_4, .int r_6]) (rest := []) (wr := []) ⟨hx, hb, hml, hown, hT⟩ (c_MO_copy l D cB cI aM aMst aMdcs aMtot aMfrm aMsiz aMffr aMfsz aMlkd aMlat aMkkd aMkat aModr aMgrp aMikd aMiat fu thr tpd frs frt bgn_1 mst_1 tgr lvs its hgh loo dfl _ top_1 ovr_1 st r_4 r_6 w_7 h_7) (cwV 2 hT (gV_of k_1338 k_1340 kp_MO_copy k_12 kc_MO_copy) rfl rfl rfl hd_MO_copy ⟨Nat.le_of_ble_eq_true rfl, Nat.le_of_ble_eq_true rfl⟩) hk hP hD hS hA [0, 1] [] rfl rfl rfl (by decide) (by decide) (by decide) (q0 := 0) rfl rfl rfl rfl hl.1 rfl (Nat.le_of_ble_eq_true rfl) d_MO_evaluate_51 ⟨Nat.zero_le _, Nat.zero_le _⟩ (fun u_7 H locs hw_7 hP hD hS => ?_)
    subst hw_7
    obtain ⟨top_7, ovr_7, st_7⟩ := u_7
    have hP : va_P D vwCl [(aM, .inr (11, [.int thr, .ref aMst, .int tpd, .ref aMdcs, .ref aMtot, .ref aMfrm, .ref aMsiz, .int frs, .int frt, .ref aMffr, .ref aMfsz, .int top_7, .int bgn_1, .int mst_1, .int (b2i ovr_7), .int (b2i tgr), .int lvs, .ref aMlkd, .ref aMlat, .ref aMkkd, .ref aMkat, .ref aModr, .ref aMgrp, .int its, .ref aMikd, .ref aMiat, .long hgh, .long loo, .int (b2i dfl)])), (aMst, .inl (cI, 136400, .inl st_7))] H := hP.sub [0, 1] rfl
    have hD : va_D A [(aM, .inr (11, [.int thr, .ref aMst, .int tpd, .ref aMdcs, .ref aMtot, .ref aMfrm, .ref aMsiz, .int frs, .int frt, .ref aMffr, .ref aMfsz, .int top_7, .int bgn_1, .int mst_1, .int (b2i ovr_7), .int (b2i tgr), .int lvs, .ref aMlkd, .ref aMlat, .ref aMkkd, .ref aMkat, .ref aModr, .ref aMgrp, .int its, .ref aMikd, .ref aMiat, .long hgh, .long loo, .int (b2i dfl)])), (aMst, .inl (cI, 136400, .inl st_7))] := hD.sub [0, 1] (by decide) rfl
    refine lv_aload_n hx hb d_MO_evaluate_54 rfl (lv_at hl 0 rfl) ?_
    refine va_get (D := D) (ci := 11) (v := .ref aMst) (C := R_MO) (T := T_MO) (N := 29) hx hb hT u_MO hown hK hP 0 rfl rfl 1 (by decide) (hT _ k_1044) (fun _ h9 => h9) rfl d_MO_evaluate_55 ?_
    refine lv_iload_n hx hb d_MO_evaluate_58 rfl (lv_at hl 1 rfl) ?_
    refine va_iald hx hb hK hP 1 1 rfl rfl (in_pp c_5.1 c_5.2 rfl) d_MO_evaluate_59 ?_
    exact W.iret (v := st_7 p0.toNatClampNeg) hx hb hr (fun t ht hW => ⟨⟨st_7 p0.toNatClampNeg, (top_7, bgn_1, mst_1, ovr_7, st_7), rfl, (op_eq hs (by rw [tw_MO_evaluate, h_1, ob4_mk, h_2, ob1_mk, if_pos c_3, h_4, ob1_mk, if_pos c_5, h_6, ob1_mk, h_7, ob3_mk])), by rw [ht]; exact hP, hD⟩, hS.F ht⟩) hS.2.2 d_MO_evaluate_60
  · refine lv_aload_n hx hb d_MO_evaluate_16 rfl (lv_at hl 0 rfl) ?_
    refine lv_iconst (v := 3) hx hb d_MO_evaluate_17 (by decide) ?_
    refine lv_iload_n hx hb d_MO_evaluate_18 rfl (lv_at hl 2 rfl) ?_
    refine lv_aload_n hx hb d_MO_evaluate_19 rfl (lv_at hl 0 rfl) ?_
    refine lv_iload_n hx hb d_MO_evaluate_20 rfl (lv_at hl 1 rfl) ?_
    rcases h_8 : tw_MO_valueOf fu st p0 with _ | r_8
    · exact op_no hs (by rw [tw_MO_evaluate, h_1, ob4_mk, h_2, ob1_mk, if_neg c_3, h_8, ob1_no])
    refine rd_V (val := r_8) (As := [.int p0]) (rest := [.int p1, .int 3, .ref aM]) ⟨hx, hb, hml, hown, hT⟩ (c_MO_valueOf l D cB cI aM aMst aMdcs aMtot aMfrm aMsiz aMffr aMfsz aMlkd aMlat aMkkd aMkat aModr aMgrp aMikd aMiat fu thr tpd frs frt top_1 bgn_1 mst_1 ovr_1 tgr lvs its hgh loo dfl st p0 r_8 h_8) (cwV 1 hT (gV_of k_1182 k_1184 kp_MO_valueOf k_12 kc_MO_valueOf) rfl rfl rfl hd_MO_valueOf ⟨Nat.le_of_ble_eq_true rfl, Nat.le_of_ble_eq_true rfl⟩) hk hP (q0 := 0) rfl rfl rfl rfl hl.1 rfl (Nat.le_of_ble_eq_true rfl) d_MO_evaluate_21 ⟨Nat.zero_le _, Nat.zero_le _⟩ ?_
    refine lv_iconst (v := 5) hx hb d_MO_evaluate_24 (by decide) ?_
    refine lv_iadd hx hb d_MO_evaluate_25 ?_
    rcases h_9 : tw_MO_emt0 fu bgn_1 mst_1 top_1 ovr_1 st 3 p1 (r_8 + 5) with _ | w_9
    · exact op_no hs (by rw [tw_MO_evaluate, h_1, ob4_mk, h_2, ob1_mk, if_neg c_3, h_8, ob1_mk, h_9, ob4_no])
    refine mt_Vi (As := [.int 3, .int p1, .int (r_8 + 5)]) (rest := []) (wr := []) ⟨hx, hb, hml, hown, hT⟩ (c_tw_MO_emt0 l D cB cI aM aMst aMdcs aMtot aMfrm aMsiz aMffr aMfsz aMlkd aMlat aMkkd aMkat aModr aMgrp aMikd aMiat fu thr tpd frs frt bgn_1 mst_1 tgr lvs its hgh loo dfl _ top_1 ovr_1 st 3 p1 (r_8 + 5) w_9 h_9) (cwV 3 hT (gV_of k_1351 k_1353 kp_MO_emit k_12 kc_MO_emit) rfl rfl rfl hd_MO_emit ⟨Nat.le_of_ble_eq_true rfl, Nat.le_of_ble_eq_true rfl⟩) hk hP hD hS hA [0, 1] [] rfl rfl rfl (by decide) (by decide) (by decide) (q0 := 0) rfl rfl rfl rfl hl.1 rfl (Nat.le_of_ble_eq_true rfl) d_MO_evaluate_26 ⟨Nat.zero_le _, Nat.zero_le _⟩ (fun r_9 u_9 H locs hw_9 hP hD hS => ?_)
    subst hw_9
    obtain ⟨top_9, ovr_9, st_9⟩ := u_9
    have hP : va_P D vwCl [(aM, .inr (11, [.int thr, .ref aMst, .int tpd, .ref aMdcs, .ref aMtot, .ref aMfrm, .ref aMsiz, .int frs, .int frt, .ref aMffr, .ref aMfsz, .int top_9, .int bgn_1, .int mst_1, .int (b2i ovr_9), .int (b2i tgr), .int lvs, .ref aMlkd, .ref aMlat, .ref aMkkd, .ref aMkat, .ref aModr, .ref aMgrp, .int its, .ref aMikd, .ref aMiat, .long hgh, .long loo, .int (b2i dfl)])), (aMst, .inl (cI, 136400, .inl st_9))] H := hP.sub [0, 1] rfl
    have hD : va_D A [(aM, .inr (11, [.int thr, .ref aMst, .int tpd, .ref aMdcs, .ref aMtot, .ref aMfrm, .ref aMsiz, .int frs, .int frt, .ref aMffr, .ref aMfsz, .int top_9, .int bgn_1, .int mst_1, .int (b2i ovr_9), .int (b2i tgr), .int lvs, .ref aMlkd, .ref aMlat, .ref aMkkd, .ref aMkat, .ref aModr, .ref aMgrp, .int its, .ref aMikd, .ref aMiat, .long hgh, .long loo, .int (b2i dfl)])), (aMst, .inl (cI, 136400, .inl st_9))] := hD.sub [0, 1] (by decide) rfl
    exact W.iret (v := r_9) hx hb hr (fun t ht hW => ⟨⟨r_9, (top_9, bgn_1, mst_1, ovr_9, st_9), rfl, (op_eq hs (by rw [tw_MO_evaluate, h_1, ob4_mk, h_2, ob1_mk, if_neg c_3, h_8, ob1_mk, h_9, ob4_mk])), by rw [ht]; exact hP, hD⟩, hS.F ht⟩) hS.2.2 d_MO_evaluate_29
abbrev wd_MO_keyOf (aM aMst aMdcs aMtot aMfrm aMsiz aMffr aMfsz aMlkd aMlat aMkkd aMkat aModr aMgrp aMikd aMiat : Nat) (cB cI : ClassId) (thr : Int32) (tpd : Int32) (frs : Int32) (frt : Int32) (tgr : Bool) (lvs : Int32) (its : Int32) (hgh : Int64) (loo : Int64) (dfl : Bool) (top : Int32) (bgn : Int32) (mst : Int32) (ovr : Bool) (st : Nat → Int32) : va_W := [(aM, .inr (11, [.int thr, .ref aMst, .int tpd, .ref aMdcs, .ref aMtot, .ref aMfrm, .ref aMsiz, .int frs, .int frt, .ref aMffr, .ref aMfsz, .int top, .int bgn, .int mst, .int (b2i ovr), .int (b2i tgr), .int lvs, .ref aMlkd, .ref aMlat, .ref aMkkd, .ref aMkat, .ref aModr, .ref aMgrp, .int its, .ref aMikd, .ref aMiat, .long hgh, .long loo, .int (b2i dfl)])), (aMst, .inl (cI, 136400, .inl st))]
set_option maxHeartbeats 4000000 in
set_option maxRecDepth 100000 in
theorem c_MO_keyOf (l : Launch) (D : va_G) (cB cI : ClassId) (aM aMst aMdcs aMtot aMfrm aMsiz aMffr aMfsz aMlkd aMlat aMkkd aMkat aModr aMgrp aMikd aMiat : Nat) (fu : Nat) (thr : Int32) (tpd : Int32) (frs : Int32) (frt : Int32) (tgr : Bool) (lvs : Int32) (its : Int32) (hgh : Int64) (loo : Int64) (dfl : Bool) (sz : Nat) (top : Int32) (bgn : Int32) (mst : Int32) (ovr : Bool) (st : Nat → Int32) (p0 : Int32) (p1 : Int32) (p2 : Int32) (V0 : Int32 × Int32 × Int32 × Int32 × Bool × (Nat → Int32)) (hs : tw_MO_keyOf fu top bgn mst ovr st p0 p1 p2 = some V0) : Met l y_MO_keyOf mw_MO_keyOf { frames := 210, cells := 0, slots := 0, locals := 6291 } (va_Pc [.ref aM, .int p0, .int p1, .int p2] (mt_P D cB cI (wd_MO_keyOf aM aMst aMdcs aMtot aMfrm aMsiz aMffr aMfsz aMlkd aMlat aMkkd aMkat aModr aMgrp aMikd aMiat cB cI thr tpd frs frt tgr lvs its hgh loo dfl top bgn mst ovr st) sz)) (va_Qi (fun (r : Int32) (u : Int32 × Int32 × Int32 × Bool × (Nat → Int32)) => (r, u) = V0) (mt_B D (va_A (wd_MO_keyOf aM aMst aMdcs aMtot aMfrm aMsiz aMffr aMfsz aMlkd aMlat aMkkd aMkat aModr aMgrp aMikd aMiat cB cI thr tpd frs frt tgr lvs its hgh loo dfl top bgn mst ovr st) sz) (fun u => wd_MO_keyOf aM aMst aMdcs aMtot aMfrm aMsiz aMffr aMfsz aMlkd aMlat aMkkd aMkat aModr aMgrp aMikd aMiat cB cI thr tpd frs frt tgr lvs its hgh loo dfl u.1 u.2.1 u.2.2.1 u.2.2.2.1 u.2.2.2.2)) (va_A (wd_MO_keyOf aM aMst aMdcs aMtot aMfrm aMsiz aMffr aMfsz aMlkd aMlat aMkkd aMkat aModr aMgrp aMikd aMiat cB cI thr tpd frs frt tgr lvs its hgh loo dfl top bgn mst ovr st) sz)) 0 0 (va_A (wd_MO_keyOf aM aMst aMdcs aMtot aMfrm aMsiz aMffr aMfsz aMlkd aMlat aMkkd aMkat aModr aMgrp aMikd aMiat cB cI thr tpd frs frt tgr lvs its hgh loo dfl top bgn mst ovr st) sz) := by
  refine Met.ofW (cc := b_MO_keyOf) (maxL := 5) (ret := (some .int)) (by decide) rfl ?_
  intro p e s m args below meth c s₁ B0 hml hv
  obtain ⟨rfl, hsz, hP, hk, hD0⟩ := hv
  have hK := hk.1
  have hN := hk.2.1
  have hx := B0.exec
  have hb := B0.bytes
  have hr := B0.returns
  have hT : ∀ w ∈ lw_g, w.before _ s = true := fun w h => atoms_spec (ws := mw_MO_keyOf) B0.pre w (List.mem_cons_of_mem _ h)
  have hown : s.vm.findClass R_MO = some m.cls := findClass_of_methodNamed B0.named
  have hlocks := B0.notSynchronized
  subst hsz
  have hD := hD0.self (sz := s.heap.size)
  generalize hAe : va_A [(aM, .inr (11, [.int thr, .ref aMst, .int tpd, .ref aMdcs, .ref aMtot, .ref aMfrm, .ref aMsiz, .int frs, .int frt, .ref aMffr, .ref aMfsz, .int top, .int bgn, .int mst, .int (b2i ovr), .int (b2i tgr), .int lvs, .ref aMlkd, .ref aMlat, .ref aMkkd, .ref aMkat, .ref aModr, .ref aMgrp, .int its, .ref aMikd, .ref aMiat, .long hgh, .long loo, .int (b2i dfl)])), (aMst, .inl (cI, 136400, .inl st))] s.heap.size = A at hD ⊢
  have hA : ∀ q : Nat, s.heap.size ≤ q → A q := fun q h => by rw [← hAe]; exact Or.inr h
  have hS : va_S A s.heap s.heap [] := va_S.rf
  have hl := lv_entry ([.ref aM, .int p0, .int p1, .int p2]) (n := 5) (Nat.le_of_ble_eq_true rfl)
  rw [lg_entry_eq]
  generalize (lg_sl ([.ref aM, .int p0, .int p1, .int p2]) ++ List.replicate (5 - (lg_sl ([.ref aM, .int p0, .int p1, .int p2])).length) Slot.unset).toArray = ls at hl ⊢
  have hl : lv_has ls 5 [(0, .ref aM), (1, .int p0), (2, .int p1), (3, .int p2)] := hl
  refine lv_aload_n hx hb d_MO_keyOf_0 rfl (lv_at hl 0 rfl) ?_
  refine lv_iload_n hx hb d_MO_keyOf_1 rfl (lv_at hl 1 rfl) ?_
  refine lv_iload_n hx hb d_MO_keyOf_2 rfl (lv_at hl 2 rfl) ?_
  refine lv_iload_n hx hb d_MO_keyOf_3 rfl (lv_at hl 3 rfl) ?_
  rcases h_1 : tw_MO_evaluate fu top bgn mst ovr st p0 p1 p2 with _ | w_1
  · exact op_no hs (by rw [tw_MO_keyOf, h_1, ob6_no])
  refine mt_Vi (As := [.int p0, .int p1, .int p2]) (rest := []) (wr := []) ⟨hx, hb, hml, hown, hT⟩ (c_MO_evaluate l D cB cI aM aMst aMdcs aMtot aMfrm aMsiz aMffr aMfsz aMlkd aMlat aMkkd aMkat aModr aMgrp aMikd aMiat fu thr tpd frs frt tgr lvs its hgh loo dfl _ top bgn mst ovr st p0 p1 p2 w_1 h_1) (cwV 3 hT (gV_of k_1347 k_1349 kp_MO_evaluate k_12 kc_MO_evaluate) rfl rfl rfl hd_MO_evaluate ⟨Nat.le_of_ble_eq_true rfl, Nat.le_of_ble_eq_true rfl⟩) hk hP hD hS hA [0, 1] [] rfl rfl rfl (by decide) (by decide) (by decide) (q0 := 0) rfl rfl rfl rfl hl.1 rfl (Nat.le_of_ble_eq_true rfl) d_MO_keyOf_4 ⟨Nat.zero_le _, Nat.zero_le _⟩ (fun r_1 u_1 H locs hw_1 hP hD hS => ?_)
  subst hw_1
  obtain ⟨top_1, bgn_1, mst_1, ovr_1, st_1⟩ := u_1
  have hP : va_P D vwCl [(aM, .inr (11, [.int thr, .ref aMst, .int tpd, .ref aMdcs, .ref aMtot, .ref aMfrm, .ref aMsiz, .int frs, .int frt, .ref aMffr, .ref aMfsz, .int top_1, .int bgn_1, .int mst_1, .int (b2i ovr_1), .int (b2i tgr), .int lvs, .ref aMlkd, .ref aMlat, .ref aMkkd, .ref aMkat, .ref aModr, .ref aMgrp, .int its, .ref aMikd, .ref aMiat, .long hgh, .long loo, .int (b2i dfl)])), (aMst, .inl (cI, 136400, .inl st_1))] H := hP.sub [0, 1] rfl
  have hD : va_D A [(aM, .inr (11, [.int thr, .ref aMst, .int tpd, .ref aMdcs, .ref aMtot, .ref aMfrm, .ref aMsiz, .int frs, .int frt, .ref aMffr, .ref aMfsz, .int top_1, .int bgn_1, .int mst_1, .int (b2i ovr_1), .int (b2i tgr), .int lvs, .ref aMlkd, .ref aMlat, .ref aMkkd, .ref aMkat, .ref aModr, .ref aMgrp, .int its, .ref aMikd, .ref aMiat, .long hgh, .long loo, .int (b2i dfl)])), (aMst, .inl (cI, 136400, .inl st_1))] := hD.sub [0, 1] (by decide) rfl
  refine lv_istore (lv' := [(4, .int r_1), (0, .ref aM), (1, .int p0), (2, .int p1), (3, .int p2)]) hx hb d_MO_keyOf_7 hl (by decide) rfl (fun ls hl => ?_)
  refine lv_iload hx hb d_MO_keyOf_9 (lv_at hl 0 rfl) ?_
  refine lv_if_ne (tgt := 19) hx hb d_MO_keyOf_11 (by decide) (fun c_2 => ?_) (fun c_2 => ?_)
  · refine lv_iload hx hb d_MO_keyOf_19 (lv_at hl 0 rfl) ?_
    exact W.iret (v := r_1) hx hb hr (fun t ht hW => ⟨⟨r_1, (top_1, bgn_1, mst_1, ovr_1, st_1), rfl, (op_eq hs (by rw [tw_MO_keyOf, h_1, ob6_mk, if_neg c_2])), by rw [ht]; exact hP, hD⟩, hS.F ht⟩) hS.2.2 d_MO_keyOf_21
  · refine lv_bipush (v := 10) hx hb d_MO_keyOf_14 (by decide) ?_
    refine lv_goto (tgt := 21) hx hb d_MO_keyOf_16 (by decide) ?_
    exact W.iret (v := 10) hx hb hr (fun t ht hW => ⟨⟨10, (top_1, bgn_1, mst_1, ovr_1, st_1), rfl, (op_eq hs (by rw [tw_MO_keyOf, h_1, ob6_mk, if_pos c_2])), by rw [ht]; exact hP, hD⟩, hS.F ht⟩) hS.2.2 d_MO_keyOf_21
abbrev wd_MO_endDocument (aM aMst aMdcs aMtot aMfrm aMsiz aMffr aMfsz aMlkd aMlat aMkkd aMkat aModr aMgrp aMikd aMiat : Nat) (cB cI : ClassId) (thr : Int32) (tpd : Int32) (bgn : Int32) (mst : Int32) (lvs : Int32) (its : Int32) (hgh : Int64) (loo : Int64) (dfl : Bool) (frs : Int32) (frt : Int32) (top : Int32) (ovr : Bool) (tgr : Bool) (st : Nat → Int32) (ffr : Nat → Int32) (fsz : Nat → Int32) : va_W := [(aM, .inr (11, [.int thr, .ref aMst, .int tpd, .ref aMdcs, .ref aMtot, .ref aMfrm, .ref aMsiz, .int frs, .int frt, .ref aMffr, .ref aMfsz, .int top, .int bgn, .int mst, .int (b2i ovr), .int (b2i tgr), .int lvs, .ref aMlkd, .ref aMlat, .ref aMkkd, .ref aMkat, .ref aModr, .ref aMgrp, .int its, .ref aMikd, .ref aMiat, .long hgh, .long loo, .int (b2i dfl)])), (aMst, .inl (cI, 136400, .inl st)), (aMffr, .inl (cI, 200, .inl ffr)), (aMfsz, .inl (cI, 200, .inl fsz))]
set_option maxHeartbeats 4000000 in
set_option maxRecDepth 100000 in
theorem c_MO_endDocument (l : Launch) (D : va_G) (cB cI : ClassId) (aM aMst aMdcs aMtot aMfrm aMsiz aMffr aMfsz aMlkd aMlat aMkkd aMkat aModr aMgrp aMikd aMiat : Nat) (fu : Nat) (thr : Int32) (tpd : Int32) (bgn : Int32) (mst : Int32) (lvs : Int32) (its : Int32) (hgh : Int64) (loo : Int64) (dfl : Bool) (sz : Nat) (frs : Int32) (frt : Int32) (top : Int32) (ovr : Bool) (tgr : Bool) (st : Nat → Int32) (ffr : Nat → Int32) (fsz : Nat → Int32) (p0 : Int32) (V0 : Int32 × Int32 × Int32 × Bool × Bool × (Nat → Int32) × (Nat → Int32) × (Nat → Int32)) (hs : tw_MO_endDocument fu bgn mst frs frt top ovr tgr st ffr fsz p0 = some V0) : Met l y_MO_endDocument mw_MO_endDocument { frames := 161, cells := 0, slots := 0, locals := 4825 } (va_Pc [.ref aM, .int p0] (mt_P D cB cI (wd_MO_endDocument aM aMst aMdcs aMtot aMfrm aMsiz aMffr aMfsz aMlkd aMlat aMkkd aMkat aModr aMgrp aMikd aMiat cB cI thr tpd bgn mst lvs its hgh loo dfl frs frt top ovr tgr st ffr fsz) sz)) (va_Qv (fun (u : Int32 × Int32 × Int32 × Bool × Bool × (Nat → Int32) × (Nat → Int32) × (Nat → Int32)) => u = V0) (mt_B D (va_A (wd_MO_endDocument aM aMst aMdcs aMtot aMfrm aMsiz aMffr aMfsz aMlkd aMlat aMkkd aMkat aModr aMgrp aMikd aMiat cB cI thr tpd bgn mst lvs its hgh loo dfl frs frt top ovr tgr st ffr fsz) sz) (fun u => wd_MO_endDocument aM aMst aMdcs aMtot aMfrm aMsiz aMffr aMfsz aMlkd aMlat aMkkd aMkat aModr aMgrp aMikd aMiat cB cI thr tpd bgn mst lvs its hgh loo dfl u.1 u.2.1 u.2.2.1 u.2.2.2.1 u.2.2.2.2.1 u.2.2.2.2.2.1 u.2.2.2.2.2.2.1 u.2.2.2.2.2.2.2)) (va_A (wd_MO_endDocument aM aMst aMdcs aMtot aMfrm aMsiz aMffr aMfsz aMlkd aMlat aMkkd aMkat aModr aMgrp aMikd aMiat cB cI thr tpd bgn mst lvs its hgh loo dfl frs frt top ovr tgr st ffr fsz) sz)) 0 0 (va_A (wd_MO_endDocument aM aMst aMdcs aMtot aMfrm aMsiz aMffr aMfsz aMlkd aMlat aMkkd aMkat aModr aMgrp aMikd aMiat cB cI thr tpd bgn mst lvs its hgh loo dfl frs frt top ovr tgr st ffr fsz) sz) := by
  refine Met.ofW (cc := b_MO_endDocument) (maxL := 3) (ret := none) (by decide) rfl ?_
  intro p e s m args below meth c s₁ B0 hml hv
  obtain ⟨rfl, hsz, hP, hk, hD0⟩ := hv
  have hK := hk.1
  have hN := hk.2.1
  have hx := B0.exec
  have hb := B0.bytes
  have hr := B0.returns
  have hT : ∀ w ∈ lw_g, w.before _ s = true := fun w h => atoms_spec (ws := mw_MO_endDocument) B0.pre w (List.mem_cons_of_mem _ h)
  have hown : s.vm.findClass R_MO = some m.cls := findClass_of_methodNamed B0.named
  have hlocks := B0.notSynchronized
  subst hsz
  have hD := hD0.self (sz := s.heap.size)
  generalize hAe : va_A [(aM, .inr (11, [.int thr, .ref aMst, .int tpd, .ref aMdcs, .ref aMtot, .ref aMfrm, .ref aMsiz, .int frs, .int frt, .ref aMffr, .ref aMfsz, .int top, .int bgn, .int mst, .int (b2i ovr), .int (b2i tgr), .int lvs, .ref aMlkd, .ref aMlat, .ref aMkkd, .ref aMkat, .ref aModr, .ref aMgrp, .int its, .ref aMikd, .ref aMiat, .long hgh, .long loo, .int (b2i dfl)])), (aMst, .inl (cI, 136400, .inl st)), (aMffr, .inl (cI, 200, .inl ffr)), (aMfsz, .inl (cI, 200, .inl fsz))] s.heap.size = A at hD ⊢
  have hA : ∀ q : Nat, s.heap.size ≤ q → A q := fun q h => by rw [← hAe]; exact Or.inr h
  have hS : va_S A s.heap s.heap [] := va_S.rf
  have hl := lv_entry ([.ref aM, .int p0]) (n := 3) (Nat.le_of_ble_eq_true rfl)
  rw [lg_entry_eq]
  generalize (lg_sl ([.ref aM, .int p0]) ++ List.replicate (3 - (lg_sl ([.ref aM, .int p0])).length) Slot.unset).toArray = ls at hl ⊢
  have hl : lv_has ls 3 [(0, .ref aM), (1, .int p0)] := hl
  refine lv_aload_n hx hb d_MO_endDocument_0 rfl (lv_at hl 0 rfl) ?_
  refine lv_iload_n hx hb d_MO_endDocument_1 rfl (lv_at hl 1 rfl) ?_
  rcases h_1 : tw_MO_close fu bgn mst top ovr st p0 with _ | w_1
  · exact op_no hs (by rw [tw_MO_endDocument, h_1, ob3_no])
  refine mt_Vv (As := [.int p0]) (rest := []) (wr := [(aMffr, .inl (cI, 200, .inl ffr)), (aMfsz, .inl (cI, 200, .inl fsz))]) ⟨hx, hb, hml, hown, hT⟩ (c_MO_close l D cB cI aM aMst aMdcs aMtot aMfrm aMsiz aMffr aMfsz aMlkd aMlat aMkkd aMkat aModr aMgrp aMikd aMiat fu thr tpd frs frt bgn mst tgr lvs its hgh loo dfl _ top ovr st p0 w_1 h_1) (cwV 1 hT (gV_of k_1371 k_1373 kp_MO_close k_12 kc_MO_close) rfl rfl rfl hd_MO_close ⟨Nat.le_of_ble_eq_true rfl, Nat.le_of_ble_eq_true rfl⟩) hk hP hD hS hA [0, 1] [2, 3] rfl rfl rfl (by decide) (by decide) (by decide) (q0 := 0) rfl rfl rfl rfl hl.1 rfl (Nat.le_of_ble_eq_true rfl) d_MO_endDocument_2 ⟨Nat.zero_le _, Nat.zero_le _⟩ (fun u_1 H locs hw_1 hP hD hS => ?_)
  subst hw_1
  obtain ⟨top_1, ovr_1, st_1⟩ := u_1
  have hP : va_P D vwCl [(aM, .inr (11, [.int thr, .ref aMst, .int tpd, .ref aMdcs, .ref aMtot, .ref aMfrm, .ref aMsiz, .int frs, .int frt, .ref aMffr, .ref aMfsz, .int top_1, .int bgn, .int mst, .int (b2i ovr_1), .int (b2i tgr), .int lvs, .ref aMlkd, .ref aMlat, .ref aMkkd, .ref aMkat, .ref aModr, .ref aMgrp, .int its, .ref aMikd, .ref aMiat, .long hgh, .long loo, .int (b2i dfl)])), (aMst, .inl (cI, 136400, .inl st_1)), (aMffr, .inl (cI, 200, .inl ffr)), (aMfsz, .inl (cI, 200, .inl fsz))] H := hP.sub [2, 3, 0, 1] rfl
  have hD : va_D A [(aM, .inr (11, [.int thr, .ref aMst, .int tpd, .ref aMdcs, .ref aMtot, .ref aMfrm, .ref aMsiz, .int frs, .int frt, .ref aMffr, .ref aMfsz, .int top_1, .int bgn, .int mst, .int (b2i ovr_1), .int (b2i tgr), .int lvs, .ref aMlkd, .ref aMlat, .ref aMkkd, .ref aMkat, .ref aModr, .ref aMgrp, .int its, .ref aMikd, .ref aMiat, .long hgh, .long loo, .int (b2i dfl)])), (aMst, .inl (cI, 136400, .inl st_1)), (aMffr, .inl (cI, 200, .inl ffr)), (aMfsz, .inl (cI, 200, .inl fsz))] := hD.sub [2, 3, 0, 1] (by decide) rfl
  refine lv_aload_n hx hb d_MO_endDocument_5 rfl (lv_at hl 0 rfl) ?_
  refine va_get (D := D) (ci := 11) (v := .int top_1) (C := R_MO) (T := T_MO) (N := 29) hx hb hT u_MO hown hK hP 0 rfl rfl 11 (by decide) (hT _ k_1054) (fun _ h9 => h9) rfl d_MO_endDocument_6 ?_
  refine lv_iload_n hx hb d_MO_endDocument_9 rfl (lv_at hl 1 rfl) ?_
  refine lv_isub hx hb d_MO_endDocument_10 ?_
  refine lv_istore_n (lv' := [(2, .int (top_1 - p0)), (0, .ref aM), (1, .int p0)]) hx hb d_MO_endDocument_11 rfl hl (by decide) rfl (fun ls hl => ?_)
  refine lv_aload_n hx hb d_MO_endDocument_12 rfl (lv_at hl 1 rfl) ?_
  refine va_get (D := D) (ci := 11) (v := .int (b2i ovr_1)) (C := R_MO) (T := T_MO) (N := 29) hx hb hT u_MO hown hK hP 0 rfl rfl 14 (by decide) (hT _ k_1057) (fun _ h9 => h9) rfl d_MO_endDocument_13 ?_
  refine lv_if_ne (tgt := 58) hx hb d_MO_endDocument_16 (by decide) (fun c_2 => ?_) (fun c_2 => ?_)
  · refine lv_aload_n hx hb d_MO_endDocument_58 rfl (lv_at hl 1 rfl) ?_
    refine lv_iconst (v := 1) hx hb d_MO_endDocument_59 (by decide) ?_
    refine va_put (D := D) (ci := 11) (v := .int 1) (ty := .boolean) (C := R_MO) (T := T_MO) (N := 29) hx hb hT u_MO ty_MO tyok_MO nm_MO hown hK hP hD hS 0 rfl rfl 15 (by decide) (hT _ k_1058) (fun _ h9 => h9) rfl (by decide +kernel) (rfl) (rfl) (Nat.le_of_ble_eq_true rfl) d_MO_endDocument_60 (fun H locs hP hD hS => ?_)
    have hP : va_P D vwCl [(aM, .inr (11, [.int thr, .ref aMst, .int tpd, .ref aMdcs, .ref aMtot, .ref aMfrm, .ref aMsiz, .int frs, .int frt, .ref aMffr, .ref aMfsz, .int top_1, .int bgn, .int mst, .int (b2i ovr_1), .int 1, .int lvs, .ref aMlkd, .ref aMlat, .ref aMkkd, .ref aMkat, .ref aModr, .ref aMgrp, .int its, .ref aMikd, .ref aMiat, .long hgh, .long loo, .int (b2i dfl)])), (aMst, .inl (cI, 136400, .inl st_1)), (aMffr, .inl (cI, 200, .inl ffr)), (aMfsz, .inl (cI, 200, .inl fsz))] H := hP
    have hD : va_D A [(aM, .inr (11, [.int thr, .ref aMst, .int tpd, .ref aMdcs, .ref aMtot, .ref aMfrm, .ref aMsiz, .int frs, .int frt, .ref aMffr, .ref aMfsz, .int top_1, .int bgn, .int mst, .int (b2i ovr_1), .int 1, .int lvs, .ref aMlkd, .ref aMlat, .ref aMkkd, .ref aMkat, .ref aModr, .ref aMgrp, .int its, .ref aMikd, .ref aMiat, .long hgh, .long loo, .int (b2i dfl)])), (aMst, .inl (cI, 136400, .inl st_1)), (aMffr, .inl (cI, 200, .inl ffr)), (aMfsz, .inl (cI, 200, .inl fsz))] := hD
    exact W.vret hx hb hr (fun t ht hW => ⟨⟨(frs, frt, top_1, ovr_1, true, st_1, ffr, fsz), rfl, (op_eq hs (by rw [tw_MO_endDocument, h_1, ob3_mk, if_neg c_2])), by rw [ht]; exact hP, hD⟩, hS.F ht⟩) hS.2.2 d_MO_endDocument_63
  · refine lv_iload_n hx hb d_MO_endDocument_19 rfl (lv_at hl 0 rfl) ?_
    refine lv_sipush (v := 2000) hx hb d_MO_endDocument_20 (by decide) ?_
    refine lv_icmp_gt (tgt := 58) hx hb d_MO_endDocument_23 (by decide) (fun c_3 => ?_) (fun c_3 => ?_)
    · refine lv_aload_n hx hb d_MO_endDocument_58 rfl (lv_at hl 1 rfl) ?_
      refine lv_iconst (v := 1) hx hb d_MO_endDocument_59 (by decide) ?_
      refine va_put (D := D) (ci := 11) (v := .int 1) (ty := .boolean) (C := R_MO) (T := T_MO) (N := 29) hx hb hT u_MO ty_MO tyok_MO nm_MO hown hK hP hD hS 0 rfl rfl 15 (by decide) (hT _ k_1058) (fun _ h9 => h9) rfl (by decide +kernel) (rfl) (rfl) (Nat.le_of_ble_eq_true rfl) d_MO_endDocument_60 (fun H locs hP hD hS => ?_)
      have hP : va_P D vwCl [(aM, .inr (11, [.int thr, .ref aMst, .int tpd, .ref aMdcs, .ref aMtot, .ref aMfrm, .ref aMsiz, .int frs, .int frt, .ref aMffr, .ref aMfsz, .int top_1, .int bgn, .int mst, .int (b2i ovr_1), .int 1, .int lvs, .ref aMlkd, .ref aMlat, .ref aMkkd, .ref aMkat, .ref aModr, .ref aMgrp, .int its, .ref aMikd, .ref aMiat, .long hgh, .long loo, .int (b2i dfl)])), (aMst, .inl (cI, 136400, .inl st_1)), (aMffr, .inl (cI, 200, .inl ffr)), (aMfsz, .inl (cI, 200, .inl fsz))] H := hP
      have hD : va_D A [(aM, .inr (11, [.int thr, .ref aMst, .int tpd, .ref aMdcs, .ref aMtot, .ref aMfrm, .ref aMsiz, .int frs, .int frt, .ref aMffr, .ref aMfsz, .int top_1, .int bgn, .int mst, .int (b2i ovr_1), .int 1, .int lvs, .ref aMlkd, .ref aMlat, .ref aMkkd, .ref aMkat, .ref aModr, .ref aMgrp, .int its, .ref aMikd, .ref aMiat, .long hgh, .long loo, .int (b2i dfl)])), (aMst, .inl (cI, 136400, .inl st_1)), (aMffr, .inl (cI, 200, .inl ffr)), (aMfsz, .inl (cI, 200, .inl fsz))] := hD
      exact W.vret hx hb hr (fun t ht hW => ⟨⟨(frs, frt, top_1, ovr_1, true, st_1, ffr, fsz), rfl, (op_eq hs (by rw [tw_MO_endDocument, h_1, ob3_mk, if_pos c_2, if_pos c_3])), by rw [ht]; exact hP, hD⟩, hS.F ht⟩) hS.2.2 d_MO_endDocument_63
    · refine lv_aload_n hx hb d_MO_endDocument_26 rfl (lv_at hl 1 rfl) ?_
      refine va_get (D := D) (ci := 11) (v := .int frs) (C := R_MO) (T := T_MO) (N := 29) hx hb hT u_MO hown hK hP 0 rfl rfl 7 (by decide) (hT _ k_1050) (fun _ h9 => h9) rfl d_MO_endDocument_27 ?_
      refine lv_sipush (v := 200) hx hb d_MO_endDocument_30 (by decide) ?_
      refine lv_icmp_eq (tgt := 58) hx hb d_MO_endDocument_33 (by decide) (fun c_4 => ?_) (fun c_4 => ?_)
      · refine lv_aload_n hx hb d_MO_endDocument_58 rfl (lv_at hl 1 rfl) ?_
        refine lv_iconst (v := 1) hx hb d_MO_endDocument_59 (by decide) ?_
        refine va_put (D := D) (ci := 11) (v := .int 1) (ty := .boolean) (C := R_MO) (T := T_MO) (N := 29) hx hb hT u_MO ty_MO tyok_MO nm_MO hown hK hP hD hS 0 rfl rfl 15 (by decide) (hT _ k_1058) (fun _ h9 => h9) rfl (by decide +kernel) (rfl) (rfl) (Nat.le_of_ble_eq_true rfl) d_MO_endDocument_60 (fun H locs hP hD hS => ?_)
        have hP : va_P D vwCl [(aM, .inr (11, [.int thr, .ref aMst, .int tpd, .ref aMdcs, .ref aMtot, .ref aMfrm, .ref aMsiz, .int frs, .int frt, .ref aMffr, .ref aMfsz, .int top_1, .int bgn, .int mst, .int (b2i ovr_1), .int 1, .int lvs, .ref aMlkd, .ref aMlat, .ref aMkkd, .ref aMkat, .ref aModr, .ref aMgrp, .int its, .ref aMikd, .ref aMiat, .long hgh, .long loo, .int (b2i dfl)])), (aMst, .inl (cI, 136400, .inl st_1)), (aMffr, .inl (cI, 200, .inl ffr)), (aMfsz, .inl (cI, 200, .inl fsz))] H := hP
        have hD : va_D A [(aM, .inr (11, [.int thr, .ref aMst, .int tpd, .ref aMdcs, .ref aMtot, .ref aMfrm, .ref aMsiz, .int frs, .int frt, .ref aMffr, .ref aMfsz, .int top_1, .int bgn, .int mst, .int (b2i ovr_1), .int 1, .int lvs, .ref aMlkd, .ref aMlat, .ref aMkkd, .ref aMkat, .ref aModr, .ref aMgrp, .int its, .ref aMikd, .ref aMiat, .long hgh, .long loo, .int (b2i dfl)])), (aMst, .inl (cI, 136400, .inl st_1)), (aMffr, .inl (cI, 200, .inl ffr)), (aMfsz, .inl (cI, 200, .inl fsz))] := hD
        exact W.vret hx hb hr (fun t ht hW => ⟨⟨(frs, frt, top_1, ovr_1, true, st_1, ffr, fsz), rfl, (op_eq hs (by rw [tw_MO_endDocument, h_1, ob3_mk, if_pos c_2, if_neg c_3, if_pos c_4])), by rw [ht]; exact hP, hD⟩, hS.F ht⟩) hS.2.2 d_MO_endDocument_63
      · refine lv_aload_n hx hb d_MO_endDocument_36 rfl (lv_at hl 1 rfl) ?_
        refine va_get (D := D) (ci := 11) (v := .int frt) (C := R_MO) (T := T_MO) (N := 29) hx hb hT u_MO hown hK hP 0 rfl rfl 8 (by decide) (hT _ k_1051) (fun _ h9 => h9) rfl d_MO_endDocument_37 ?_
        refine lv_iload_n hx hb d_MO_endDocument_40 rfl (lv_at hl 0 rfl) ?_
        refine lv_iadd hx hb d_MO_endDocument_41 ?_
        refine lv_ldc (v := 40000) hx hb hown (hT _ k_1190) d_MO_endDocument_42 ?_
        refine lv_icmp_gt (tgt := 58) hx hb d_MO_endDocument_44 (by decide) (fun c_5 => ?_) (fun c_5 => ?_)
        · refine lv_aload_n hx hb d_MO_endDocument_58 rfl (lv_at hl 1 rfl) ?_
          refine lv_iconst (v := 1) hx hb d_MO_endDocument_59 (by decide) ?_
          refine va_put (D := D) (ci := 11) (v := .int 1) (ty := .boolean) (C := R_MO) (T := T_MO) (N := 29) hx hb hT u_MO ty_MO tyok_MO nm_MO hown hK hP hD hS 0 rfl rfl 15 (by decide) (hT _ k_1058) (fun _ h9 => h9) rfl (by decide +kernel) (rfl) (rfl) (Nat.le_of_ble_eq_true rfl) d_MO_endDocument_60 (fun H locs hP hD hS => ?_)
          have hP : va_P D vwCl [(aM, .inr (11, [.int thr, .ref aMst, .int tpd, .ref aMdcs, .ref aMtot, .ref aMfrm, .ref aMsiz, .int frs, .int frt, .ref aMffr, .ref aMfsz, .int top_1, .int bgn, .int mst, .int (b2i ovr_1), .int 1, .int lvs, .ref aMlkd, .ref aMlat, .ref aMkkd, .ref aMkat, .ref aModr, .ref aMgrp, .int its, .ref aMikd, .ref aMiat, .long hgh, .long loo, .int (b2i dfl)])), (aMst, .inl (cI, 136400, .inl st_1)), (aMffr, .inl (cI, 200, .inl ffr)), (aMfsz, .inl (cI, 200, .inl fsz))] H := hP
          have hD : va_D A [(aM, .inr (11, [.int thr, .ref aMst, .int tpd, .ref aMdcs, .ref aMtot, .ref aMfrm, .ref aMsiz, .int frs, .int frt, .ref aMffr, .ref aMfsz, .int top_1, .int bgn, .int mst, .int (b2i ovr_1), .int 1, .int lvs, .ref aMlkd, .ref aMlat, .ref aMkkd, .ref aMkat, .ref aModr, .ref aMgrp, .int its, .ref aMikd, .ref aMiat, .long hgh, .long loo, .int (b2i dfl)])), (aMst, .inl (cI, 136400, .inl st_1)), (aMffr, .inl (cI, 200, .inl ffr)), (aMfsz, .inl (cI, 200, .inl fsz))] := hD
          exact W.vret hx hb hr (fun t ht hW => ⟨⟨(frs, frt, top_1, ovr_1, true, st_1, ffr, fsz), rfl, (op_eq hs (by rw [tw_MO_endDocument, h_1, ob3_mk, if_pos c_2, if_neg c_3, if_neg c_4, if_pos c_5])), by rw [ht]; exact hP, hD⟩, hS.F ht⟩) hS.2.2 d_MO_endDocument_63
        · refine lv_aload_n hx hb d_MO_endDocument_47 rfl (lv_at hl 1 rfl) ?_
          refine lv_iconst (v := 3) hx hb d_MO_endDocument_48 (by decide) ?_
          refine lv_iload_n hx hb d_MO_endDocument_49 rfl (lv_at hl 2 rfl) ?_
          rcases h_6 : tw_MO_deep0 fu st_1 3 p0 with _ | r_6
          · exact op_no hs (by rw [tw_MO_endDocument, h_1, ob3_mk, if_pos c_2, if_neg c_3, if_neg c_4, if_neg c_5, h_6, ob1_no])
          refine rd_V (val := r_6) (As := [.int 3, .int p0]) (rest := []) ⟨hx, hb, hml, hown, hT⟩ (c_tw_MO_deep0 l D cB cI aM aMst aMdcs aMtot aMfrm aMsiz aMffr aMfsz aMlkd aMlat aMkkd aMkat aModr aMgrp aMikd aMiat fu thr tpd frs frt top_1 bgn mst ovr_1 tgr lvs its hgh loo dfl st_1 3 p0 r_6 h_6) (cwV 2 hT (gV_of k_1383 k_1385 kp_MO_deepOf k_12 kc_MO_deepOf) rfl rfl rfl hd_MO_deepOf ⟨Nat.le_of_ble_eq_true rfl, Nat.le_of_ble_eq_true rfl⟩) hk (hP.sub (ws' := [(aM, .inr (11, [.int thr, .ref aMst, .int tpd, .ref aMdcs, .ref aMtot, .ref aMfrm, .ref aMsiz, .int frs, .int frt, .ref aMffr, .ref aMfsz, .int top_1, .int bgn, .int mst, .int (b2i ovr_1), .int (b2i tgr), .int lvs, .ref aMlkd, .ref aMlat, .ref aMkkd, .ref aMkat, .ref aModr, .ref aMgrp, .int its, .ref aMikd, .ref aMiat, .long hgh, .long loo, .int (b2i dfl)])), (aMst, .inl (cI, 136400, .inl st_1))]) [0, 1] rfl) (q0 := 0) rfl rfl rfl rfl hl.1 rfl (Nat.le_of_ble_eq_true rfl) d_MO_endDocument_50 ⟨Nat.zero_le _, Nat.zero_le _⟩ ?_
          refine lv_bipush (v := 16) hx hb d_MO_endDocument_53 (by decide) ?_
          refine lv_icmp_le (tgt := 64) hx hb d_MO_endDocument_55 (by decide) (fun c_7 => ?_) (fun c_7 => ?_)
          · refine lv_aload_n hx hb d_MO_endDocument_64 rfl (lv_at hl 1 rfl) ?_
            refine va_get (D := D) (ci := 11) (v := .int (b2i tgr)) (C := R_MO) (T := T_MO) (N := 29) hx hb hT u_MO hown hK hP 0 rfl rfl 15 (by decide) (hT _ k_1058) (fun _ h9 => h9) rfl d_MO_endDocument_65 ?_
            refine lv_if_eq (tgt := 72) hx hb d_MO_endDocument_68 (by decide) (fun c_8 => ?_) (fun c_8 => ?_)
            · refine lv_aload_n hx hb d_MO_endDocument_72 rfl (lv_at hl 1 rfl) ?_
              refine va_get (D := D) (ci := 11) (v := .ref aMffr) (C := R_MO) (T := T_MO) (N := 29) hx hb hT u_MO hown hK hP 0 rfl rfl 9 (by decide) (hT _ k_1052) (fun _ h9 => h9) rfl d_MO_endDocument_73 ?_
              refine lv_aload_n hx hb d_MO_endDocument_76 rfl (lv_at hl 1 rfl) ?_
              refine va_get (D := D) (ci := 11) (v := .int frs) (C := R_MO) (T := T_MO) (N := 29) hx hb hT u_MO hown hK hP 0 rfl rfl 7 (by decide) (hT _ k_1050) (fun _ h9 => h9) rfl d_MO_endDocument_77 ?_
              refine lv_iload_n hx hb d_MO_endDocument_80 rfl (lv_at hl 2 rfl) ?_
              by_cases c_9 : 0 ≤ frs ∧ frs < 200
              rotate_left
              · exact op_no hs (by rw [tw_MO_endDocument, h_1, ob3_mk, if_pos c_2, if_neg c_3, if_neg c_4, if_neg c_5, h_6, ob1_mk, if_pos c_7, if_pos c_8, if_neg c_9])
              refine va_iast hx hb hK hP hD hS 2 1 rfl rfl (in_pp c_9.1 c_9.2 rfl) d_MO_endDocument_81 (fun H locs hP hD hS => ?_)
              have hP : va_P D vwCl [(aM, .inr (11, [.int thr, .ref aMst, .int tpd, .ref aMdcs, .ref aMtot, .ref aMfrm, .ref aMsiz, .int frs, .int frt, .ref aMffr, .ref aMfsz, .int top_1, .int bgn, .int mst, .int (b2i ovr_1), .int (b2i tgr), .int lvs, .ref aMlkd, .ref aMlat, .ref aMkkd, .ref aMkat, .ref aModr, .ref aMgrp, .int its, .ref aMikd, .ref aMiat, .long hgh, .long loo, .int (b2i dfl)])), (aMst, .inl (cI, 136400, .inl st_1)), (aMffr, .inl (cI, 200, .inl (upd ffr frs.toNatClampNeg p0))), (aMfsz, .inl (cI, 200, .inl fsz))] H := hP
              have hD : va_D A [(aM, .inr (11, [.int thr, .ref aMst, .int tpd, .ref aMdcs, .ref aMtot, .ref aMfrm, .ref aMsiz, .int frs, .int frt, .ref aMffr, .ref aMfsz, .int top_1, .int bgn, .int mst, .int (b2i ovr_1), .int (b2i tgr), .int lvs, .ref aMlkd, .ref aMlat, .ref aMkkd, .ref aMkat, .ref aModr, .ref aMgrp, .int its, .ref aMikd, .ref aMiat, .long hgh, .long loo, .int (b2i dfl)])), (aMst, .inl (cI, 136400, .inl st_1)), (aMffr, .inl (cI, 200, .inl (upd ffr frs.toNatClampNeg p0))), (aMfsz, .inl (cI, 200, .inl fsz))] := hD
              refine lv_aload_n hx hb d_MO_endDocument_82 rfl (lv_at hl 1 rfl) ?_
              refine va_get (D := D) (ci := 11) (v := .ref aMfsz) (C := R_MO) (T := T_MO) (N := 29) hx hb hT u_MO hown hK hP 0 rfl rfl 10 (by decide) (hT _ k_1053) (fun _ h9 => h9) rfl d_MO_endDocument_83 ?_
              refine lv_aload_n hx hb d_MO_endDocument_86 rfl (lv_at hl 1 rfl) ?_
              refine va_get (D := D) (ci := 11) (v := .int frs) (C := R_MO) (T := T_MO) (N := 29) hx hb hT u_MO hown hK hP 0 rfl rfl 7 (by decide) (hT _ k_1050) (fun _ h9 => h9) rfl d_MO_endDocument_87 ?_
              refine lv_iload_n hx hb d_MO_endDocument_90 rfl (lv_at hl 0 rfl) ?_
              refine va_iast hx hb hK hP hD hS 3 1 rfl rfl (in_pp c_9.1 c_9.2 rfl) d_MO_endDocument_91 (fun H locs hP hD hS => ?_)
              have hP : va_P D vwCl [(aM, .inr (11, [.int thr, .ref aMst, .int tpd, .ref aMdcs, .ref aMtot, .ref aMfrm, .ref aMsiz, .int frs, .int frt, .ref aMffr, .ref aMfsz, .int top_1, .int bgn, .int mst, .int (b2i ovr_1), .int (b2i tgr), .int lvs, .ref aMlkd, .ref aMlat, .ref aMkkd, .ref aMkat, .ref aModr, .ref aMgrp, .int its, .ref aMikd, .ref aMiat, .long hgh, .long loo, .int (b2i dfl)])), (aMst, .inl (cI, 136400, .inl st_1)), (aMffr, .inl (cI, 200, .inl (upd ffr frs.toNatClampNeg p0))), (aMfsz, .inl (cI, 200, .inl (upd fsz frs.toNatClampNeg (top_1 - p0))))] H := hP
              have hD : va_D A [(aM, .inr (11, [.int thr, .ref aMst, .int tpd, .ref aMdcs, .ref aMtot, .ref aMfrm, .ref aMsiz, .int frs, .int frt, .ref aMffr, .ref aMfsz, .int top_1, .int bgn, .int mst, .int (b2i ovr_1), .int (b2i tgr), .int lvs, .ref aMlkd, .ref aMlat, .ref aMkkd, .ref aMkat, .ref aModr, .ref aMgrp, .int its, .ref aMikd, .ref aMiat, .long hgh, .long loo, .int (b2i dfl)])), (aMst, .inl (cI, 136400, .inl st_1)), (aMffr, .inl (cI, 200, .inl (upd ffr frs.toNatClampNeg p0))), (aMfsz, .inl (cI, 200, .inl (upd fsz frs.toNatClampNeg (top_1 - p0))))] := hD
              refine lv_aload_n hx hb d_MO_endDocument_92 rfl (lv_at hl 1 rfl) ?_
              refine lv_dup hx hb d_MO_endDocument_93 rfl ?_
              refine va_get (D := D) (ci := 11) (v := .int frs) (C := R_MO) (T := T_MO) (N := 29) hx hb hT u_MO hown hK hP 0 rfl rfl 7 (by decide) (hT _ k_1050) (fun _ h9 => h9) rfl d_MO_endDocument_94 ?_
              refine lv_iconst (v := 1) hx hb d_MO_endDocument_97 (by decide) ?_
              refine lv_iadd hx hb d_MO_endDocument_98 ?_
              refine va_put (D := D) (ci := 11) (v := .int (frs + 1)) (ty := .int) (C := R_MO) (T := T_MO) (N := 29) hx hb hT u_MO ty_MO tyok_MO nm_MO hown hK hP hD hS 0 rfl rfl 7 (by decide) (hT _ k_1050) (fun _ h9 => h9) rfl (by decide +kernel) (rfl) (rfl) (Nat.le_of_ble_eq_true rfl) d_MO_endDocument_99 (fun H locs hP hD hS => ?_)
              have hP : va_P D vwCl [(aM, .inr (11, [.int thr, .ref aMst, .int tpd, .ref aMdcs, .ref aMtot, .ref aMfrm, .ref aMsiz, .int (frs + 1), .int frt, .ref aMffr, .ref aMfsz, .int top_1, .int bgn, .int mst, .int (b2i ovr_1), .int (b2i tgr), .int lvs, .ref aMlkd, .ref aMlat, .ref aMkkd, .ref aMkat, .ref aModr, .ref aMgrp, .int its, .ref aMikd, .ref aMiat, .long hgh, .long loo, .int (b2i dfl)])), (aMst, .inl (cI, 136400, .inl st_1)), (aMffr, .inl (cI, 200, .inl (upd ffr frs.toNatClampNeg p0))), (aMfsz, .inl (cI, 200, .inl (upd fsz frs.toNatClampNeg (top_1 - p0))))] H := hP
              have hD : va_D A [(aM, .inr (11, [.int thr, .ref aMst, .int tpd, .ref aMdcs, .ref aMtot, .ref aMfrm, .ref aMsiz, .int (frs + 1), .int frt, .ref aMffr, .ref aMfsz, .int top_1, .int bgn, .int mst, .int (b2i ovr_1), .int (b2i tgr), .int lvs, .ref aMlkd, .ref aMlat, .ref aMkkd, .ref aMkat, .ref aModr, .ref aMgrp, .int its, .ref aMikd, .ref aMiat, .long hgh, .long loo, .int (b2i dfl)])), (aMst, .inl (cI, 136400, .inl st_1)), (aMffr, .inl (cI, 200, .inl (upd ffr frs.toNatClampNeg p0))), (aMfsz, .inl (cI, 200, .inl (upd fsz frs.toNatClampNeg (top_1 - p0))))] := hD
              refine lv_aload_n hx hb d_MO_endDocument_102 rfl (lv_at hl 1 rfl) ?_
              refine lv_dup hx hb d_MO_endDocument_103 rfl ?_
              refine va_get (D := D) (ci := 11) (v := .int frt) (C := R_MO) (T := T_MO) (N := 29) hx hb hT u_MO hown hK hP 0 rfl rfl 8 (by decide) (hT _ k_1051) (fun _ h9 => h9) rfl d_MO_endDocument_104 ?_
              refine lv_iload_n hx hb d_MO_endDocument_107 rfl (lv_at hl 0 rfl) ?_
              refine lv_iadd hx hb d_MO_endDocument_108 ?_
              refine va_put (D := D) (ci := 11) (v := .int (frt + (top_1 - p0))) (ty := .int) (C := R_MO) (T := T_MO) (N := 29) hx hb hT u_MO ty_MO tyok_MO nm_MO hown hK hP hD hS 0 rfl rfl 8 (by decide) (hT _ k_1051) (fun _ h9 => h9) rfl (by decide +kernel) (rfl) (rfl) (Nat.le_of_ble_eq_true rfl) d_MO_endDocument_109 (fun H locs hP hD hS => ?_)
              have hP : va_P D vwCl [(aM, .inr (11, [.int thr, .ref aMst, .int tpd, .ref aMdcs, .ref aMtot, .ref aMfrm, .ref aMsiz, .int (frs + 1), .int (frt + (top_1 - p0)), .ref aMffr, .ref aMfsz, .int top_1, .int bgn, .int mst, .int (b2i ovr_1), .int (b2i tgr), .int lvs, .ref aMlkd, .ref aMlat, .ref aMkkd, .ref aMkat, .ref aModr, .ref aMgrp, .int its, .ref aMikd, .ref aMiat, .long hgh, .long loo, .int (b2i dfl)])), (aMst, .inl (cI, 136400, .inl st_1)), (aMffr, .inl (cI, 200, .inl (upd ffr frs.toNatClampNeg p0))), (aMfsz, .inl (cI, 200, .inl (upd fsz frs.toNatClampNeg (top_1 - p0))))] H := hP
              have hD : va_D A [(aM, .inr (11, [.int thr, .ref aMst, .int tpd, .ref aMdcs, .ref aMtot, .ref aMfrm, .ref aMsiz, .int (frs + 1), .int (frt + (top_1 - p0)), .ref aMffr, .ref aMfsz, .int top_1, .int bgn, .int mst, .int (b2i ovr_1), .int (b2i tgr), .int lvs, .ref aMlkd, .ref aMlat, .ref aMkkd, .ref aMkat, .ref aModr, .ref aMgrp, .int its, .ref aMikd, .ref aMiat, .long hgh, .long loo, .int (b2i dfl)])), (aMst, .inl (cI, 136400, .inl st_1)), (aMffr, .inl (cI, 200, .inl (upd ffr frs.toNatClampNeg p0))), (aMfsz, .inl (cI, 200, .inl (upd fsz frs.toNatClampNeg (top_1 - p0))))] := hD
              exact W.vret hx hb hr (fun t ht hW => ⟨⟨(frs + 1, frt + (top_1 - p0), top_1, ovr_1, tgr, st_1, upd ffr frs.toNatClampNeg p0, upd fsz frs.toNatClampNeg (top_1 - p0)), rfl, (op_eq hs (by rw [tw_MO_endDocument, h_1, ob3_mk, if_pos c_2, if_neg c_3, if_neg c_4, if_neg c_5, h_6, ob1_mk, if_pos c_7, if_pos c_8, if_pos c_9])), by rw [ht]; exact hP, hD⟩, hS.F ht⟩) hS.2.2 d_MO_endDocument_112
            · exact W.vret hx hb hr (fun t ht hW => ⟨⟨(frs, frt, top_1, ovr_1, tgr, st_1, ffr, fsz), rfl, (op_eq hs (by rw [tw_MO_endDocument, h_1, ob3_mk, if_pos c_2, if_neg c_3, if_neg c_4, if_neg c_5, h_6, ob1_mk, if_pos c_7, if_neg c_8])), by rw [ht]; exact hP, hD⟩, hS.F ht⟩) hS.2.2 d_MO_endDocument_71
          · refine lv_aload_n hx hb d_MO_endDocument_58 rfl (lv_at hl 1 rfl) ?_
            refine lv_iconst (v := 1) hx hb d_MO_endDocument_59 (by decide) ?_
            refine va_put (D := D) (ci := 11) (v := .int 1) (ty := .boolean) (C := R_MO) (T := T_MO) (N := 29) hx hb hT u_MO ty_MO tyok_MO nm_MO hown hK hP hD hS 0 rfl rfl 15 (by decide) (hT _ k_1058) (fun _ h9 => h9) rfl (by decide +kernel) (rfl) (rfl) (Nat.le_of_ble_eq_true rfl) d_MO_endDocument_60 (fun H locs hP hD hS => ?_)
            have hP : va_P D vwCl [(aM, .inr (11, [.int thr, .ref aMst, .int tpd, .ref aMdcs, .ref aMtot, .ref aMfrm, .ref aMsiz, .int frs, .int frt, .ref aMffr, .ref aMfsz, .int top_1, .int bgn, .int mst, .int (b2i ovr_1), .int 1, .int lvs, .ref aMlkd, .ref aMlat, .ref aMkkd, .ref aMkat, .ref aModr, .ref aMgrp, .int its, .ref aMikd, .ref aMiat, .long hgh, .long loo, .int (b2i dfl)])), (aMst, .inl (cI, 136400, .inl st_1)), (aMffr, .inl (cI, 200, .inl ffr)), (aMfsz, .inl (cI, 200, .inl fsz))] H := hP
            have hD : va_D A [(aM, .inr (11, [.int thr, .ref aMst, .int tpd, .ref aMdcs, .ref aMtot, .ref aMfrm, .ref aMsiz, .int frs, .int frt, .ref aMffr, .ref aMfsz, .int top_1, .int bgn, .int mst, .int (b2i ovr_1), .int 1, .int lvs, .ref aMlkd, .ref aMlat, .ref aMkkd, .ref aMkat, .ref aModr, .ref aMgrp, .int its, .ref aMikd, .ref aMiat, .long hgh, .long loo, .int (b2i dfl)])), (aMst, .inl (cI, 136400, .inl st_1)), (aMffr, .inl (cI, 200, .inl ffr)), (aMfsz, .inl (cI, 200, .inl fsz))] := hD
            exact W.vret hx hb hr (fun t ht hW => ⟨⟨(frs, frt, top_1, ovr_1, true, st_1, ffr, fsz), rfl, (op_eq hs (by rw [tw_MO_endDocument, h_1, ob3_mk, if_pos c_2, if_neg c_3, if_neg c_4, if_neg c_5, h_6, ob1_mk, if_neg c_7])), by rw [ht]; exact hP, hD⟩, hS.F ht⟩) hS.2.2 d_MO_endDocument_63
abbrev wd_MO_keep (aM aMst aMdcs aMtot aMfrm aMsiz aMffr aMfsz aMlkd aMlat aMkkd aMkat aModr aMgrp aMikd aMiat : Nat) (cB cI : ClassId) (thr : Int32) (tpd : Int32) (lvs : Int32) (its : Int32) (hgh : Int64) (loo : Int64) (dfl : Bool) (frm : Nat → Int32) (siz : Nat → Int32) (frs : Int32) (frt : Int32) (top : Int32) (bgn : Int32) (mst : Int32) (ovr : Bool) (tgr : Bool) (st : Nat → Int32) (ffr : Nat → Int32) (fsz : Nat → Int32) : va_W := [(aM, .inr (11, [.int thr, .ref aMst, .int tpd, .ref aMdcs, .ref aMtot, .ref aMfrm, .ref aMsiz, .int frs, .int frt, .ref aMffr, .ref aMfsz, .int top, .int bgn, .int mst, .int (b2i ovr), .int (b2i tgr), .int lvs, .ref aMlkd, .ref aMlat, .ref aMkkd, .ref aMkat, .ref aModr, .ref aMgrp, .int its, .ref aMikd, .ref aMiat, .long hgh, .long loo, .int (b2i dfl)])), (aMst, .inl (cI, 136400, .inl st)), (aMfrm, .inl (cI, 400, .inl frm)), (aMsiz, .inl (cI, 400, .inl siz)), (aMffr, .inl (cI, 200, .inl ffr)), (aMfsz, .inl (cI, 200, .inl fsz))]
set_option maxHeartbeats 4000000 in
set_option maxRecDepth 100000 in
theorem c_MO_keep (l : Launch) (D : va_G) (cB cI : ClassId) (aM aMst aMdcs aMtot aMfrm aMsiz aMffr aMfsz aMlkd aMlat aMkkd aMkat aModr aMgrp aMikd aMiat : Nat) (fu : Nat) (thr : Int32) (tpd : Int32) (lvs : Int32) (its : Int32) (hgh : Int64) (loo : Int64) (dfl : Bool) (frm : Nat → Int32) (siz : Nat → Int32) (sz : Nat) (frs : Int32) (frt : Int32) (top : Int32) (bgn : Int32) (mst : Int32) (ovr : Bool) (tgr : Bool) (st : Nat → Int32) (ffr : Nat → Int32) (fsz : Nat → Int32) (p0 : Int32) (V0 : Int32 × Int32 × Int32 × Int32 × Int32 × Bool × Bool × (Nat → Int32) × (Nat → Int32) × (Nat → Int32)) (hs : tw_MO_keep fu frm siz frs frt top bgn mst ovr tgr st ffr fsz p0 = some V0) : Met l y_MO_keep mw_MO_keep { frames := 162, cells := 0, slots := 0, locals := 4847 } (va_Pc [.ref aM, .int p0] (mt_P D cB cI (wd_MO_keep aM aMst aMdcs aMtot aMfrm aMsiz aMffr aMfsz aMlkd aMlat aMkkd aMkat aModr aMgrp aMikd aMiat cB cI thr tpd lvs its hgh loo dfl frm siz frs frt top bgn mst ovr tgr st ffr fsz) sz)) (va_Qv (fun (u : Int32 × Int32 × Int32 × Int32 × Int32 × Bool × Bool × (Nat → Int32) × (Nat → Int32) × (Nat → Int32)) => u = V0) (mt_B D (va_A (wd_MO_keep aM aMst aMdcs aMtot aMfrm aMsiz aMffr aMfsz aMlkd aMlat aMkkd aMkat aModr aMgrp aMikd aMiat cB cI thr tpd lvs its hgh loo dfl frm siz frs frt top bgn mst ovr tgr st ffr fsz) sz) (fun u => wd_MO_keep aM aMst aMdcs aMtot aMfrm aMsiz aMffr aMfsz aMlkd aMlat aMkkd aMkat aModr aMgrp aMikd aMiat cB cI thr tpd lvs its hgh loo dfl frm siz u.1 u.2.1 u.2.2.1 u.2.2.2.1 u.2.2.2.2.1 u.2.2.2.2.2.1 u.2.2.2.2.2.2.1 u.2.2.2.2.2.2.2.1 u.2.2.2.2.2.2.2.2.1 u.2.2.2.2.2.2.2.2.2)) (va_A (wd_MO_keep aM aMst aMdcs aMtot aMfrm aMsiz aMffr aMfsz aMlkd aMlat aMkkd aMkat aModr aMgrp aMikd aMiat cB cI thr tpd lvs its hgh loo dfl frm siz frs frt top bgn mst ovr tgr st ffr fsz) sz)) 0 0 (va_A (wd_MO_keep aM aMst aMdcs aMtot aMfrm aMsiz aMffr aMfsz aMlkd aMlat aMkkd aMkat aModr aMgrp aMikd aMiat cB cI thr tpd lvs its hgh loo dfl frm siz frs frt top bgn mst ovr tgr st ffr fsz) sz) := by
  refine Met.ofW (cc := b_MO_keep) (maxL := 4) (ret := none) (by decide) rfl ?_
  intro p e s m args below meth c s₁ B0 hml hv
  obtain ⟨rfl, hsz, hP, hk, hD0⟩ := hv
  have hK := hk.1
  have hN := hk.2.1
  have hx := B0.exec
  have hb := B0.bytes
  have hr := B0.returns
  have hT : ∀ w ∈ lw_g, w.before _ s = true := fun w h => atoms_spec (ws := mw_MO_keep) B0.pre w (List.mem_cons_of_mem _ h)
  have hown : s.vm.findClass R_MO = some m.cls := findClass_of_methodNamed B0.named
  have hlocks := B0.notSynchronized
  subst hsz
  have hD := hD0.self (sz := s.heap.size)
  generalize hAe : va_A [(aM, .inr (11, [.int thr, .ref aMst, .int tpd, .ref aMdcs, .ref aMtot, .ref aMfrm, .ref aMsiz, .int frs, .int frt, .ref aMffr, .ref aMfsz, .int top, .int bgn, .int mst, .int (b2i ovr), .int (b2i tgr), .int lvs, .ref aMlkd, .ref aMlat, .ref aMkkd, .ref aMkat, .ref aModr, .ref aMgrp, .int its, .ref aMikd, .ref aMiat, .long hgh, .long loo, .int (b2i dfl)])), (aMst, .inl (cI, 136400, .inl st)), (aMfrm, .inl (cI, 400, .inl frm)), (aMsiz, .inl (cI, 400, .inl siz)), (aMffr, .inl (cI, 200, .inl ffr)), (aMfsz, .inl (cI, 200, .inl fsz))] s.heap.size = A at hD ⊢
  have hA : ∀ q : Nat, s.heap.size ≤ q → A q := fun q h => by rw [← hAe]; exact Or.inr h
  have hS : va_S A s.heap s.heap [] := va_S.rf
  have hl := lv_entry ([.ref aM, .int p0]) (n := 4) (Nat.le_of_ble_eq_true rfl)
  rw [lg_entry_eq]
  generalize (lg_sl ([.ref aM, .int p0]) ++ List.replicate (4 - (lg_sl ([.ref aM, .int p0])).length) Slot.unset).toArray = ls at hl ⊢
  have hl : lv_has ls 4 [(0, .ref aM), (1, .int p0)] := hl
  refine lv_aload_n hx hb d_MO_keep_0 rfl (lv_at hl 0 rfl) ?_
  refine va_get (D := D) (ci := 11) (v := .ref aMfrm) (C := R_MO) (T := T_MO) (N := 29) hx hb hT u_MO hown hK hP 0 rfl rfl 5 (by decide) (hT _ k_1048) (fun _ h9 => h9) rfl d_MO_keep_1 ?_
  refine lv_iload_n hx hb d_MO_keep_4 rfl (lv_at hl 1 rfl) ?_
  by_cases c_1 : 0 ≤ p0 ∧ p0 < 400
  rotate_left
  · exact op_no hs (by rw [tw_MO_keep, if_neg c_1])
  refine va_iald hx hb hK hP 2 1 rfl rfl (in_pp c_1.1 c_1.2 rfl) d_MO_keep_5 ?_
  refine lv_istore_n (lv' := [(2, .int (frm p0.toNatClampNeg)), (0, .ref aM), (1, .int p0)]) hx hb d_MO_keep_6 rfl hl (by decide) rfl (fun ls hl => ?_)
  refine lv_aload_n hx hb d_MO_keep_7 rfl (lv_at hl 1 rfl) ?_
  rcases h_2 : tw_MO_beginDocument fu tgr top bgn mst ovr st with _ | w_2
  · exact op_no hs (by rw [tw_MO_keep, if_pos c_1, h_2, ob6_no])
  refine mt_Vi (As := []) (rest := []) (wr := [(aMfrm, .inl (cI, 400, .inl frm)), (aMsiz, .inl (cI, 400, .inl siz)), (aMffr, .inl (cI, 200, .inl ffr)), (aMfsz, .inl (cI, 200, .inl fsz))]) ⟨hx, hb, hml, hown, hT⟩ (c_MO_beginDocument l D cB cI aM aMst aMdcs aMtot aMfrm aMsiz aMffr aMfsz aMlkd aMlat aMkkd aMkat aModr aMgrp aMikd aMiat fu thr tpd frs frt tgr lvs its hgh loo dfl _ top bgn mst ovr st w_2 h_2) (cwV 0 hT (gV_of k_1310 k_1312 kp_MO_beginDocument k_12 kc_MO_beginDocument) rfl rfl rfl hd_MO_beginDocument ⟨Nat.le_of_ble_eq_true rfl, Nat.le_of_ble_eq_true rfl⟩) hk hP hD hS hA [0, 1] [2, 3, 4, 5] rfl rfl rfl (by decide) (by decide) (by decide) (q0 := 0) rfl rfl rfl rfl hl.1 rfl (Nat.le_of_ble_eq_true rfl) d_MO_keep_8 ⟨Nat.zero_le _, Nat.zero_le _⟩ (fun r_2 u_2 H locs hw_2 hP hD hS => ?_)
  subst hw_2
  obtain ⟨top_2, bgn_2, mst_2, ovr_2, st_2⟩ := u_2
  have hP : va_P D vwCl [(aM, .inr (11, [.int thr, .ref aMst, .int tpd, .ref aMdcs, .ref aMtot, .ref aMfrm, .ref aMsiz, .int frs, .int frt, .ref aMffr, .ref aMfsz, .int top_2, .int bgn_2, .int mst_2, .int (b2i ovr_2), .int (b2i tgr), .int lvs, .ref aMlkd, .ref aMlat, .ref aMkkd, .ref aMkat, .ref aModr, .ref aMgrp, .int its, .ref aMikd, .ref aMiat, .long hgh, .long loo, .int (b2i dfl)])), (aMst, .inl (cI, 136400, .inl st_2)), (aMfrm, .inl (cI, 400, .inl frm)), (aMsiz, .inl (cI, 400, .inl siz)), (aMffr, .inl (cI, 200, .inl ffr)), (aMfsz, .inl (cI, 200, .inl fsz))] H := hP.sub [4, 5, 0, 1, 2, 3] rfl
  have hD : va_D A [(aM, .inr (11, [.int thr, .ref aMst, .int tpd, .ref aMdcs, .ref aMtot, .ref aMfrm, .ref aMsiz, .int frs, .int frt, .ref aMffr, .ref aMfsz, .int top_2, .int bgn_2, .int mst_2, .int (b2i ovr_2), .int (b2i tgr), .int lvs, .ref aMlkd, .ref aMlat, .ref aMkkd, .ref aMkat, .ref aModr, .ref aMgrp, .int its, .ref aMikd, .ref aMiat, .long hgh, .long loo, .int (b2i dfl)])), (aMst, .inl (cI, 136400, .inl st_2)), (aMfrm, .inl (cI, 400, .inl frm)), (aMsiz, .inl (cI, 400, .inl siz)), (aMffr, .inl (cI, 200, .inl ffr)), (aMfsz, .inl (cI, 200, .inl fsz))] := hD.sub [4, 5, 0, 1, 2, 3] (by decide) rfl
  refine lv_istore_n (lv' := [(3, .int r_2), (2, .int (frm p0.toNatClampNeg)), (0, .ref aM), (1, .int p0)]) hx hb d_MO_keep_11 rfl hl (by decide) rfl (fun ls hl => ?_)
  refine lv_aload_n hx hb d_MO_keep_12 rfl (lv_at hl 2 rfl) ?_
  refine lv_iload_n hx hb d_MO_keep_13 rfl (lv_at hl 1 rfl) ?_
  refine lv_iconst (v := 4) hx hb d_MO_keep_14 (by decide) ?_
  refine lv_iadd hx hb d_MO_keep_15 ?_
  refine lv_aload_n hx hb d_MO_keep_16 rfl (lv_at hl 2 rfl) ?_
  refine va_get (D := D) (ci := 11) (v := .ref aMsiz) (C := R_MO) (T := T_MO) (N := 29) hx hb hT u_MO hown hK hP 0 rfl rfl 6 (by decide) (hT _ k_1049) (fun _ h9 => h9) rfl d_MO_keep_17 ?_
  refine lv_iload_n hx hb d_MO_keep_20 rfl (lv_at hl 3 rfl) ?_
  refine va_iald hx hb hK hP 3 1 rfl rfl (in_pp c_1.1 c_1.2 rfl) d_MO_keep_21 ?_
  refine lv_iconst (v := 5) hx hb d_MO_keep_22 (by decide) ?_
  refine lv_isub hx hb d_MO_keep_23 ?_
  rcases h_3 : tw_MO_copy fu bgn_2 mst_2 top_2 ovr_2 st_2 ((frm p0.toNatClampNeg) + 4) ((siz p0.toNatClampNeg) - 5) with _ | w_3
  · exact op_no hs (by rw [tw_MO_keep, if_pos c_1, h_2, ob6_mk, h_3, ob3_no])
  refine mt_Vv (As := [.int ((frm p0.toNatClampNeg) + 4), .int ((siz p0.toNatClampNeg) - 5)]) (rest := []) (wr := [(aMfrm, .inl (cI, 400, .inl frm)), (aMsiz, .inl (cI, 400, .inl siz)), (aMffr, .inl (cI, 200, .inl ffr)), (aMfsz, .inl (cI, 200, .inl fsz))]) ⟨hx, hb, hml, hown, hT⟩ (c_MO_copy l D cB cI aM aMst aMdcs aMtot aMfrm aMsiz aMffr aMfsz aMlkd aMlat aMkkd aMkat aModr aMgrp aMikd aMiat fu thr tpd frs frt bgn_2 mst_2 tgr lvs its hgh loo dfl _ top_2 ovr_2 st_2 ((frm p0.toNatClampNeg) + 4) ((siz p0.toNatClampNeg) - 5) w_3 h_3) (cwV 2 hT (gV_of k_1338 k_1340 kp_MO_copy k_12 kc_MO_copy) rfl rfl rfl hd_MO_copy ⟨Nat.le_of_ble_eq_true rfl, Nat.le_of_ble_eq_true rfl⟩) hk hP hD hS hA [0, 1] [2, 3, 4, 5] rfl rfl rfl (by decide) (by decide) (by decide) (q0 := 0) rfl rfl rfl rfl hl.1 rfl (Nat.le_of_ble_eq_true rfl) d_MO_keep_24 ⟨Nat.zero_le _, Nat.zero_le _⟩ (fun u_3 H locs hw_3 hP hD hS => ?_)
  subst hw_3
  obtain ⟨top_3, ovr_3, st_3⟩ := u_3
  have hP : va_P D vwCl [(aM, .inr (11, [.int thr, .ref aMst, .int tpd, .ref aMdcs, .ref aMtot, .ref aMfrm, .ref aMsiz, .int frs, .int frt, .ref aMffr, .ref aMfsz, .int top_3, .int bgn_2, .int mst_2, .int (b2i ovr_3), .int (b2i tgr), .int lvs, .ref aMlkd, .ref aMlat, .ref aMkkd, .ref aMkat, .ref aModr, .ref aMgrp, .int its, .ref aMikd, .ref aMiat, .long hgh, .long loo, .int (b2i dfl)])), (aMst, .inl (cI, 136400, .inl st_3)), (aMfrm, .inl (cI, 400, .inl frm)), (aMsiz, .inl (cI, 400, .inl siz)), (aMffr, .inl (cI, 200, .inl ffr)), (aMfsz, .inl (cI, 200, .inl fsz))] H := hP.sub [4, 5, 0, 1, 2, 3] rfl
  have hD : va_D A [(aM, .inr (11, [.int thr, .ref aMst, .int tpd, .ref aMdcs, .ref aMtot, .ref aMfrm, .ref aMsiz, .int frs, .int frt, .ref aMffr, .ref aMfsz, .int top_3, .int bgn_2, .int mst_2, .int (b2i ovr_3), .int (b2i tgr), .int lvs, .ref aMlkd, .ref aMlat, .ref aMkkd, .ref aMkat, .ref aModr, .ref aMgrp, .int its, .ref aMikd, .ref aMiat, .long hgh, .long loo, .int (b2i dfl)])), (aMst, .inl (cI, 136400, .inl st_3)), (aMfrm, .inl (cI, 400, .inl frm)), (aMsiz, .inl (cI, 400, .inl siz)), (aMffr, .inl (cI, 200, .inl ffr)), (aMfsz, .inl (cI, 200, .inl fsz))] := hD.sub [4, 5, 0, 1, 2, 3] (by decide) rfl
  refine lv_aload_n hx hb d_MO_keep_27 rfl (lv_at hl 2 rfl) ?_
  refine lv_iload_n hx hb d_MO_keep_28 rfl (lv_at hl 0 rfl) ?_
  rcases h_4 : tw_MO_endDocument fu bgn_2 mst_2 frs frt top_3 ovr_3 tgr st_3 ffr fsz r_2 with _ | w_4
  · exact op_no hs (by rw [tw_MO_keep, if_pos c_1, h_2, ob6_mk, h_3, ob3_mk, h_4, ob8_no])
  refine mt_Vv (As := [.int r_2]) (rest := []) (wr := [(aMfrm, .inl (cI, 400, .inl frm)), (aMsiz, .inl (cI, 400, .inl siz))]) ⟨hx, hb, hml, hown, hT⟩ (c_MO_endDocument l D cB cI aM aMst aMdcs aMtot aMfrm aMsiz aMffr aMfsz aMlkd aMlat aMkkd aMkat aModr aMgrp aMikd aMiat fu thr tpd bgn_2 mst_2 lvs its hgh loo dfl _ frs frt top_3 ovr_3 tgr st_3 ffr fsz r_2 w_4 h_4) (cwV 1 hT (gV_of k_1379 k_1381 kp_MO_endDocument k_12 kc_MO_endDocument) rfl rfl rfl hd_MO_endDocument ⟨Nat.le_of_ble_eq_true rfl, Nat.le_of_ble_eq_true rfl⟩) hk hP hD hS hA [0, 1, 4, 5] [2, 3] rfl rfl rfl (by decide) (by decide) (by decide) (q0 := 0) rfl rfl rfl rfl hl.1 rfl (Nat.le_of_ble_eq_true rfl) d_MO_keep_29 ⟨Nat.zero_le _, Nat.zero_le _⟩ (fun u_4 H locs hw_4 hP hD hS => ?_)
  subst hw_4
  obtain ⟨frs_4, frt_4, top_4, ovr_4, tgr_4, st_4, ffr_4, fsz_4⟩ := u_4
  have hP : va_P D vwCl [(aM, .inr (11, [.int thr, .ref aMst, .int tpd, .ref aMdcs, .ref aMtot, .ref aMfrm, .ref aMsiz, .int frs_4, .int frt_4, .ref aMffr, .ref aMfsz, .int top_4, .int bgn_2, .int mst_2, .int (b2i ovr_4), .int (b2i tgr_4), .int lvs, .ref aMlkd, .ref aMlat, .ref aMkkd, .ref aMkat, .ref aModr, .ref aMgrp, .int its, .ref aMikd, .ref aMiat, .long hgh, .long loo, .int (b2i dfl)])), (aMst, .inl (cI, 136400, .inl st_4)), (aMfrm, .inl (cI, 400, .inl frm)), (aMsiz, .inl (cI, 400, .inl siz)), (aMffr, .inl (cI, 200, .inl ffr_4)), (aMfsz, .inl (cI, 200, .inl fsz_4))] H := hP.sub [2, 3, 0, 1, 4, 5] rfl
  have hD : va_D A [(aM, .inr (11, [.int thr, .ref aMst, .int tpd, .ref aMdcs, .ref aMtot, .ref aMfrm, .ref aMsiz, .int frs_4, .int frt_4, .ref aMffr, .ref aMfsz, .int top_4, .int bgn_2, .int mst_2, .int (b2i ovr_4), .int (b2i tgr_4), .int lvs, .ref aMlkd, .ref aMlat, .ref aMkkd, .ref aMkat, .ref aModr, .ref aMgrp, .int its, .ref aMikd, .ref aMiat, .long hgh, .long loo, .int (b2i dfl)])), (aMst, .inl (cI, 136400, .inl st_4)), (aMfrm, .inl (cI, 400, .inl frm)), (aMsiz, .inl (cI, 400, .inl siz)), (aMffr, .inl (cI, 200, .inl ffr_4)), (aMfsz, .inl (cI, 200, .inl fsz_4))] := hD.sub [2, 3, 0, 1, 4, 5] (by decide) rfl
  exact W.vret hx hb hr (fun t ht hW => ⟨⟨(frs_4, frt_4, top_4, bgn_2, mst_2, ovr_4, tgr_4, st_4, ffr_4, fsz_4), rfl, (op_eq hs (by rw [tw_MO_keep, if_pos c_1, h_2, ob6_mk, h_3, ob3_mk, h_4, ob8_mk])), by rw [ht]; exact hP, hD⟩, hS.F ht⟩) hS.2.2 d_MO_keep_32
abbrev wd_MO_finish (aM aMst aMdcs aMtot aMfrm aMsiz aMffr aMfsz aMlkd aMlat aMkkd aMkat aModr aMgrp aMikd aMiat : Nat) (cB cI : ClassId) (thr : Int32) (tpd : Int32) (frs : Int32) (frt : Int32) (top : Int32) (bgn : Int32) (mst : Int32) (ovr : Bool) (tgr : Bool) (lvs : Int32) (its : Int32) (hgh : Int64) (loo : Int64) (dfl : Bool) (ffr : Nat → Int32) (fsz : Nat → Int32) (st : Nat → Int32) (dcs : Nat → Int32) (tot : Nat → Int32) (frm : Nat → Int32) (siz : Nat → Int32) : va_W := [(aM, .inr (11, [.int thr, .ref aMst, .int tpd, .ref aMdcs, .ref aMtot, .ref aMfrm, .ref aMsiz, .int frs, .int frt, .ref aMffr, .ref aMfsz, .int top, .int bgn, .int mst, .int (b2i ovr), .int (b2i tgr), .int lvs, .ref aMlkd, .ref aMlat, .ref aMkkd, .ref aMkat, .ref aModr, .ref aMgrp, .int its, .ref aMikd, .ref aMiat, .long hgh, .long loo, .int (b2i dfl)])), (aMst, .inl (cI, 136400, .inl st)), (aMdcs, .inl (cI, 2, .inl dcs)), (aMtot, .inl (cI, 2, .inl tot)), (aMfrm, .inl (cI, 400, .inl frm)), (aMsiz, .inl (cI, 400, .inl siz)), (aMffr, .inl (cI, 200, .inl ffr)), (aMfsz, .inl (cI, 200, .inl fsz))]
set_option maxHeartbeats 4000000 in
set_option maxRecDepth 100000 in
theorem l_MO_finish_h42 {p : Program} {e : Env} {s : State} {m : MethodId} {args : Array Value} {below : List Frame} {meth : Method} {c : Code} {V : Option (Int32 × (Nat → Int32) × (Nat → Int32) × (Nat → Int32) × (Nat → Int32) × (Nat → Int32))} {V0 : Int32 × (Nat → Int32) × (Nat → Int32) × (Nat → Int32) × (Nat → Int32) × (Nat → Int32)} (C0 : lc_C p s m meth c args b_MO_finish 4 (some .int) R_MO lw_g) (hs : V = some V0) (l : Launch) (D : va_G) (cB cI : ClassId) (aM aMst aMdcs aMtot aMfrm aMsiz aMffr aMfsz aMlkd aMlat aMkkd aMkat aModr aMgrp aMikd aMiat : Nat) (fu : Nat) (thr : Int32) (tpd : Int32) (frs : Int32) (frt : Int32) (top : Int32) (bgn : Int32) (mst : Int32) (ovr : Bool) (tgr : Bool) (lvs : Int32) (its : Int32) (hgh : Int64) (loo : Int64) (dfl : Bool) (ffr : Nat → Int32) (fsz : Nat → Int32) {A : Nat → Prop} (hk : hk_ D cB cI s) (hA : ∀ q : Nat, s.heap.size ≤ q → A q) (x1 : Int32) (x2 : Int32) {K : Int32 → (Nat → Int32) → (Nat → Int32) → (Nat → Int32) → (Nat → Int32) → (Nat → Int32) → Option (Int32 × (Nat → Int32) × (Nat → Int32) × (Nat → Int32) × (Nat → Int32) × (Nat → Int32))} (hKx : ∀ (x3 : Int32) (st : Nat → Int32) (dcs : Nat → Int32) (tot : Nat → Int32) (frm : Nat → Int32) (siz : Nat → Int32), V = K x3 st dcs tot frm siz → ∀ (H : Heap) (locs : List Loc), va_P D vwCl [(aM, .inr (11, [.int thr, .ref aMst, .int tpd, .ref aMdcs, .ref aMtot, .ref aMfrm, .ref aMsiz, .int frs, .int frt, .ref aMffr, .ref aMfsz, .int top, .int bgn, .int mst, .int (b2i ovr), .int (b2i tgr), .int lvs, .ref aMlkd, .ref aMlat, .ref aMkkd, .ref aMkat, .ref aModr, .ref aMgrp, .int its, .ref aMikd, .ref aMiat, .long hgh, .long loo, .int (b2i dfl)])), (aMst, .inl (cI, 136400, .inl st)), (aMdcs, .inl (cI, 2, .inl dcs)), (aMtot, .inl (cI, 2, .inl tot)), (aMfrm, .inl (cI, 400, .inl frm)), (aMsiz, .inl (cI, 400, .inl siz)), (aMffr, .inl (cI, 200, .inl ffr)), (aMfsz, .inl (cI, 200, .inl fsz))] H → va_D A [(aM, .inr (11, [.int thr, .ref aMst, .int tpd, .ref aMdcs, .ref aMtot, .ref aMfrm, .ref aMsiz, .int frs, .int frt, .ref aMffr, .ref aMfsz, .int top, .int bgn, .int mst, .int (b2i ovr), .int (b2i tgr), .int lvs, .ref aMlkd, .ref aMlat, .ref aMkkd, .ref aMkat, .ref aModr, .ref aMgrp, .int its, .ref aMikd, .ref aMiat, .long hgh, .long loo, .int (b2i dfl)])), (aMst, .inl (cI, 136400, .inl st)), (aMdcs, .inl (cI, 2, .inl dcs)), (aMtot, .inl (cI, 2, .inl tot)), (aMfrm, .inl (cI, 400, .inl frm)), (aMsiz, .inl (cI, 400, .inl siz)), (aMffr, .inl (cI, 200, .inl ffr)), (aMfsz, .inl (cI, 200, .inl fsz))] → va_S A s.heap H locs → ∀ ls : Array Slot, lv_has ls 4 [(0, .ref aM), (1, .int x1), (2, .int x2)] → W p l e ({ frames := 0, cells := 0, slots := 0, locals := 0 }) s m args below meth c H locs 0 0 (MQ below (va_Qi (fun (r : Int32) (u : (Nat → Int32) × (Nat → Int32) × (Nat → Int32) × (Nat → Int32) × (Nat → Int32)) => (r, u) = V0) (mt_B D A (fun u => wd_MO_finish aM aMst aMdcs aMtot aMfrm aMsiz aMffr aMfsz aMlkd aMlat aMkkd aMkat aModr aMgrp aMikd aMiat cB cI thr tpd frs frt top bgn mst ovr tgr lvs its hgh loo dfl ffr fsz u.1 u.2.1 u.2.2.1 u.2.2.2.1 u.2.2.2.2)) A) args s 0 0 A) (F0 m 79 ls [])) : ∀ (n : Nat) (x3 : Int32) (st : Nat → Int32) (dcs : Nat → Int32) (tot : Nat → Int32) (frm : Nat → Int32) (siz : Nat → Int32), V = tw_MO_finish_h42 fu frs tgr ffr fsz K x1 x2 n x3 st dcs tot frm siz → ∀ (H : Heap) (locs : List Loc), va_P D vwCl [(aM, .inr (11, [.int thr, .ref aMst, .int tpd, .ref aMdcs, .ref aMtot, .ref aMfrm, .ref aMsiz, .int frs, .int frt, .ref aMffr, .ref aMfsz, .int top, .int bgn, .int mst, .int (b2i ovr), .int (b2i tgr), .int lvs, .ref aMlkd, .ref aMlat, .ref aMkkd, .ref aMkat, .ref aModr, .ref aMgrp, .int its, .ref aMikd, .ref aMiat, .long hgh, .long loo, .int (b2i dfl)])), (aMst, .inl (cI, 136400, .inl st)), (aMdcs, .inl (cI, 2, .inl dcs)), (aMtot, .inl (cI, 2, .inl tot)), (aMfrm, .inl (cI, 400, .inl frm)), (aMsiz, .inl (cI, 400, .inl siz)), (aMffr, .inl (cI, 200, .inl ffr)), (aMfsz, .inl (cI, 200, .inl fsz))] H → va_D A [(aM, .inr (11, [.int thr, .ref aMst, .int tpd, .ref aMdcs, .ref aMtot, .ref aMfrm, .ref aMsiz, .int frs, .int frt, .ref aMffr, .ref aMfsz, .int top, .int bgn, .int mst, .int (b2i ovr), .int (b2i tgr), .int lvs, .ref aMlkd, .ref aMlat, .ref aMkkd, .ref aMkat, .ref aModr, .ref aMgrp, .int its, .ref aMikd, .ref aMiat, .long hgh, .long loo, .int (b2i dfl)])), (aMst, .inl (cI, 136400, .inl st)), (aMdcs, .inl (cI, 2, .inl dcs)), (aMtot, .inl (cI, 2, .inl tot)), (aMfrm, .inl (cI, 400, .inl frm)), (aMsiz, .inl (cI, 400, .inl siz)), (aMffr, .inl (cI, 200, .inl ffr)), (aMfsz, .inl (cI, 200, .inl fsz))] → va_S A s.heap H locs → ∀ ls : Array Slot, lv_has ls 4 [(0, .ref aM), (1, .int x1), (2, .int x2), (3, .int x3)] → W p l e ({ frames := 0, cells := 0, slots := 0, locals := 0 }) s m args below meth c H locs 0 0 (MQ below (va_Qi (fun (r : Int32) (u : (Nat → Int32) × (Nat → Int32) × (Nat → Int32) × (Nat → Int32) × (Nat → Int32)) => (r, u) = V0) (mt_B D A (fun u => wd_MO_finish aM aMst aMdcs aMtot aMfrm aMsiz aMffr aMfsz aMlkd aMlat aMkkd aMkat aModr aMgrp aMikd aMiat cB cI thr tpd frs frt top bgn mst ovr tgr lvs its hgh loo dfl ffr fsz u.1 u.2.1 u.2.2.1 u.2.2.2.1 u.2.2.2.2)) A) args s 0 0 A) (F0 m 42 ls []) := by
  obtain ⟨hx, hb, hml, hr, hown, hlocks, hT⟩ := id C0
  have hK := hk.1
  have hN := hk.2.1
  intro n
  induction n with
  | zero =>
    intro x3 st dcs tot frm siz hV
    exact op_no hs (hV.trans rfl)
  | succ n ih =>
    intro x3 st dcs tot frm siz hV H locs hP hD hS ls hl
    refine lv_iload_n hx hb d_MO_finish_42 rfl (lv_at hl 3 rfl) ?_
    refine lv_aload_n hx hb d_MO_finish_43 rfl (lv_at hl 0 rfl) ?_
    refine va_get (D := D) (ci := 11) (v := .ref aMsiz) (C := R_MO) (T := T_MO) (N := 29) hx hb hT u_MO hown hK hP 0 rfl rfl 6 (by decide) (hT _ k_1049) (fun _ h9 => h9) rfl d_MO_finish_44 ?_
    refine lv_iload_n hx hb d_MO_finish_47 rfl (lv_at hl 2 rfl) ?_
    by_cases c_5 : 0 ≤ x2 ∧ x2 < 400
    rotate_left
    · exact op_no hs (by rw [hV, tw_MO_finish_h42, if_neg c_5])
    refine va_iald hx hb hK hP 5 1 rfl rfl (in_pp c_5.1 c_5.2 rfl) d_MO_finish_48 ?_
    refine lv_icmp_ge (tgt := 79) hx hb d_MO_finish_49 (by decide) (fun c_6 => ?_) (fun c_6 => ?_)
    · exact hKx x3 st dcs tot frm siz (by rw [hV, tw_MO_finish_h42, if_pos c_5, if_pos c_6]) _ _ hP hD hS ls (lv_sub hl [0, 1, 2] rfl)
    · refine lv_aload_n hx hb d_MO_finish_52 rfl (lv_at hl 0 rfl) ?_
      refine va_get (D := D) (ci := 11) (v := .ref aMst) (C := R_MO) (T := T_MO) (N := 29) hx hb hT u_MO hown hK hP 0 rfl rfl 1 (by decide) (hT _ k_1044) (fun _ h9 => h9) rfl d_MO_finish_53 ?_
      refine lv_iload_n hx hb d_MO_finish_56 rfl (lv_at hl 1 rfl) ?_
      refine lv_iload_n hx hb d_MO_finish_57 rfl (lv_at hl 3 rfl) ?_
      refine lv_iadd hx hb d_MO_finish_58 ?_
      refine lv_aload_n hx hb d_MO_finish_59 rfl (lv_at hl 0 rfl) ?_
      refine va_get (D := D) (ci := 11) (v := .ref aMst) (C := R_MO) (T := T_MO) (N := 29) hx hb hT u_MO hown hK hP 0 rfl rfl 1 (by decide) (hT _ k_1044) (fun _ h9 => h9) rfl d_MO_finish_60 ?_
      refine lv_aload_n hx hb d_MO_finish_63 rfl (lv_at hl 0 rfl) ?_
      refine va_get (D := D) (ci := 11) (v := .ref aMffr) (C := R_MO) (T := T_MO) (N := 29) hx hb hT u_MO hown hK hP 0 rfl rfl 9 (by decide) (hT _ k_1052) (fun _ h9 => h9) rfl d_MO_finish_64 ?_
      refine lv_iload_n hx hb d_MO_finish_67 rfl (lv_at hl 2 rfl) ?_
      by_cases c_7 : 0 ≤ x2 ∧ x2 < 200
      rotate_left
      · exact op_no hs (by rw [hV, tw_MO_finish_h42, if_pos c_5, if_neg c_6, if_neg c_7])
      refine va_iald hx hb hK hP 6 1 rfl rfl (in_pp c_5.1 c_7.2 rfl) d_MO_finish_68 ?_
      refine lv_iload_n hx hb d_MO_finish_69 rfl (lv_at hl 3 rfl) ?_
      refine lv_iadd hx hb d_MO_finish_70 ?_
      by_cases c_8 : 0 ≤ ((ffr x2.toNatClampNeg) + x3) ∧ ((ffr x2.toNatClampNeg) + x3) < 136400
      rotate_left
      · exact op_no hs (by rw [hV, tw_MO_finish_h42, if_pos c_5, if_neg c_6, if_pos c_7, if_neg c_8])
      refine va_iald hx hb hK hP 1 1 rfl rfl (in_pp c_8.1 c_8.2 rfl) d_MO_finish_71 ?_
      by_cases c_9 : 0 ≤ (x1 + x3) ∧ (x1 + x3) < 136400
      rotate_left
      · exact op_no hs (by rw [hV, tw_MO_finish_h42, if_pos c_5, if_neg c_6, if_pos c_7, if_pos c_8, if_neg c_9])
      refine va_iast hx hb hK hP hD hS 1 1 rfl rfl (in_pp c_9.1 c_9.2 rfl) d_MO_finish_72 (fun H locs hP hD hS => ?_)
      have hP : va_P D vwCl [(aM, .inr (11, [.int thr, .ref aMst, .int tpd, .ref aMdcs, .ref aMtot, .ref aMfrm, .ref aMsiz, .int frs, .int frt, .ref aMffr, .ref aMfsz, .int top, .int bgn, .int mst, .int (b2i ovr), .int (b2i tgr), .int lvs, .ref aMlkd, .ref aMlat, .ref aMkkd, .ref aMkat, .ref aModr, .ref aMgrp, .int its, .ref aMikd, .ref aMiat, .long hgh, .long loo, .int (b2i dfl)])), (aMst, .inl (cI, 136400, .inl (upd st (x1 + x3).toNatClampNeg (st ((ffr x2.toNatClampNeg) + x3).toNatClampNeg)))), (aMdcs, .inl (cI, 2, .inl dcs)), (aMtot, .inl (cI, 2, .inl tot)), (aMfrm, .inl (cI, 400, .inl frm)), (aMsiz, .inl (cI, 400, .inl siz)), (aMffr, .inl (cI, 200, .inl ffr)), (aMfsz, .inl (cI, 200, .inl fsz))] H := hP
      have hD : va_D A [(aM, .inr (11, [.int thr, .ref aMst, .int tpd, .ref aMdcs, .ref aMtot, .ref aMfrm, .ref aMsiz, .int frs, .int frt, .ref aMffr, .ref aMfsz, .int top, .int bgn, .int mst, .int (b2i ovr), .int (b2i tgr), .int lvs, .ref aMlkd, .ref aMlat, .ref aMkkd, .ref aMkat, .ref aModr, .ref aMgrp, .int its, .ref aMikd, .ref aMiat, .long hgh, .long loo, .int (b2i dfl)])), (aMst, .inl (cI, 136400, .inl (upd st (x1 + x3).toNatClampNeg (st ((ffr x2.toNatClampNeg) + x3).toNatClampNeg)))), (aMdcs, .inl (cI, 2, .inl dcs)), (aMtot, .inl (cI, 2, .inl tot)), (aMfrm, .inl (cI, 400, .inl frm)), (aMsiz, .inl (cI, 400, .inl siz)), (aMffr, .inl (cI, 200, .inl ffr)), (aMfsz, .inl (cI, 200, .inl fsz))] := hD
      refine lv_iinc (v := x3 + 1) (lv' := [(3, .int (x3 + 1)), (0, .ref aM), (1, .int x1), (2, .int x2)]) hx hb d_MO_finish_73 hl (k := 3) rfl rfl (by decide) rfl (fun ls hl => ?_)
      refine lv_goto (tgt := 42) hx hb d_MO_finish_76 (by decide) ?_
      exact ih (x3 + 1) (upd st (x1 + x3).toNatClampNeg (st ((ffr x2.toNatClampNeg) + x3).toNatClampNeg)) dcs tot frm siz (by rw [hV, tw_MO_finish_h42, if_pos c_5, if_neg c_6, if_pos c_7, if_pos c_8, if_pos c_9]) _ _ hP hD hS ls (lv_sub hl [1, 2, 3, 0] rfl)
set_option maxHeartbeats 4000000 in
set_option maxRecDepth 100000 in
theorem l_MO_finish_h13 {p : Program} {e : Env} {s : State} {m : MethodId} {args : Array Value} {below : List Frame} {meth : Method} {c : Code} {V : Option (Int32 × (Nat → Int32) × (Nat → Int32) × (Nat → Int32) × (Nat → Int32) × (Nat → Int32))} {V0 : Int32 × (Nat → Int32) × (Nat → Int32) × (Nat → Int32) × (Nat → Int32) × (Nat → Int32)} (C0 : lc_C p s m meth c args b_MO_finish 4 (some .int) R_MO lw_g) (hs : V = some V0) (l : Launch) (D : va_G) (cB cI : ClassId) (aM aMst aMdcs aMtot aMfrm aMsiz aMffr aMfsz aMlkd aMlat aMkkd aMkat aModr aMgrp aMikd aMiat : Nat) (fu : Nat) (thr : Int32) (tpd : Int32) (frs : Int32) (frt : Int32) (top : Int32) (bgn : Int32) (mst : Int32) (ovr : Bool) (tgr : Bool) (lvs : Int32) (its : Int32) (hgh : Int64) (loo : Int64) (dfl : Bool) (ffr : Nat → Int32) (fsz : Nat → Int32) {A : Nat → Prop} (hk : hk_ D cB cI s) (hA : ∀ q : Nat, s.heap.size ≤ q → A q)  {K : Int32 → Int32 → (Nat → Int32) → (Nat → Int32) → (Nat → Int32) → (Nat → Int32) → (Nat → Int32) → Option (Int32 × (Nat → Int32) × (Nat → Int32) × (Nat → Int32) × (Nat → Int32) × (Nat → Int32))} (hKx : ∀ (x1 : Int32) (x2 : Int32) (st : Nat → Int32) (dcs : Nat → Int32) (tot : Nat → Int32) (frm : Nat → Int32) (siz : Nat → Int32), V = K x1 x2 st dcs tot frm siz → ∀ (H : Heap) (locs : List Loc), va_P D vwCl [(aM, .inr (11, [.int thr, .ref aMst, .int tpd, .ref aMdcs, .ref aMtot, .ref aMfrm, .ref aMsiz, .int frs, .int frt, .ref aMffr, .ref aMfsz, .int top, .int bgn, .int mst, .int (b2i ovr), .int (b2i tgr), .int lvs, .ref aMlkd, .ref aMlat, .ref aMkkd, .ref aMkat, .ref aModr, .ref aMgrp, .int its, .ref aMikd, .ref aMiat, .long hgh, .long loo, .int (b2i dfl)])), (aMst, .inl (cI, 136400, .inl st)), (aMdcs, .inl (cI, 2, .inl dcs)), (aMtot, .inl (cI, 2, .inl tot)), (aMfrm, .inl (cI, 400, .inl frm)), (aMsiz, .inl (cI, 400, .inl siz)), (aMffr, .inl (cI, 200, .inl ffr)), (aMfsz, .inl (cI, 200, .inl fsz))] H → va_D A [(aM, .inr (11, [.int thr, .ref aMst, .int tpd, .ref aMdcs, .ref aMtot, .ref aMfrm, .ref aMsiz, .int frs, .int frt, .ref aMffr, .ref aMfsz, .int top, .int bgn, .int mst, .int (b2i ovr), .int (b2i tgr), .int lvs, .ref aMlkd, .ref aMlat, .ref aMkkd, .ref aMkat, .ref aModr, .ref aMgrp, .int its, .ref aMikd, .ref aMiat, .long hgh, .long loo, .int (b2i dfl)])), (aMst, .inl (cI, 136400, .inl st)), (aMdcs, .inl (cI, 2, .inl dcs)), (aMtot, .inl (cI, 2, .inl tot)), (aMfrm, .inl (cI, 400, .inl frm)), (aMsiz, .inl (cI, 400, .inl siz)), (aMffr, .inl (cI, 200, .inl ffr)), (aMfsz, .inl (cI, 200, .inl fsz))] → va_S A s.heap H locs → ∀ ls : Array Slot, lv_has ls 4 [(0, .ref aM), (1, .int x1)] → W p l e ({ frames := 0, cells := 0, slots := 0, locals := 0 }) s m args below meth c H locs 0 0 (MQ below (va_Qi (fun (r : Int32) (u : (Nat → Int32) × (Nat → Int32) × (Nat → Int32) × (Nat → Int32) × (Nat → Int32)) => (r, u) = V0) (mt_B D A (fun u => wd_MO_finish aM aMst aMdcs aMtot aMfrm aMsiz aMffr aMfsz aMlkd aMlat aMkkd aMkat aModr aMgrp aMikd aMiat cB cI thr tpd frs frt top bgn mst ovr tgr lvs its hgh loo dfl ffr fsz u.1 u.2.1 u.2.2.1 u.2.2.2.1 u.2.2.2.2)) A) args s 0 0 A) (F0 m 94 ls [])) : ∀ (n : Nat) (x1 : Int32) (x2 : Int32) (st : Nat → Int32) (dcs : Nat → Int32) (tot : Nat → Int32) (frm : Nat → Int32) (siz : Nat → Int32), V = tw_MO_finish_h13 fu frs tgr ffr fsz K n x1 x2 st dcs tot frm siz → ∀ (H : Heap) (locs : List Loc), va_P D vwCl [(aM, .inr (11, [.int thr, .ref aMst, .int tpd, .ref aMdcs, .ref aMtot, .ref aMfrm, .ref aMsiz, .int frs, .int frt, .ref aMffr, .ref aMfsz, .int top, .int bgn, .int mst, .int (b2i ovr), .int (b2i tgr), .int lvs, .ref aMlkd, .ref aMlat, .ref aMkkd, .ref aMkat, .ref aModr, .ref aMgrp, .int its, .ref aMikd, .ref aMiat, .long hgh, .long loo, .int (b2i dfl)])), (aMst, .inl (cI, 136400, .inl st)), (aMdcs, .inl (cI, 2, .inl dcs)), (aMtot, .inl (cI, 2, .inl tot)), (aMfrm, .inl (cI, 400, .inl frm)), (aMsiz, .inl (cI, 400, .inl siz)), (aMffr, .inl (cI, 200, .inl ffr)), (aMfsz, .inl (cI, 200, .inl fsz))] H → va_D A [(aM, .inr (11, [.int thr, .ref aMst, .int tpd, .ref aMdcs, .ref aMtot, .ref aMfrm, .ref aMsiz, .int frs, .int frt, .ref aMffr, .ref aMfsz, .int top, .int bgn, .int mst, .int (b2i ovr), .int (b2i tgr), .int lvs, .ref aMlkd, .ref aMlat, .ref aMkkd, .ref aMkat, .ref aModr, .ref aMgrp, .int its, .ref aMikd, .ref aMiat, .long hgh, .long loo, .int (b2i dfl)])), (aMst, .inl (cI, 136400, .inl st)), (aMdcs, .inl (cI, 2, .inl dcs)), (aMtot, .inl (cI, 2, .inl tot)), (aMfrm, .inl (cI, 400, .inl frm)), (aMsiz, .inl (cI, 400, .inl siz)), (aMffr, .inl (cI, 200, .inl ffr)), (aMfsz, .inl (cI, 200, .inl fsz))] → va_S A s.heap H locs → ∀ ls : Array Slot, lv_has ls 4 [(0, .ref aM), (1, .int x1), (2, .int x2)] → W p l e ({ frames := 0, cells := 0, slots := 0, locals := 0 }) s m args below meth c H locs 0 0 (MQ below (va_Qi (fun (r : Int32) (u : (Nat → Int32) × (Nat → Int32) × (Nat → Int32) × (Nat → Int32) × (Nat → Int32)) => (r, u) = V0) (mt_B D A (fun u => wd_MO_finish aM aMst aMdcs aMtot aMfrm aMsiz aMffr aMfsz aMlkd aMlat aMkkd aMkat aModr aMgrp aMikd aMiat cB cI thr tpd frs frt top bgn mst ovr tgr lvs its hgh loo dfl ffr fsz u.1 u.2.1 u.2.2.1 u.2.2.2.1 u.2.2.2.2)) A) args s 0 0 A) (F0 m 13 ls []) := by
  obtain ⟨hx, hb, hml, hr, hown, hlocks, hT⟩ := id C0
  have hK := hk.1
  have hN := hk.2.1
  intro n
  induction n with
  | zero =>
    intro x1 x2 st dcs tot frm siz hV
    exact op_no hs (hV.trans rfl)
  | succ n ih =>
    intro x1 x2 st dcs tot frm siz hV H locs hP hD hS ls hl
    refine lv_iload_n hx hb d_MO_finish_13 rfl (lv_at hl 2 rfl) ?_
    refine lv_aload_n hx hb d_MO_finish_14 rfl (lv_at hl 0 rfl) ?_
    refine va_get (D := D) (ci := 11) (v := .int frs) (C := R_MO) (T := T_MO) (N := 29) hx hb hT u_MO hown hK hP 0 rfl rfl 7 (by decide) (hT _ k_1050) (fun _ h9 => h9) rfl d_MO_finish_15 ?_
    refine lv_icmp_ge (tgt := 94) hx hb d_MO_finish_18 (by decide) (fun c_2 => ?_) (fun c_2 => ?_)
    · exact hKx x1 x2 st dcs tot frm siz (by rw [hV, tw_MO_finish_h13, if_pos c_2]) _ _ hP hD hS ls (lv_sub hl [0, 1] rfl)
    · refine lv_aload_n hx hb d_MO_finish_21 rfl (lv_at hl 0 rfl) ?_
      refine va_get (D := D) (ci := 11) (v := .ref aMfrm) (C := R_MO) (T := T_MO) (N := 29) hx hb hT u_MO hown hK hP 0 rfl rfl 5 (by decide) (hT _ k_1048) (fun _ h9 => h9) rfl d_MO_finish_22 ?_
      refine lv_iload_n hx hb d_MO_finish_25 rfl (lv_at hl 2 rfl) ?_
      refine lv_iload_n hx hb d_MO_finish_26 rfl (lv_at hl 1 rfl) ?_
      by_cases c_3 : 0 ≤ x2 ∧ x2 < 400
      rotate_left
      · exact op_no hs (by rw [hV, tw_MO_finish_h13, if_neg c_2, if_neg c_3])
      refine va_iast hx hb hK hP hD hS 4 1 rfl rfl (in_pp c_3.1 c_3.2 rfl) d_MO_finish_27 (fun H locs hP hD hS => ?_)
      have hP : va_P D vwCl [(aM, .inr (11, [.int thr, .ref aMst, .int tpd, .ref aMdcs, .ref aMtot, .ref aMfrm, .ref aMsiz, .int frs, .int frt, .ref aMffr, .ref aMfsz, .int top, .int bgn, .int mst, .int (b2i ovr), .int (b2i tgr), .int lvs, .ref aMlkd, .ref aMlat, .ref aMkkd, .ref aMkat, .ref aModr, .ref aMgrp, .int its, .ref aMikd, .ref aMiat, .long hgh, .long loo, .int (b2i dfl)])), (aMst, .inl (cI, 136400, .inl st)), (aMdcs, .inl (cI, 2, .inl dcs)), (aMtot, .inl (cI, 2, .inl tot)), (aMfrm, .inl (cI, 400, .inl (upd frm x2.toNatClampNeg x1))), (aMsiz, .inl (cI, 400, .inl siz)), (aMffr, .inl (cI, 200, .inl ffr)), (aMfsz, .inl (cI, 200, .inl fsz))] H := hP
      have hD : va_D A [(aM, .inr (11, [.int thr, .ref aMst, .int tpd, .ref aMdcs, .ref aMtot, .ref aMfrm, .ref aMsiz, .int frs, .int frt, .ref aMffr, .ref aMfsz, .int top, .int bgn, .int mst, .int (b2i ovr), .int (b2i tgr), .int lvs, .ref aMlkd, .ref aMlat, .ref aMkkd, .ref aMkat, .ref aModr, .ref aMgrp, .int its, .ref aMikd, .ref aMiat, .long hgh, .long loo, .int (b2i dfl)])), (aMst, .inl (cI, 136400, .inl st)), (aMdcs, .inl (cI, 2, .inl dcs)), (aMtot, .inl (cI, 2, .inl tot)), (aMfrm, .inl (cI, 400, .inl (upd frm x2.toNatClampNeg x1))), (aMsiz, .inl (cI, 400, .inl siz)), (aMffr, .inl (cI, 200, .inl ffr)), (aMfsz, .inl (cI, 200, .inl fsz))] := hD
      refine lv_aload_n hx hb d_MO_finish_28 rfl (lv_at hl 0 rfl) ?_
      refine va_get (D := D) (ci := 11) (v := .ref aMsiz) (C := R_MO) (T := T_MO) (N := 29) hx hb hT u_MO hown hK hP 0 rfl rfl 6 (by decide) (hT _ k_1049) (fun _ h9 => h9) rfl d_MO_finish_29 ?_
      refine lv_iload_n hx hb d_MO_finish_32 rfl (lv_at hl 2 rfl) ?_
      refine lv_aload_n hx hb d_MO_finish_33 rfl (lv_at hl 0 rfl) ?_
      refine va_get (D := D) (ci := 11) (v := .ref aMfsz) (C := R_MO) (T := T_MO) (N := 29) hx hb hT u_MO hown hK hP 0 rfl rfl 10 (by decide) (hT _ k_1053) (fun _ h9 => h9) rfl d_MO_finish_34 ?_
      refine lv_iload_n hx hb d_MO_finish_37 rfl (lv_at hl 2 rfl) ?_
      by_cases c_4 : 0 ≤ x2 ∧ x2 < 200
      rotate_left
      · exact op_no hs (by rw [hV, tw_MO_finish_h13, if_neg c_2, if_pos c_3, if_neg c_4])
      refine va_iald hx hb hK hP 7 1 rfl rfl (in_pp c_3.1 c_4.2 rfl) d_MO_finish_38 ?_
      refine va_iast hx hb hK hP hD hS 5 1 rfl rfl (in_pp c_3.1 c_3.2 rfl) d_MO_finish_39 (fun H locs hP hD hS => ?_)
      have hP : va_P D vwCl [(aM, .inr (11, [.int thr, .ref aMst, .int tpd, .ref aMdcs, .ref aMtot, .ref aMfrm, .ref aMsiz, .int frs, .int frt, .ref aMffr, .ref aMfsz, .int top, .int bgn, .int mst, .int (b2i ovr), .int (b2i tgr), .int lvs, .ref aMlkd, .ref aMlat, .ref aMkkd, .ref aMkat, .ref aModr, .ref aMgrp, .int its, .ref aMikd, .ref aMiat, .long hgh, .long loo, .int (b2i dfl)])), (aMst, .inl (cI, 136400, .inl st)), (aMdcs, .inl (cI, 2, .inl dcs)), (aMtot, .inl (cI, 2, .inl tot)), (aMfrm, .inl (cI, 400, .inl (upd frm x2.toNatClampNeg x1))), (aMsiz, .inl (cI, 400, .inl (upd siz x2.toNatClampNeg (fsz x2.toNatClampNeg)))), (aMffr, .inl (cI, 200, .inl ffr)), (aMfsz, .inl (cI, 200, .inl fsz))] H := hP
      have hD : va_D A [(aM, .inr (11, [.int thr, .ref aMst, .int tpd, .ref aMdcs, .ref aMtot, .ref aMfrm, .ref aMsiz, .int frs, .int frt, .ref aMffr, .ref aMfsz, .int top, .int bgn, .int mst, .int (b2i ovr), .int (b2i tgr), .int lvs, .ref aMlkd, .ref aMlat, .ref aMkkd, .ref aMkat, .ref aModr, .ref aMgrp, .int its, .ref aMikd, .ref aMiat, .long hgh, .long loo, .int (b2i dfl)])), (aMst, .inl (cI, 136400, .inl st)), (aMdcs, .inl (cI, 2, .inl dcs)), (aMtot, .inl (cI, 2, .inl tot)), (aMfrm, .inl (cI, 400, .inl (upd frm x2.toNatClampNeg x1))), (aMsiz, .inl (cI, 400, .inl (upd siz x2.toNatClampNeg (fsz x2.toNatClampNeg)))), (aMffr, .inl (cI, 200, .inl ffr)), (aMfsz, .inl (cI, 200, .inl fsz))] := hD
      refine lv_iconst (v := 0) hx hb d_MO_finish_40 (by decide) ?_
      refine lv_istore_n (lv' := [(3, .int 0), (0, .ref aM), (1, .int x1), (2, .int x2)]) hx hb d_MO_finish_41 rfl hl (by decide) rfl (fun ls hl => ?_)
      refine l_MO_finish_h42 C0 hs l D cB cI aM aMst aMdcs aMtot aMfrm aMsiz aMffr aMfsz aMlkd aMlat aMkkd aMkat aModr aMgrp aMikd aMiat fu thr tpd frs frt top bgn mst ovr tgr lvs its hgh loo dfl ffr fsz hk hA x1 x2  (K := (fun (x3_10 : Int32) (st_10 : Nat → Int32) (dcs_10 : Nat → Int32) (tot_10 : Nat → Int32) (frm_10 : Nat → Int32) (siz_10 : Nat → Int32) =>
          tw_MO_finish_h13 fu frs tgr ffr fsz K n (x1 + (siz_10 x2.toNatClampNeg)) (x2 + 1) st_10 dcs_10 tot_10 frm_10 siz_10)) ?_ fu 0 st dcs tot (upd frm x2.toNatClampNeg x1) (upd siz x2.toNatClampNeg (fsz x2.toNatClampNeg))  (by rw [hV, tw_MO_finish_h13, if_neg c_2, if_pos c_3, if_pos c_4]) _ _ hP hD hS ls (lv_sub hl [1, 2, 3, 0] rfl)
      intro x3_10 st_10 dcs_10 tot_10 frm_10 siz_10 hV_10 H locs hP hD hS ls hl
      refine lv_iload_n hx hb d_MO_finish_79 rfl (lv_at hl 1 rfl) ?_
      refine lv_aload_n hx hb d_MO_finish_80 rfl (lv_at hl 0 rfl) ?_
      refine va_get (D := D) (ci := 11) (v := .ref aMsiz) (C := R_MO) (T := T_MO) (N := 29) hx hb hT u_MO hown hK hP 0 rfl rfl 6 (by decide) (hT _ k_1049) (fun _ h9 => h9) rfl d_MO_finish_81 ?_
      refine lv_iload_n hx hb d_MO_finish_84 rfl (lv_at hl 2 rfl) ?_
      refine va_iald hx hb hK hP 5 1 rfl rfl (in_pp c_3.1 c_3.2 rfl) d_MO_finish_85 ?_
      refine lv_iadd hx hb d_MO_finish_86 ?_
      refine lv_istore_n (lv' := [(1, .int (x1 + (siz_10 x2.toNatClampNeg))), (0, .ref aM), (2, .int x2)]) hx hb d_MO_finish_87 rfl hl (by decide) rfl (fun ls hl => ?_)
      refine lv_iinc (v := x2 + 1) (lv' := [(2, .int (x2 + 1)), (1, .int (x1 + (siz_10 x2.toNatClampNeg))), (0, .ref aM)]) hx hb d_MO_finish_88 hl (k := 2) rfl rfl (by decide) rfl (fun ls hl => ?_)
      refine lv_goto (tgt := 13) hx hb d_MO_finish_91 (by decide) ?_
      exact ih (x1 + (siz_10 x2.toNatClampNeg)) (x2 + 1) st_10 dcs_10 tot_10 frm_10 siz_10 (by rw [hV_10]) _ _ hP hD hS ls (lv_sub hl [2, 1, 0] rfl)
set_option maxHeartbeats 4000000 in
set_option maxRecDepth 100000 in
theorem c_MO_finish (l : Launch) (D : va_G) (cB cI : ClassId) (aM aMst aMdcs aMtot aMfrm aMsiz aMffr aMfsz aMlkd aMlat aMkkd aMkat aModr aMgrp aMikd aMiat : Nat) (fu : Nat) (thr : Int32) (tpd : Int32) (frs : Int32) (frt : Int32) (top : Int32) (bgn : Int32) (mst : Int32) (ovr : Bool) (tgr : Bool) (lvs : Int32) (its : Int32) (hgh : Int64) (loo : Int64) (dfl : Bool) (ffr : Nat → Int32) (fsz : Nat → Int32) (sz : Nat) (st : Nat → Int32) (dcs : Nat → Int32) (tot : Nat → Int32) (frm : Nat → Int32) (siz : Nat → Int32) (V0 : Int32 × (Nat → Int32) × (Nat → Int32) × (Nat → Int32) × (Nat → Int32) × (Nat → Int32)) (hs : tw_MO_finish fu frs tgr ffr fsz st dcs tot frm siz = some V0) : Met l y_MO_finish mw_MO_finish { frames := 0, cells := 0, slots := 0, locals := 0 } (va_Pc [.ref aM] (mt_P D cB cI (wd_MO_finish aM aMst aMdcs aMtot aMfrm aMsiz aMffr aMfsz aMlkd aMlat aMkkd aMkat aModr aMgrp aMikd aMiat cB cI thr tpd frs frt top bgn mst ovr tgr lvs its hgh loo dfl ffr fsz st dcs tot frm siz) sz)) (va_Qi (fun (r : Int32) (u : (Nat → Int32) × (Nat → Int32) × (Nat → Int32) × (Nat → Int32) × (Nat → Int32)) => (r, u) = V0) (mt_B D (va_A (wd_MO_finish aM aMst aMdcs aMtot aMfrm aMsiz aMffr aMfsz aMlkd aMlat aMkkd aMkat aModr aMgrp aMikd aMiat cB cI thr tpd frs frt top bgn mst ovr tgr lvs its hgh loo dfl ffr fsz st dcs tot frm siz) sz) (fun u => wd_MO_finish aM aMst aMdcs aMtot aMfrm aMsiz aMffr aMfsz aMlkd aMlat aMkkd aMkat aModr aMgrp aMikd aMiat cB cI thr tpd frs frt top bgn mst ovr tgr lvs its hgh loo dfl ffr fsz u.1 u.2.1 u.2.2.1 u.2.2.2.1 u.2.2.2.2)) (va_A (wd_MO_finish aM aMst aMdcs aMtot aMfrm aMsiz aMffr aMfsz aMlkd aMlat aMkkd aMkat aModr aMgrp aMikd aMiat cB cI thr tpd frs frt top bgn mst ovr tgr lvs its hgh loo dfl ffr fsz st dcs tot frm siz) sz)) 0 0 (va_A (wd_MO_finish aM aMst aMdcs aMtot aMfrm aMsiz aMffr aMfsz aMlkd aMlat aMkkd aMkat aModr aMgrp aMikd aMiat cB cI thr tpd frs frt top bgn mst ovr tgr lvs its hgh loo dfl ffr fsz st dcs tot frm siz) sz) := by
  refine Met.ofW (cc := b_MO_finish) (maxL := 4) (ret := (some .int)) (by decide) rfl ?_
  intro p e s m args below meth c s₁ B0 hml hv
  obtain ⟨rfl, hsz, hP, hk, hD0⟩ := hv
  have hK := hk.1
  have hN := hk.2.1
  have hx := B0.exec
  have hb := B0.bytes
  have hr := B0.returns
  have hT : ∀ w ∈ lw_g, w.before _ s = true := fun w h => atoms_spec (ws := mw_MO_finish) B0.pre w (List.mem_cons_of_mem _ h)
  have hown : s.vm.findClass R_MO = some m.cls := findClass_of_methodNamed B0.named
  have hlocks := B0.notSynchronized
  subst hsz
  have hD := hD0.self (sz := s.heap.size)
  generalize hAe : va_A [(aM, .inr (11, [.int thr, .ref aMst, .int tpd, .ref aMdcs, .ref aMtot, .ref aMfrm, .ref aMsiz, .int frs, .int frt, .ref aMffr, .ref aMfsz, .int top, .int bgn, .int mst, .int (b2i ovr), .int (b2i tgr), .int lvs, .ref aMlkd, .ref aMlat, .ref aMkkd, .ref aMkat, .ref aModr, .ref aMgrp, .int its, .ref aMikd, .ref aMiat, .long hgh, .long loo, .int (b2i dfl)])), (aMst, .inl (cI, 136400, .inl st)), (aMdcs, .inl (cI, 2, .inl dcs)), (aMtot, .inl (cI, 2, .inl tot)), (aMfrm, .inl (cI, 400, .inl frm)), (aMsiz, .inl (cI, 400, .inl siz)), (aMffr, .inl (cI, 200, .inl ffr)), (aMfsz, .inl (cI, 200, .inl fsz))] s.heap.size = A at hD ⊢
  have hA : ∀ q : Nat, s.heap.size ≤ q → A q := fun q h => by rw [← hAe]; exact Or.inr h
  have hS : va_S A s.heap s.heap [] := va_S.rf
  have hl := lv_entry ([.ref aM]) (n := 4) (Nat.le_of_ble_eq_true rfl)
  rw [lg_entry_eq]
  generalize (lg_sl ([.ref aM]) ++ List.replicate (4 - (lg_sl ([.ref aM])).length) Slot.unset).toArray = ls at hl ⊢
  have hl : lv_has ls 4 [(0, .ref aM)] := hl
  have C0 : lc_C p s m meth c _ b_MO_finish 4 (some .int) R_MO lw_g := ⟨hx, hb, hml, hr, hown, hlocks, hT⟩
  refine lv_aload_n hx hb d_MO_finish_0 rfl (lv_at hl 0 rfl) ?_
  refine va_get (D := D) (ci := 11) (v := .int (b2i tgr)) (C := R_MO) (T := T_MO) (N := 29) hx hb hT u_MO hown hK hP 0 rfl rfl 15 (by decide) (hT _ k_1058) (fun _ h9 => h9) rfl d_MO_finish_1 ?_
  refine lv_if_eq (tgt := 9) hx hb d_MO_finish_4 (by decide) (fun c_1 => ?_) (fun c_1 => ?_)
  · refine lv_iconst (v := 0) hx hb d_MO_finish_9 (by decide) ?_
    refine lv_istore_n (lv' := [(1, .int 0), (0, .ref aM)]) hx hb d_MO_finish_10 rfl hl (by decide) rfl (fun ls hl => ?_)
    refine lv_iconst (v := 0) hx hb d_MO_finish_11 (by decide) ?_
    refine lv_istore_n (lv' := [(2, .int 0), (1, .int 0), (0, .ref aM)]) hx hb d_MO_finish_12 rfl hl (by decide) rfl (fun ls hl => ?_)
    refine l_MO_finish_h13 C0 hs l D cB cI aM aMst aMdcs aMtot aMfrm aMsiz aMffr aMfsz aMlkd aMlat aMkkd aMkat aModr aMgrp aMikd aMiat fu thr tpd frs frt top bgn mst ovr tgr lvs its hgh loo dfl ffr fsz hk hA   (K := (fun (x1_11 : Int32) (x2_11 : Int32) (st_11 : Nat → Int32) (dcs_11 : Nat → Int32) (tot_11 : Nat → Int32) (frm_11 : Nat → Int32) (siz_11 : Nat → Int32) =>
        some (0, st_11, upd dcs_11 (0 : Int32).toNatClampNeg frs, upd tot_11 (0 : Int32).toNatClampNeg x1_11, frm_11, siz_11))) ?_ fu 0 0 st dcs tot frm siz  (by rw [tw_MO_finish, if_pos c_1]) _ _ hP hD hS ls (lv_sub hl [2, 1, 0] rfl)
    intro x1_11 x2_11 st_11 dcs_11 tot_11 frm_11 siz_11 hV_11 H locs hP hD hS ls hl
    refine lv_aload_n hx hb d_MO_finish_94 rfl (lv_at hl 0 rfl) ?_
    refine va_get (D := D) (ci := 11) (v := .ref aMdcs) (C := R_MO) (T := T_MO) (N := 29) hx hb hT u_MO hown hK hP 0 rfl rfl 3 (by decide) (hT _ k_1046) (fun _ h9 => h9) rfl d_MO_finish_95 ?_
    refine lv_iconst (v := 0) hx hb d_MO_finish_98 (by decide) ?_
    refine lv_aload_n hx hb d_MO_finish_99 rfl (lv_at hl 0 rfl) ?_
    refine va_get (D := D) (ci := 11) (v := .int frs) (C := R_MO) (T := T_MO) (N := 29) hx hb hT u_MO hown hK hP 0 rfl rfl 7 (by decide) (hT _ k_1050) (fun _ h9 => h9) rfl d_MO_finish_100 ?_
    refine va_iast hx hb hK hP hD hS 2 1 rfl rfl (by unfold vp_in; decide) d_MO_finish_103 (fun H locs hP hD hS => ?_)
    have hP : va_P D vwCl [(aM, .inr (11, [.int thr, .ref aMst, .int tpd, .ref aMdcs, .ref aMtot, .ref aMfrm, .ref aMsiz, .int frs, .int frt, .ref aMffr, .ref aMfsz, .int top, .int bgn, .int mst, .int (b2i ovr), .int (b2i tgr), .int lvs, .ref aMlkd, .ref aMlat, .ref aMkkd, .ref aMkat, .ref aModr, .ref aMgrp, .int its, .ref aMikd, .ref aMiat, .long hgh, .long loo, .int (b2i dfl)])), (aMst, .inl (cI, 136400, .inl st_11)), (aMdcs, .inl (cI, 2, .inl (upd dcs_11 (0 : Int32).toNatClampNeg frs))), (aMtot, .inl (cI, 2, .inl tot_11)), (aMfrm, .inl (cI, 400, .inl frm_11)), (aMsiz, .inl (cI, 400, .inl siz_11)), (aMffr, .inl (cI, 200, .inl ffr)), (aMfsz, .inl (cI, 200, .inl fsz))] H := hP
    have hD : va_D A [(aM, .inr (11, [.int thr, .ref aMst, .int tpd, .ref aMdcs, .ref aMtot, .ref aMfrm, .ref aMsiz, .int frs, .int frt, .ref aMffr, .ref aMfsz, .int top, .int bgn, .int mst, .int (b2i ovr), .int (b2i tgr), .int lvs, .ref aMlkd, .ref aMlat, .ref aMkkd, .ref aMkat, .ref aModr, .ref aMgrp, .int its, .ref aMikd, .ref aMiat, .long hgh, .long loo, .int (b2i dfl)])), (aMst, .inl (cI, 136400, .inl st_11)), (aMdcs, .inl (cI, 2, .inl (upd dcs_11 (0 : Int32).toNatClampNeg frs))), (aMtot, .inl (cI, 2, .inl tot_11)), (aMfrm, .inl (cI, 400, .inl frm_11)), (aMsiz, .inl (cI, 400, .inl siz_11)), (aMffr, .inl (cI, 200, .inl ffr)), (aMfsz, .inl (cI, 200, .inl fsz))] := hD
    refine lv_aload_n hx hb d_MO_finish_104 rfl (lv_at hl 0 rfl) ?_
    refine va_get (D := D) (ci := 11) (v := .ref aMtot) (C := R_MO) (T := T_MO) (N := 29) hx hb hT u_MO hown hK hP 0 rfl rfl 4 (by decide) (hT _ k_1047) (fun _ h9 => h9) rfl d_MO_finish_105 ?_
    refine lv_iconst (v := 0) hx hb d_MO_finish_108 (by decide) ?_
    refine lv_iload_n hx hb d_MO_finish_109 rfl (lv_at hl 1 rfl) ?_
    refine va_iast hx hb hK hP hD hS 3 1 rfl rfl (by unfold vp_in; decide) d_MO_finish_110 (fun H locs hP hD hS => ?_)
    have hP : va_P D vwCl [(aM, .inr (11, [.int thr, .ref aMst, .int tpd, .ref aMdcs, .ref aMtot, .ref aMfrm, .ref aMsiz, .int frs, .int frt, .ref aMffr, .ref aMfsz, .int top, .int bgn, .int mst, .int (b2i ovr), .int (b2i tgr), .int lvs, .ref aMlkd, .ref aMlat, .ref aMkkd, .ref aMkat, .ref aModr, .ref aMgrp, .int its, .ref aMikd, .ref aMiat, .long hgh, .long loo, .int (b2i dfl)])), (aMst, .inl (cI, 136400, .inl st_11)), (aMdcs, .inl (cI, 2, .inl (upd dcs_11 (0 : Int32).toNatClampNeg frs))), (aMtot, .inl (cI, 2, .inl (upd tot_11 (0 : Int32).toNatClampNeg x1_11))), (aMfrm, .inl (cI, 400, .inl frm_11)), (aMsiz, .inl (cI, 400, .inl siz_11)), (aMffr, .inl (cI, 200, .inl ffr)), (aMfsz, .inl (cI, 200, .inl fsz))] H := hP
    have hD : va_D A [(aM, .inr (11, [.int thr, .ref aMst, .int tpd, .ref aMdcs, .ref aMtot, .ref aMfrm, .ref aMsiz, .int frs, .int frt, .ref aMffr, .ref aMfsz, .int top, .int bgn, .int mst, .int (b2i ovr), .int (b2i tgr), .int lvs, .ref aMlkd, .ref aMlat, .ref aMkkd, .ref aMkat, .ref aModr, .ref aMgrp, .int its, .ref aMikd, .ref aMiat, .long hgh, .long loo, .int (b2i dfl)])), (aMst, .inl (cI, 136400, .inl st_11)), (aMdcs, .inl (cI, 2, .inl (upd dcs_11 (0 : Int32).toNatClampNeg frs))), (aMtot, .inl (cI, 2, .inl (upd tot_11 (0 : Int32).toNatClampNeg x1_11))), (aMfrm, .inl (cI, 400, .inl frm_11)), (aMsiz, .inl (cI, 400, .inl siz_11)), (aMffr, .inl (cI, 200, .inl ffr)), (aMfsz, .inl (cI, 200, .inl fsz))] := hD
    refine lv_iconst (v := 0) hx hb d_MO_finish_111 (by decide) ?_
    exact W.iret (v := 0) hx hb hr (fun t ht hW => ⟨⟨0, (st_11, upd dcs_11 (0 : Int32).toNatClampNeg frs, upd tot_11 (0 : Int32).toNatClampNeg x1_11, frm_11, siz_11), rfl, (op_eq hs (by rw [hV_11])), by rw [ht]; exact hP, hD⟩, hS.F ht⟩) hS.2.2 d_MO_finish_112
  · refine lv_iconst (v := 5) hx hb d_MO_finish_7 (by decide) ?_
    exact W.iret (v := 5) hx hb hr (fun t ht hW => ⟨⟨5, (st, dcs, tot, frm, siz), rfl, (op_eq hs (by rw [tw_MO_finish, if_neg c_1])), by rw [ht]; exact hP, hD⟩, hS.F ht⟩) hS.2.2 d_MO_finish_8
abbrev wd_MO_valueElement (aM aMst aMdcs aMtot aMfrm aMsiz aMffr aMfsz aMlkd aMlat aMkkd aMkat aModr aMgrp aMikd aMiat : Nat) (cB cI : ClassId) (thr : Int32) (tpd : Int32) (frs : Int32) (frt : Int32) (tgr : Bool) (lvs : Int32) (its : Int32) (hgh : Int64) (loo : Int64) (dfl : Bool) (top : Int32) (bgn : Int32) (mst : Int32) (ovr : Bool) (st : Nat → Int32) : va_W := [(aM, .inr (11, [.int thr, .ref aMst, .int tpd, .ref aMdcs, .ref aMtot, .ref aMfrm, .ref aMsiz, .int frs, .int frt, .ref aMffr, .ref aMfsz, .int top, .int bgn, .int mst, .int (b2i ovr), .int (b2i tgr), .int lvs, .ref aMlkd, .ref aMlat, .ref aMkkd, .ref aMkat, .ref aModr, .ref aMgrp, .int its, .ref aMikd, .ref aMiat, .long hgh, .long loo, .int (b2i dfl)])), (aMst, .inl (cI, 136400, .inl st))]
set_option maxHeartbeats 4000000 in
set_option maxRecDepth 100000 in
theorem c_MO_valueElement (l : Launch) (D : va_G) (cB cI : ClassId) (aM aMst aMdcs aMtot aMfrm aMsiz aMffr aMfsz aMlkd aMlat aMkkd aMkat aModr aMgrp aMikd aMiat : Nat) (fu : Nat) (thr : Int32) (tpd : Int32) (frs : Int32) (frt : Int32) (tgr : Bool) (lvs : Int32) (its : Int32) (hgh : Int64) (loo : Int64) (dfl : Bool) (sz : Nat) (top : Int32) (bgn : Int32) (mst : Int32) (ovr : Bool) (st : Nat → Int32) (p0 : Int32) (p1 : Int32) (p2 : Int32) (V0 : Int32 × Int32 × Int32 × Bool × (Nat → Int32)) (hs : tw_MO_valueElement fu top bgn mst ovr st p0 p1 p2 = some V0) : Met l y_MO_valueElement mw_MO_valueElement { frames := 210, cells := 0, slots := 0, locals := 6291 } (va_Pc [.ref aM, .int p0, .int p1, .int p2] (mt_P D cB cI (wd_MO_valueElement aM aMst aMdcs aMtot aMfrm aMsiz aMffr aMfsz aMlkd aMlat aMkkd aMkat aModr aMgrp aMikd aMiat cB cI thr tpd frs frt tgr lvs its hgh loo dfl top bgn mst ovr st) sz)) (va_Qv (fun (u : Int32 × Int32 × Int32 × Bool × (Nat → Int32)) => u = V0) (mt_B D (va_A (wd_MO_valueElement aM aMst aMdcs aMtot aMfrm aMsiz aMffr aMfsz aMlkd aMlat aMkkd aMkat aModr aMgrp aMikd aMiat cB cI thr tpd frs frt tgr lvs its hgh loo dfl top bgn mst ovr st) sz) (fun u => wd_MO_valueElement aM aMst aMdcs aMtot aMfrm aMsiz aMffr aMfsz aMlkd aMlat aMkkd aMkat aModr aMgrp aMikd aMiat cB cI thr tpd frs frt tgr lvs its hgh loo dfl u.1 u.2.1 u.2.2.1 u.2.2.2.1 u.2.2.2.2)) (va_A (wd_MO_valueElement aM aMst aMdcs aMtot aMfrm aMsiz aMffr aMfsz aMlkd aMlat aMkkd aMkat aModr aMgrp aMikd aMiat cB cI thr tpd frs frt tgr lvs its hgh loo dfl top bgn mst ovr st) sz)) 0 0 (va_A (wd_MO_valueElement aM aMst aMdcs aMtot aMfrm aMsiz aMffr aMfsz aMlkd aMlat aMkkd aMkat aModr aMgrp aMikd aMiat cB cI thr tpd frs frt tgr lvs its hgh loo dfl top bgn mst ovr st) sz) := by
  refine Met.ofW (cc := b_MO_valueElement) (maxL := 10) (ret := none) (by decide) rfl ?_
  intro p e s m args below meth c s₁ B0 hml hv
  obtain ⟨rfl, hsz, hP, hk, hD0⟩ := hv
  have hK := hk.1
  have hN := hk.2.1
  have hx := B0.exec
  have hb := B0.bytes
  have hr := B0.returns
  have hT : ∀ w ∈ lw_g, w.before _ s = true := fun w h => atoms_spec (ws := mw_MO_valueElement) B0.pre w (List.mem_cons_of_mem _ h)
  have hown : s.vm.findClass R_MO = some m.cls := findClass_of_methodNamed B0.named
  have hlocks := B0.notSynchronized
  subst hsz
  have hD := hD0.self (sz := s.heap.size)
  generalize hAe : va_A [(aM, .inr (11, [.int thr, .ref aMst, .int tpd, .ref aMdcs, .ref aMtot, .ref aMfrm, .ref aMsiz, .int frs, .int frt, .ref aMffr, .ref aMfsz, .int top, .int bgn, .int mst, .int (b2i ovr), .int (b2i tgr), .int lvs, .ref aMlkd, .ref aMlat, .ref aMkkd, .ref aMkat, .ref aModr, .ref aMgrp, .int its, .ref aMikd, .ref aMiat, .long hgh, .long loo, .int (b2i dfl)])), (aMst, .inl (cI, 136400, .inl st))] s.heap.size = A at hD ⊢
  have hA : ∀ q : Nat, s.heap.size ≤ q → A q := fun q h => by rw [← hAe]; exact Or.inr h
  have hS : va_S A s.heap s.heap [] := va_S.rf
  have hl := lv_entry ([.ref aM, .int p0, .int p1, .int p2]) (n := 10) (Nat.le_of_ble_eq_true rfl)
  rw [lg_entry_eq]
  generalize (lg_sl ([.ref aM, .int p0, .int p1, .int p2]) ++ List.replicate (10 - (lg_sl ([.ref aM, .int p0, .int p1, .int p2])).length) Slot.unset).toArray = ls at hl ⊢
  have hl : lv_has ls 10 [(0, .ref aM), (1, .int p0), (2, .int p1), (3, .int p2)] := hl
  refine lv_aload_n hx hb d_MO_valueElement_0 rfl (lv_at hl 0 rfl) ?_
  refine va_get (D := D) (ci := 11) (v := .int top) (C := R_MO) (T := T_MO) (N := 29) hx hb hT u_MO hown hK hP 0 rfl rfl 11 (by decide) (hT _ k_1054) (fun _ h9 => h9) rfl d_MO_valueElement_1 ?_
  refine lv_istore (lv' := [(4, .int top), (0, .ref aM), (1, .int p0), (2, .int p1), (3, .int p2)]) hx hb d_MO_valueElement_4 hl (by decide) rfl (fun ls hl => ?_)
  refine lv_aload_n hx hb d_MO_valueElement_6 rfl (lv_at hl 1 rfl) ?_
  refine va_get (D := D) (ci := 11) (v := .int bgn) (C := R_MO) (T := T_MO) (N := 29) hx hb hT u_MO hown hK hP 0 rfl rfl 12 (by decide) (hT _ k_1055) (fun _ h9 => h9) rfl d_MO_valueElement_7 ?_
  refine lv_istore (lv' := [(5, .int bgn), (4, .int top), (0, .ref aM), (1, .int p0), (2, .int p1), (3, .int p2)]) hx hb d_MO_valueElement_10 hl (by decide) rfl (fun ls hl => ?_)
  refine lv_aload_n hx hb d_MO_valueElement_12 rfl (lv_at hl 2 rfl) ?_
  refine va_get (D := D) (ci := 11) (v := .int mst) (C := R_MO) (T := T_MO) (N := 29) hx hb hT u_MO hown hK hP 0 rfl rfl 13 (by decide) (hT _ k_1056) (fun _ h9 => h9) rfl d_MO_valueElement_13 ?_
  refine lv_istore (lv' := [(6, .int mst), (5, .int bgn), (4, .int top), (0, .ref aM), (1, .int p0), (2, .int p1), (3, .int p2)]) hx hb d_MO_valueElement_16 hl (by decide) rfl (fun ls hl => ?_)
  refine lv_aload_n hx hb d_MO_valueElement_18 rfl (lv_at hl 3 rfl) ?_
  refine va_get (D := D) (ci := 11) (v := .int (b2i ovr)) (C := R_MO) (T := T_MO) (N := 29) hx hb hT u_MO hown hK hP 0 rfl rfl 14 (by decide) (hT _ k_1057) (fun _ h9 => h9) rfl d_MO_valueElement_19 ?_
  refine lv_istore (lv' := [(7, .int (b2i ovr)), (6, .int mst), (5, .int bgn), (4, .int top), (0, .ref aM), (1, .int p0), (2, .int p1), (3, .int p2)]) hx hb d_MO_valueElement_22 hl (by decide) rfl (fun ls hl => ?_)
  refine lv_aload_n hx hb d_MO_valueElement_24 rfl (lv_at hl 4 rfl) ?_
  refine lv_iload_n hx hb d_MO_valueElement_25 rfl (lv_at hl 7 rfl) ?_
  refine lv_iload_n hx hb d_MO_valueElement_26 rfl (lv_at hl 6 rfl) ?_
  refine lv_ldcw (v := 124000) hx hb hown (hT _ k_1346) d_MO_valueElement_27 ?_
  rcases h_1 : tw_MO_evaluate fu top bgn mst ovr st p2 p1 124000 with _ | w_1
  · exact op_no hs (by rw [tw_MO_valueElement, h_1, ob6_no])
  refine mt_Vi (As := [.int p2, .int p1, .int 124000]) (rest := []) (wr := []) ⟨hx, hb, hml, hown, hT⟩ (c_MO_evaluate l D cB cI aM aMst aMdcs aMtot aMfrm aMsiz aMffr aMfsz aMlkd aMlat aMkkd aMkat aModr aMgrp aMikd aMiat fu thr tpd frs frt tgr lvs its hgh loo dfl _ top bgn mst ovr st p2 p1 124000 w_1 h_1) (cwV 3 hT (gV_of k_1347 k_1349 kp_MO_evaluate k_12 kc_MO_evaluate) rfl rfl rfl hd_MO_evaluate ⟨Nat.le_of_ble_eq_true rfl, Nat.le_of_ble_eq_true rfl⟩) hk hP hD hS hA [0, 1] [] rfl rfl rfl (by decide) (by decide) (by decide) (q0 := 0) rfl rfl rfl rfl hl.1 rfl (Nat.le_of_ble_eq_true rfl) d_MO_valueElement_30 ⟨Nat.zero_le _, Nat.zero_le _⟩ (fun r_1 u_1 H locs hw_1 hP hD hS => ?_)
  subst hw_1
  obtain ⟨top_1, bgn_1, mst_1, ovr_1, st_1⟩ := u_1
  have hP : va_P D vwCl [(aM, .inr (11, [.int thr, .ref aMst, .int tpd, .ref aMdcs, .ref aMtot, .ref aMfrm, .ref aMsiz, .int frs, .int frt, .ref aMffr, .ref aMfsz, .int top_1, .int bgn_1, .int mst_1, .int (b2i ovr_1), .int (b2i tgr), .int lvs, .ref aMlkd, .ref aMlat, .ref aMkkd, .ref aMkat, .ref aModr, .ref aMgrp, .int its, .ref aMikd, .ref aMiat, .long hgh, .long loo, .int (b2i dfl)])), (aMst, .inl (cI, 136400, .inl st_1))] H := hP.sub [0, 1] rfl
  have hD : va_D A [(aM, .inr (11, [.int thr, .ref aMst, .int tpd, .ref aMdcs, .ref aMtot, .ref aMfrm, .ref aMsiz, .int frs, .int frt, .ref aMffr, .ref aMfsz, .int top_1, .int bgn_1, .int mst_1, .int (b2i ovr_1), .int (b2i tgr), .int lvs, .ref aMlkd, .ref aMlat, .ref aMkkd, .ref aMkat, .ref aModr, .ref aMgrp, .int its, .ref aMikd, .ref aMiat, .long hgh, .long loo, .int (b2i dfl)])), (aMst, .inl (cI, 136400, .inl st_1))] := hD.sub [0, 1] (by decide) rfl
  refine lv_istore (lv' := [(8, .int r_1), (7, .int (b2i ovr)), (6, .int mst), (5, .int bgn), (4, .int top), (0, .ref aM), (1, .int p0), (2, .int p1), (3, .int p2)]) hx hb d_MO_valueElement_33 hl (by decide) rfl (fun ls hl => ?_)
  refine lv_aload_n hx hb d_MO_valueElement_35 rfl (lv_at hl 5 rfl) ?_
  refine va_get (D := D) (ci := 11) (v := .int top_1) (C := R_MO) (T := T_MO) (N := 29) hx hb hT u_MO hown hK hP 0 rfl rfl 11 (by decide) (hT _ k_1054) (fun _ h9 => h9) rfl d_MO_valueElement_36 ?_
  refine lv_ldcw (v := 124000) hx hb hown (hT _ k_1346) d_MO_valueElement_39 ?_
  refine lv_isub hx hb d_MO_valueElement_42 ?_
  refine lv_istore (lv' := [(9, .int (top_1 - 124000)), (8, .int r_1), (7, .int (b2i ovr)), (6, .int mst), (5, .int bgn), (4, .int top), (0, .ref aM), (1, .int p0), (2, .int p1), (3, .int p2)]) hx hb d_MO_valueElement_43 hl (by decide) rfl (fun ls hl => ?_)
  refine lv_aload_n hx hb d_MO_valueElement_45 rfl (lv_at hl 6 rfl) ?_
  refine lv_iload hx hb d_MO_valueElement_46 (lv_at hl 5 rfl) ?_
  refine va_put (D := D) (ci := 11) (v := .int top) (ty := .int) (C := R_MO) (T := T_MO) (N := 29) hx hb hT u_MO ty_MO tyok_MO nm_MO hown hK hP hD hS 0 rfl rfl 11 (by decide) (hT _ k_1054) (fun _ h9 => h9) rfl (by decide +kernel) (rfl) (rfl) (Nat.le_of_ble_eq_true rfl) d_MO_valueElement_48 (fun H locs hP hD hS => ?_)
  have hP : va_P D vwCl [(aM, .inr (11, [.int thr, .ref aMst, .int tpd, .ref aMdcs, .ref aMtot, .ref aMfrm, .ref aMsiz, .int frs, .int frt, .ref aMffr, .ref aMfsz, .int top, .int bgn_1, .int mst_1, .int (b2i ovr_1), .int (b2i tgr), .int lvs, .ref aMlkd, .ref aMlat, .ref aMkkd, .ref aMkat, .ref aModr, .ref aMgrp, .int its, .ref aMikd, .ref aMiat, .long hgh, .long loo, .int (b2i dfl)])), (aMst, .inl (cI, 136400, .inl st_1))] H := hP
  have hD : va_D A [(aM, .inr (11, [.int thr, .ref aMst, .int tpd, .ref aMdcs, .ref aMtot, .ref aMfrm, .ref aMsiz, .int frs, .int frt, .ref aMffr, .ref aMfsz, .int top, .int bgn_1, .int mst_1, .int (b2i ovr_1), .int (b2i tgr), .int lvs, .ref aMlkd, .ref aMlat, .ref aMkkd, .ref aMkat, .ref aModr, .ref aMgrp, .int its, .ref aMikd, .ref aMiat, .long hgh, .long loo, .int (b2i dfl)])), (aMst, .inl (cI, 136400, .inl st_1))] := hD
  refine lv_aload_n hx hb d_MO_valueElement_51 rfl (lv_at hl 6 rfl) ?_
  refine lv_iload hx hb d_MO_valueElement_52 (lv_at hl 4 rfl) ?_
  refine va_put (D := D) (ci := 11) (v := .int bgn) (ty := .int) (C := R_MO) (T := T_MO) (N := 29) hx hb hT u_MO ty_MO tyok_MO nm_MO hown hK hP hD hS 0 rfl rfl 12 (by decide) (hT _ k_1055) (fun _ h9 => h9) rfl (by decide +kernel) (rfl) (rfl) (Nat.le_of_ble_eq_true rfl) d_MO_valueElement_54 (fun H locs hP hD hS => ?_)
  have hP : va_P D vwCl [(aM, .inr (11, [.int thr, .ref aMst, .int tpd, .ref aMdcs, .ref aMtot, .ref aMfrm, .ref aMsiz, .int frs, .int frt, .ref aMffr, .ref aMfsz, .int top, .int bgn, .int mst_1, .int (b2i ovr_1), .int (b2i tgr), .int lvs, .ref aMlkd, .ref aMlat, .ref aMkkd, .ref aMkat, .ref aModr, .ref aMgrp, .int its, .ref aMikd, .ref aMiat, .long hgh, .long loo, .int (b2i dfl)])), (aMst, .inl (cI, 136400, .inl st_1))] H := hP
  have hD : va_D A [(aM, .inr (11, [.int thr, .ref aMst, .int tpd, .ref aMdcs, .ref aMtot, .ref aMfrm, .ref aMsiz, .int frs, .int frt, .ref aMffr, .ref aMfsz, .int top, .int bgn, .int mst_1, .int (b2i ovr_1), .int (b2i tgr), .int lvs, .ref aMlkd, .ref aMlat, .ref aMkkd, .ref aMkat, .ref aModr, .ref aMgrp, .int its, .ref aMikd, .ref aMiat, .long hgh, .long loo, .int (b2i dfl)])), (aMst, .inl (cI, 136400, .inl st_1))] := hD
  refine lv_aload_n hx hb d_MO_valueElement_57 rfl (lv_at hl 6 rfl) ?_
  refine lv_iload hx hb d_MO_valueElement_58 (lv_at hl 3 rfl) ?_
  refine va_put (D := D) (ci := 11) (v := .int mst) (ty := .int) (C := R_MO) (T := T_MO) (N := 29) hx hb hT u_MO ty_MO tyok_MO nm_MO hown hK hP hD hS 0 rfl rfl 13 (by decide) (hT _ k_1056) (fun _ h9 => h9) rfl (by decide +kernel) (rfl) (rfl) (Nat.le_of_ble_eq_true rfl) d_MO_valueElement_60 (fun H locs hP hD hS => ?_)
  have hP : va_P D vwCl [(aM, .inr (11, [.int thr, .ref aMst, .int tpd, .ref aMdcs, .ref aMtot, .ref aMfrm, .ref aMsiz, .int frs, .int frt, .ref aMffr, .ref aMfsz, .int top, .int bgn, .int mst, .int (b2i ovr_1), .int (b2i tgr), .int lvs, .ref aMlkd, .ref aMlat, .ref aMkkd, .ref aMkat, .ref aModr, .ref aMgrp, .int its, .ref aMikd, .ref aMiat, .long hgh, .long loo, .int (b2i dfl)])), (aMst, .inl (cI, 136400, .inl st_1))] H := hP
  have hD : va_D A [(aM, .inr (11, [.int thr, .ref aMst, .int tpd, .ref aMdcs, .ref aMtot, .ref aMfrm, .ref aMsiz, .int frs, .int frt, .ref aMffr, .ref aMfsz, .int top, .int bgn, .int mst, .int (b2i ovr_1), .int (b2i tgr), .int lvs, .ref aMlkd, .ref aMlat, .ref aMkkd, .ref aMkat, .ref aModr, .ref aMgrp, .int its, .ref aMikd, .ref aMiat, .long hgh, .long loo, .int (b2i dfl)])), (aMst, .inl (cI, 136400, .inl st_1))] := hD
  refine lv_aload_n hx hb d_MO_valueElement_63 rfl (lv_at hl 6 rfl) ?_
  refine lv_iload hx hb d_MO_valueElement_64 (lv_at hl 2 rfl) ?_
  refine va_put (D := D) (ci := 11) (v := .int (b2i ovr)) (ty := .boolean) (C := R_MO) (T := T_MO) (N := 29) hx hb hT u_MO ty_MO tyok_MO nm_MO hown hK hP hD hS 0 rfl rfl 14 (by decide) (hT _ k_1057) (fun _ h9 => h9) rfl (by decide +kernel) (b2i_nar _) (b2i_fit _) (Nat.le_of_ble_eq_true rfl) d_MO_valueElement_66 (fun H locs hP hD hS => ?_)
  have hP : va_P D vwCl [(aM, .inr (11, [.int thr, .ref aMst, .int tpd, .ref aMdcs, .ref aMtot, .ref aMfrm, .ref aMsiz, .int frs, .int frt, .ref aMffr, .ref aMfsz, .int top, .int bgn, .int mst, .int (b2i ovr), .int (b2i tgr), .int lvs, .ref aMlkd, .ref aMlat, .ref aMkkd, .ref aMkat, .ref aModr, .ref aMgrp, .int its, .ref aMikd, .ref aMiat, .long hgh, .long loo, .int (b2i dfl)])), (aMst, .inl (cI, 136400, .inl st_1))] H := hP
  have hD : va_D A [(aM, .inr (11, [.int thr, .ref aMst, .int tpd, .ref aMdcs, .ref aMtot, .ref aMfrm, .ref aMsiz, .int frs, .int frt, .ref aMffr, .ref aMfsz, .int top, .int bgn, .int mst, .int (b2i ovr), .int (b2i tgr), .int lvs, .ref aMlkd, .ref aMlat, .ref aMkkd, .ref aMkat, .ref aModr, .ref aMgrp, .int its, .ref aMikd, .ref aMiat, .long hgh, .long loo, .int (b2i dfl)])), (aMst, .inl (cI, 136400, .inl st_1))] := hD
  refine lv_iload hx hb d_MO_valueElement_69 (lv_at hl 1 rfl) ?_
  refine lv_if_ne (tgt := 75) hx hb d_MO_valueElement_71 (by decide) (fun c_2 => ?_) (fun c_2 => ?_)
  · refine lv_aload_n hx hb d_MO_valueElement_75 rfl (lv_at hl 6 rfl) ?_
    refine lv_iload hx hb d_MO_valueElement_76 (lv_at hl 1 rfl) ?_
    refine lv_iload_n hx hb d_MO_valueElement_78 rfl (lv_at hl 7 rfl) ?_
    rcases h_3 : tw_MO_head fu bgn mst top ovr st_1 r_1 p0 with _ | w_3
    · exact op_no hs (by rw [tw_MO_valueElement, h_1, ob6_mk, if_neg c_2, h_3, ob3_no])
    refine mt_Vv (As := [.int r_1, .int p0]) (rest := []) (wr := []) ⟨hx, hb, hml, hown, hT⟩ (c_MO_head l D cB cI aM aMst aMdcs aMtot aMfrm aMsiz aMffr aMfsz aMlkd aMlat aMkkd aMkat aModr aMgrp aMikd aMiat fu thr tpd frs frt bgn mst tgr lvs its hgh loo dfl _ top ovr st_1 r_1 p0 w_3 h_3) (cwV 2 hT (gV_of k_1375 k_1377 kp_MO_head k_12 kc_MO_head) rfl rfl rfl hd_MO_head ⟨Nat.le_of_ble_eq_true rfl, Nat.le_of_ble_eq_true rfl⟩) hk hP hD hS hA [0, 1] [] rfl rfl rfl (by decide) (by decide) (by decide) (q0 := 0) rfl rfl rfl rfl hl.1 rfl (Nat.le_of_ble_eq_true rfl) d_MO_valueElement_79 ⟨Nat.zero_le _, Nat.zero_le _⟩ (fun u_3 H locs hw_3 hP hD hS => ?_)
    subst hw_3
    obtain ⟨top_3, ovr_3, st_3⟩ := u_3
    have hP : va_P D vwCl [(aM, .inr (11, [.int thr, .ref aMst, .int tpd, .ref aMdcs, .ref aMtot, .ref aMfrm, .ref aMsiz, .int frs, .int frt, .ref aMffr, .ref aMfsz, .int top_3, .int bgn, .int mst, .int (b2i ovr_3), .int (b2i tgr), .int lvs, .ref aMlkd, .ref aMlat, .ref aMkkd, .ref aMkat, .ref aModr, .ref aMgrp, .int its, .ref aMikd, .ref aMiat, .long hgh, .long loo, .int (b2i dfl)])), (aMst, .inl (cI, 136400, .inl st_3))] H := hP.sub [0, 1] rfl
    have hD : va_D A [(aM, .inr (11, [.int thr, .ref aMst, .int tpd, .ref aMdcs, .ref aMtot, .ref aMfrm, .ref aMsiz, .int frs, .int frt, .ref aMffr, .ref aMfsz, .int top_3, .int bgn, .int mst, .int (b2i ovr_3), .int (b2i tgr), .int lvs, .ref aMlkd, .ref aMlat, .ref aMkkd, .ref aMkat, .ref aModr, .ref aMgrp, .int its, .ref aMikd, .ref aMiat, .long hgh, .long loo, .int (b2i dfl)])), (aMst, .inl (cI, 136400, .inl st_3))] := hD.sub [0, 1] (by decide) rfl
    refine lv_aload_n hx hb d_MO_valueElement_82 rfl (lv_at hl 6 rfl) ?_
    refine lv_ldcw (v := 124000) hx hb hown (hT _ k_1346) d_MO_valueElement_83 ?_
    refine lv_iload hx hb d_MO_valueElement_86 (lv_at hl 0 rfl) ?_
    rcases h_4 : tw_MO_copy fu bgn mst top_3 ovr_3 st_3 124000 (top_1 - 124000) with _ | w_4
    · exact op_no hs (by rw [tw_MO_valueElement, h_1, ob6_mk, if_neg c_2, h_3, ob3_mk, h_4, ob3_no])
    refine mt_Vv (As := [.int 124000, .int (top_1 - 124000)]) (rest := []) (wr := []) ⟨hx, hb, hml, hown, hT⟩ (c_MO_copy l D cB cI aM aMst aMdcs aMtot aMfrm aMsiz aMffr aMfsz aMlkd aMlat aMkkd aMkat aModr aMgrp aMikd aMiat fu thr tpd frs frt bgn mst tgr lvs its hgh loo dfl _ top_3 ovr_3 st_3 124000 (top_1 - 124000) w_4 h_4) (cwV 2 hT (gV_of k_1338 k_1340 kp_MO_copy k_12 kc_MO_copy) rfl rfl rfl hd_MO_copy ⟨Nat.le_of_ble_eq_true rfl, Nat.le_of_ble_eq_true rfl⟩) hk hP hD hS hA [0, 1] [] rfl rfl rfl (by decide) (by decide) (by decide) (q0 := 0) rfl rfl rfl rfl hl.1 rfl (Nat.le_of_ble_eq_true rfl) d_MO_valueElement_88 ⟨Nat.zero_le _, Nat.zero_le _⟩ (fun u_4 H locs hw_4 hP hD hS => ?_)
    subst hw_4
    obtain ⟨top_4, ovr_4, st_4⟩ := u_4
    have hP : va_P D vwCl [(aM, .inr (11, [.int thr, .ref aMst, .int tpd, .ref aMdcs, .ref aMtot, .ref aMfrm, .ref aMsiz, .int frs, .int frt, .ref aMffr, .ref aMfsz, .int top_4, .int bgn, .int mst, .int (b2i ovr_4), .int (b2i tgr), .int lvs, .ref aMlkd, .ref aMlat, .ref aMkkd, .ref aMkat, .ref aModr, .ref aMgrp, .int its, .ref aMikd, .ref aMiat, .long hgh, .long loo, .int (b2i dfl)])), (aMst, .inl (cI, 136400, .inl st_4))] H := hP.sub [0, 1] rfl
    have hD : va_D A [(aM, .inr (11, [.int thr, .ref aMst, .int tpd, .ref aMdcs, .ref aMtot, .ref aMfrm, .ref aMsiz, .int frs, .int frt, .ref aMffr, .ref aMfsz, .int top_4, .int bgn, .int mst, .int (b2i ovr_4), .int (b2i tgr), .int lvs, .ref aMlkd, .ref aMlat, .ref aMkkd, .ref aMkat, .ref aModr, .ref aMgrp, .int its, .ref aMikd, .ref aMiat, .long hgh, .long loo, .int (b2i dfl)])), (aMst, .inl (cI, 136400, .inl st_4))] := hD.sub [0, 1] (by decide) rfl
    exact W.vret hx hb hr (fun t ht hW => ⟨⟨(top_4, bgn, mst, ovr_4, st_4), rfl, (op_eq hs (by rw [tw_MO_valueElement, h_1, ob6_mk, if_neg c_2, h_3, ob3_mk, h_4, ob3_mk])), by rw [ht]; exact hP, hD⟩, hS.F ht⟩) hS.2.2 d_MO_valueElement_91
  · exact W.vret hx hb hr (fun t ht hW => ⟨⟨(top, bgn, mst, ovr, st_1), rfl, (op_eq hs (by rw [tw_MO_valueElement, h_1, ob6_mk, if_pos c_2])), by rw [ht]; exact hP, hD⟩, hS.F ht⟩) hS.2.2 d_MO_valueElement_74
abbrev wd_MO_project (aM aMst aMdcs aMtot aMfrm aMsiz aMffr aMfsz aMlkd aMlat aMkkd aMkat aModr aMgrp aMikd aMiat : Nat) (cB cI : ClassId) (thr : Int32) (tpd : Int32) (lvs : Int32) (its : Int32) (hgh : Int64) (loo : Int64) (dfl : Bool) (dcs : Nat → Int32) (frm : Nat → Int32) (frs : Int32) (frt : Int32) (top : Int32) (bgn : Int32) (mst : Int32) (ovr : Bool) (tgr : Bool) (st : Nat → Int32) (ffr : Nat → Int32) (fsz : Nat → Int32) : va_W := [(aM, .inr (11, [.int thr, .ref aMst, .int tpd, .ref aMdcs, .ref aMtot, .ref aMfrm, .ref aMsiz, .int frs, .int frt, .ref aMffr, .ref aMfsz, .int top, .int bgn, .int mst, .int (b2i ovr), .int (b2i tgr), .int lvs, .ref aMlkd, .ref aMlat, .ref aMkkd, .ref aMkat, .ref aModr, .ref aMgrp, .int its, .ref aMikd, .ref aMiat, .long hgh, .long loo, .int (b2i dfl)])), (aMst, .inl (cI, 136400, .inl st)), (aMdcs, .inl (cI, 2, .inl dcs)), (aMfrm, .inl (cI, 400, .inl frm)), (aMffr, .inl (cI, 200, .inl ffr)), (aMfsz, .inl (cI, 200, .inl fsz))]
set_option maxHeartbeats 4000000 in
set_option maxRecDepth 100000 in
theorem l_MO_project_r70 {p : Program} {e : Env} {s : State} {m : MethodId} {args : Array Value} {below : List Frame} {meth : Method} {c : Code} {V : Option (Int32 × Int32 × Int32 × Int32 × Int32 × Bool × Bool × (Nat → Int32) × (Nat → Int32) × (Nat → Int32))} {V0 : Int32 × Int32 × Int32 × Int32 × Int32 × Bool × Bool × (Nat → Int32) × (Nat → Int32) × (Nat → Int32)} (C0 : lc_C p s m meth c args b_MO_project 6 none R_MO lw_g) (hs : V = some V0) (l : Launch) (D : va_G) (cB cI : ClassId) (aM aMst aMdcs aMtot aMfrm aMsiz aMffr aMfsz aMlkd aMlat aMkkd aMkat aModr aMgrp aMikd aMiat : Nat) (fu : Nat) (thr : Int32) (tpd : Int32) (lvs : Int32) (its : Int32) (hgh : Int64) (loo : Int64) (dfl : Bool) (dcs : Nat → Int32) (frm : Nat → Int32)  {A : Nat → Prop} (hk : hk_ D cB cI s) (hA : ∀ q : Nat, s.heap.size ≤ q → A q) (x1 : Int32) (x2 : Int32) (x3 : Int32) (x4 : Int32) (x5 : Int32) (frs : Int32) (frt : Int32) (top : Int32) (bgn : Int32) (mst : Int32) (ovr : Bool) (tgr : Bool) (st : Nat → Int32) (ffr : Nat → Int32) (fsz : Nat → Int32) {K : Int32 → Int32 → Int32 → Int32 → Int32 → Bool → Bool → (Nat → Int32) → (Nat → Int32) → (Nat → Int32) → Option (Int32 × Int32 × Int32 × Int32 × Int32 × Bool × Bool × (Nat → Int32) × (Nat → Int32) × (Nat → Int32))} (hKx : ∀ (frs' : Int32) (frt' : Int32) (top' : Int32) (bgn' : Int32) (mst' : Int32) (ovr' : Bool) (tgr' : Bool) (st' : Nat → Int32) (ffr' : Nat → Int32) (fsz' : Nat → Int32), V = K frs' frt' top' bgn' mst' ovr' tgr' st' ffr' fsz' → ∀ (H : Heap) (locs : List Loc), va_P D vwCl [(aM, .inr (11, [.int thr, .ref aMst, .int tpd, .ref aMdcs, .ref aMtot, .ref aMfrm, .ref aMsiz, .int frs', .int frt', .ref aMffr, .ref aMfsz, .int top', .int bgn', .int mst', .int (b2i ovr'), .int (b2i tgr'), .int lvs, .ref aMlkd, .ref aMlat, .ref aMkkd, .ref aMkat, .ref aModr, .ref aMgrp, .int its, .ref aMikd, .ref aMiat, .long hgh, .long loo, .int (b2i dfl)])), (aMst, .inl (cI, 136400, .inl st')), (aMdcs, .inl (cI, 2, .inl dcs)), (aMfrm, .inl (cI, 400, .inl frm)), (aMffr, .inl (cI, 200, .inl ffr')), (aMfsz, .inl (cI, 200, .inl fsz'))] H → va_D A [(aM, .inr (11, [.int thr, .ref aMst, .int tpd, .ref aMdcs, .ref aMtot, .ref aMfrm, .ref aMsiz, .int frs', .int frt', .ref aMffr, .ref aMfsz, .int top', .int bgn', .int mst', .int (b2i ovr'), .int (b2i tgr'), .int lvs, .ref aMlkd, .ref aMlat, .ref aMkkd, .ref aMkat, .ref aModr, .ref aMgrp, .int its, .ref aMikd, .ref aMiat, .long hgh, .long loo, .int (b2i dfl)])), (aMst, .inl (cI, 136400, .inl st')), (aMdcs, .inl (cI, 2, .inl dcs)), (aMfrm, .inl (cI, 400, .inl frm)), (aMffr, .inl (cI, 200, .inl ffr')), (aMfsz, .inl (cI, 200, .inl fsz'))] → va_S A s.heap H locs → ∀ ls : Array Slot, lv_has ls 6 [(0, .ref aM), (1, .int x1), (2, .int x2), (3, .int x3), (4, .int x4)] → W p l e ({ frames := 211, cells := 0, slots := 0, locals := 6320 }) s m args below meth c H locs 0 0 (MQ below (va_Qv (fun (u : Int32 × Int32 × Int32 × Int32 × Int32 × Bool × Bool × (Nat → Int32) × (Nat → Int32) × (Nat → Int32)) => u = V0) (mt_B D A (fun u => wd_MO_project aM aMst aMdcs aMtot aMfrm aMsiz aMffr aMfsz aMlkd aMlat aMkkd aMkat aModr aMgrp aMikd aMiat cB cI thr tpd lvs its hgh loo dfl dcs frm u.1 u.2.1 u.2.2.1 u.2.2.2.1 u.2.2.2.2.1 u.2.2.2.2.2.1 u.2.2.2.2.2.2.1 u.2.2.2.2.2.2.2.1 u.2.2.2.2.2.2.2.2.1 u.2.2.2.2.2.2.2.2.2)) A) args s 0 0 A) (F0 m 81 ls [])) (hV : V = tw_MO_project_r70 fu dcs frm K x1 x2 x3 x4 x5 frs frt top bgn mst ovr tgr st ffr fsz) : ∀ (H : Heap) (locs : List Loc), va_P D vwCl [(aM, .inr (11, [.int thr, .ref aMst, .int tpd, .ref aMdcs, .ref aMtot, .ref aMfrm, .ref aMsiz, .int frs, .int frt, .ref aMffr, .ref aMfsz, .int top, .int bgn, .int mst, .int (b2i ovr), .int (b2i tgr), .int lvs, .ref aMlkd, .ref aMlat, .ref aMkkd, .ref aMkat, .ref aModr, .ref aMgrp, .int its, .ref aMikd, .ref aMiat, .long hgh, .long loo, .int (b2i dfl)])), (aMst, .inl (cI, 136400, .inl st)), (aMdcs, .inl (cI, 2, .inl dcs)), (aMfrm, .inl (cI, 400, .inl frm)), (aMffr, .inl (cI, 200, .inl ffr)), (aMfsz, .inl (cI, 200, .inl fsz))] H → va_D A [(aM, .inr (11, [.int thr, .ref aMst, .int tpd, .ref aMdcs, .ref aMtot, .ref aMfrm, .ref aMsiz, .int frs, .int frt, .ref aMffr, .ref aMfsz, .int top, .int bgn, .int mst, .int (b2i ovr), .int (b2i tgr), .int lvs, .ref aMlkd, .ref aMlat, .ref aMkkd, .ref aMkat, .ref aModr, .ref aMgrp, .int its, .ref aMikd, .ref aMiat, .long hgh, .long loo, .int (b2i dfl)])), (aMst, .inl (cI, 136400, .inl st)), (aMdcs, .inl (cI, 2, .inl dcs)), (aMfrm, .inl (cI, 400, .inl frm)), (aMffr, .inl (cI, 200, .inl ffr)), (aMfsz, .inl (cI, 200, .inl fsz))] → va_S A s.heap H locs → ∀ ls : Array Slot, lv_has ls 6 [(0, .ref aM), (1, .int x1), (2, .int x2), (3, .int x3), (4, .int x4), (5, .int x5)] → W p l e ({ frames := 211, cells := 0, slots := 0, locals := 6320 }) s m args below meth c H locs 0 0 (MQ below (va_Qv (fun (u : Int32 × Int32 × Int32 × Int32 × Int32 × Bool × Bool × (Nat → Int32) × (Nat → Int32) × (Nat → Int32)) => u = V0) (mt_B D A (fun u => wd_MO_project aM aMst aMdcs aMtot aMfrm aMsiz aMffr aMfsz aMlkd aMlat aMkkd aMkat aModr aMgrp aMikd aMiat cB cI thr tpd lvs its hgh loo dfl dcs frm u.1 u.2.1 u.2.2.1 u.2.2.2.1 u.2.2.2.2.1 u.2.2.2.2.2.1 u.2.2.2.2.2.2.1 u.2.2.2.2.2.2.2.1 u.2.2.2.2.2.2.2.2.1 u.2.2.2.2.2.2.2.2.2)) A) args s 0 0 A) (F0 m 70 ls []) := by
  obtain ⟨hx, hb, hml, hr, hown, hlocks, hT⟩ := id C0
  have hK := hk.1
  have hN := hk.2.1
  intro H locs hP hD hS ls hl
  refine lv_iload hx hb d_MO_project_70 (lv_at hl 5 rfl) ?_
  refine lv_if_le (tgt := 81) hx hb d_MO_project_72 (by decide) (fun c_16 => ?_) (fun c_16 => ?_)
  · exact hKx frs frt top bgn mst ovr tgr st ffr fsz (by rw [hV, tw_MO_project_r70, if_pos c_16]) _ _ hP hD hS ls (lv_sub hl [0, 1, 2, 3, 4] rfl)
  · refine lv_aload_n hx hb d_MO_project_75 rfl (lv_at hl 0 rfl) ?_
    refine lv_iload hx hb d_MO_project_76 (lv_at hl 5 rfl) ?_
    rcases h_17 : tw_MO_element fu bgn mst top ovr st x5 with _ | w_17
    · exact op_no hs (by rw [hV, tw_MO_project_r70, if_neg c_16, h_17, ob3_no])
    refine mt_Vv (As := [.int x5]) (rest := []) (wr := [(aMdcs, .inl (cI, 2, .inl dcs)), (aMfrm, .inl (cI, 400, .inl frm)), (aMffr, .inl (cI, 200, .inl ffr)), (aMfsz, .inl (cI, 200, .inl fsz))]) ⟨hx, hb, hml, hown, hT⟩ (c_MO_element l D cB cI aM aMst aMdcs aMtot aMfrm aMsiz aMffr aMfsz aMlkd aMlat aMkkd aMkat aModr aMgrp aMikd aMiat fu thr tpd frs frt bgn mst tgr lvs its hgh loo dfl _ top ovr st x5 w_17 h_17) (cwV 1 hT (gV_of k_1334 k_1336 kp_MO_element k_12 kc_MO_element) rfl rfl rfl hd_MO_element ⟨Nat.le_of_ble_eq_true rfl, Nat.le_of_ble_eq_true rfl⟩) hk hP hD hS hA [0, 1] [2, 3, 4, 5] rfl rfl rfl (by decide) (by decide) (by decide) (q0 := 0) rfl rfl rfl rfl hl.1 rfl (Nat.le_of_ble_eq_true rfl) d_MO_project_78 ⟨Nat.zero_le _, Nat.zero_le _⟩ (fun u_17 H locs hw_17 hP hD hS => ?_)
    subst hw_17
    obtain ⟨top_17, ovr_17, st_17⟩ := u_17
    have hP : va_P D vwCl [(aM, .inr (11, [.int thr, .ref aMst, .int tpd, .ref aMdcs, .ref aMtot, .ref aMfrm, .ref aMsiz, .int frs, .int frt, .ref aMffr, .ref aMfsz, .int top_17, .int bgn, .int mst, .int (b2i ovr_17), .int (b2i tgr), .int lvs, .ref aMlkd, .ref aMlat, .ref aMkkd, .ref aMkat, .ref aModr, .ref aMgrp, .int its, .ref aMikd, .ref aMiat, .long hgh, .long loo, .int (b2i dfl)])), (aMst, .inl (cI, 136400, .inl st_17)), (aMdcs, .inl (cI, 2, .inl dcs)), (aMfrm, .inl (cI, 400, .inl frm)), (aMffr, .inl (cI, 200, .inl ffr)), (aMfsz, .inl (cI, 200, .inl fsz))] H := hP.sub [4, 5, 0, 1, 2, 3] rfl
    have hD : va_D A [(aM, .inr (11, [.int thr, .ref aMst, .int tpd, .ref aMdcs, .ref aMtot, .ref aMfrm, .ref aMsiz, .int frs, .int frt, .ref aMffr, .ref aMfsz, .int top_17, .int bgn, .int mst, .int (b2i ovr_17), .int (b2i tgr), .int lvs, .ref aMlkd, .ref aMlat, .ref aMkkd, .ref aMkat, .ref aModr, .ref aMgrp, .int its, .ref aMikd, .ref aMiat, .long hgh, .long loo, .int (b2i dfl)])), (aMst, .inl (cI, 136400, .inl st_17)), (aMdcs, .inl (cI, 2, .inl dcs)), (aMfrm, .inl (cI, 400, .inl frm)), (aMffr, .inl (cI, 200, .inl ffr)), (aMfsz, .inl (cI, 200, .inl fsz))] := hD.sub [4, 5, 0, 1, 2, 3] (by decide) rfl
    exact hKx frs frt top_17 bgn mst ovr_17 tgr st_17 ffr fsz (by rw [hV, tw_MO_project_r70, if_neg c_16, h_17, ob3_mk]) _ _ hP hD hS ls (lv_sub hl [0, 1, 2, 3, 4] rfl)
set_option maxHeartbeats 4000000 in
set_option maxRecDepth 100000 in
theorem l_MO_project_r29 {p : Program} {e : Env} {s : State} {m : MethodId} {args : Array Value} {below : List Frame} {meth : Method} {c : Code} {V : Option (Int32 × Int32 × Int32 × Int32 × Int32 × Bool × Bool × (Nat → Int32) × (Nat → Int32) × (Nat → Int32))} {V0 : Int32 × Int32 × Int32 × Int32 × Int32 × Bool × Bool × (Nat → Int32) × (Nat → Int32) × (Nat → Int32)} (C0 : lc_C p s m meth c args b_MO_project 6 none R_MO lw_g) (hs : V = some V0) (l : Launch) (D : va_G) (cB cI : ClassId) (aM aMst aMdcs aMtot aMfrm aMsiz aMffr aMfsz aMlkd aMlat aMkkd aMkat aModr aMgrp aMikd aMiat : Nat) (fu : Nat) (thr : Int32) (tpd : Int32) (lvs : Int32) (its : Int32) (hgh : Int64) (loo : Int64) (dfl : Bool) (dcs : Nat → Int32) (frm : Nat → Int32)  {A : Nat → Prop} (hk : hk_ D cB cI s) (hA : ∀ q : Nat, s.heap.size ≤ q → A q) (x1 : Int32) (x2 : Int32) (x3 : Int32) (x4 : Int32) (frs : Int32) (frt : Int32) (top : Int32) (bgn : Int32) (mst : Int32) (ovr : Bool) (tgr : Bool) (st : Nat → Int32) (ffr : Nat → Int32) (fsz : Nat → Int32) {K : Int32 → Int32 → Int32 → Int32 → Int32 → Bool → Bool → (Nat → Int32) → (Nat → Int32) → (Nat → Int32) → Option (Int32 × Int32 × Int32 × Int32 × Int32 × Bool × Bool × (Nat → Int32) × (Nat → Int32) × (Nat → Int32))} (hKx : ∀ (frs' : Int32) (frt' : Int32) (top' : Int32) (bgn' : Int32) (mst' : Int32) (ovr' : Bool) (tgr' : Bool) (st' : Nat → Int32) (ffr' : Nat → Int32) (fsz' : Nat → Int32), V = K frs' frt' top' bgn' mst' ovr' tgr' st' ffr' fsz' → ∀ (H : Heap) (locs : List Loc), va_P D vwCl [(aM, .inr (11, [.int thr, .ref aMst, .int tpd, .ref aMdcs, .ref aMtot, .ref aMfrm, .ref aMsiz, .int frs', .int frt', .ref aMffr, .ref aMfsz, .int top', .int bgn', .int mst', .int (b2i ovr'), .int (b2i tgr'), .int lvs, .ref aMlkd, .ref aMlat, .ref aMkkd, .ref aMkat, .ref aModr, .ref aMgrp, .int its, .ref aMikd, .ref aMiat, .long hgh, .long loo, .int (b2i dfl)])), (aMst, .inl (cI, 136400, .inl st')), (aMdcs, .inl (cI, 2, .inl dcs)), (aMfrm, .inl (cI, 400, .inl frm)), (aMffr, .inl (cI, 200, .inl ffr')), (aMfsz, .inl (cI, 200, .inl fsz'))] H → va_D A [(aM, .inr (11, [.int thr, .ref aMst, .int tpd, .ref aMdcs, .ref aMtot, .ref aMfrm, .ref aMsiz, .int frs', .int frt', .ref aMffr, .ref aMfsz, .int top', .int bgn', .int mst', .int (b2i ovr'), .int (b2i tgr'), .int lvs, .ref aMlkd, .ref aMlat, .ref aMkkd, .ref aMkat, .ref aModr, .ref aMgrp, .int its, .ref aMikd, .ref aMiat, .long hgh, .long loo, .int (b2i dfl)])), (aMst, .inl (cI, 136400, .inl st')), (aMdcs, .inl (cI, 2, .inl dcs)), (aMfrm, .inl (cI, 400, .inl frm)), (aMffr, .inl (cI, 200, .inl ffr')), (aMfsz, .inl (cI, 200, .inl fsz'))] → va_S A s.heap H locs → ∀ ls : Array Slot, lv_has ls 6 [(0, .ref aM), (1, .int x1), (2, .int x2), (3, .int x3), (4, .int x4)] → W p l e ({ frames := 211, cells := 0, slots := 0, locals := 6320 }) s m args below meth c H locs 0 0 (MQ below (va_Qv (fun (u : Int32 × Int32 × Int32 × Int32 × Int32 × Bool × Bool × (Nat → Int32) × (Nat → Int32) × (Nat → Int32)) => u = V0) (mt_B D A (fun u => wd_MO_project aM aMst aMdcs aMtot aMfrm aMsiz aMffr aMfsz aMlkd aMlat aMkkd aMkat aModr aMgrp aMikd aMiat cB cI thr tpd lvs its hgh loo dfl dcs frm u.1 u.2.1 u.2.2.1 u.2.2.2.1 u.2.2.2.2.1 u.2.2.2.2.2.1 u.2.2.2.2.2.2.1 u.2.2.2.2.2.2.2.1 u.2.2.2.2.2.2.2.2.1 u.2.2.2.2.2.2.2.2.2)) A) args s 0 0 A) (F0 m 98 ls [])) (hV : V = tw_MO_project_r29 fu dcs frm K x1 x2 x3 x4 frs frt top bgn mst ovr tgr st ffr fsz) : ∀ (H : Heap) (locs : List Loc), va_P D vwCl [(aM, .inr (11, [.int thr, .ref aMst, .int tpd, .ref aMdcs, .ref aMtot, .ref aMfrm, .ref aMsiz, .int frs, .int frt, .ref aMffr, .ref aMfsz, .int top, .int bgn, .int mst, .int (b2i ovr), .int (b2i tgr), .int lvs, .ref aMlkd, .ref aMlat, .ref aMkkd, .ref aMkat, .ref aModr, .ref aMgrp, .int its, .ref aMikd, .ref aMiat, .long hgh, .long loo, .int (b2i dfl)])), (aMst, .inl (cI, 136400, .inl st)), (aMdcs, .inl (cI, 2, .inl dcs)), (aMfrm, .inl (cI, 400, .inl frm)), (aMffr, .inl (cI, 200, .inl ffr)), (aMfsz, .inl (cI, 200, .inl fsz))] H → va_D A [(aM, .inr (11, [.int thr, .ref aMst, .int tpd, .ref aMdcs, .ref aMtot, .ref aMfrm, .ref aMsiz, .int frs, .int frt, .ref aMffr, .ref aMfsz, .int top, .int bgn, .int mst, .int (b2i ovr), .int (b2i tgr), .int lvs, .ref aMlkd, .ref aMlat, .ref aMkkd, .ref aMkat, .ref aModr, .ref aMgrp, .int its, .ref aMikd, .ref aMiat, .long hgh, .long loo, .int (b2i dfl)])), (aMst, .inl (cI, 136400, .inl st)), (aMdcs, .inl (cI, 2, .inl dcs)), (aMfrm, .inl (cI, 400, .inl frm)), (aMffr, .inl (cI, 200, .inl ffr)), (aMfsz, .inl (cI, 200, .inl fsz))] → va_S A s.heap H locs → ∀ ls : Array Slot, lv_has ls 6 [(0, .ref aM), (1, .int x1), (2, .int x2), (3, .int x3), (4, .int x4)] → W p l e ({ frames := 211, cells := 0, slots := 0, locals := 6320 }) s m args below meth c H locs 0 0 (MQ below (va_Qv (fun (u : Int32 × Int32 × Int32 × Int32 × Int32 × Bool × Bool × (Nat → Int32) × (Nat → Int32) × (Nat → Int32)) => u = V0) (mt_B D A (fun u => wd_MO_project aM aMst aMdcs aMtot aMfrm aMsiz aMffr aMfsz aMlkd aMlat aMkkd aMkat aModr aMgrp aMikd aMiat cB cI thr tpd lvs its hgh loo dfl dcs frm u.1 u.2.1 u.2.2.1 u.2.2.2.1 u.2.2.2.2.1 u.2.2.2.2.2.1 u.2.2.2.2.2.2.1 u.2.2.2.2.2.2.2.1 u.2.2.2.2.2.2.2.2.1 u.2.2.2.2.2.2.2.2.2)) A) args s 0 0 A) (F0 m 29 ls []) := by
  obtain ⟨hx, hb, hml, hr, hown, hlocks, hT⟩ := id C0
  have hK := hk.1
  have hN := hk.2.1
  intro H locs hP hD hS ls hl
  refine lv_aload_n hx hb d_MO_project_29 rfl (lv_at hl 0 rfl) ?_
  refine va_get (D := D) (ci := 11) (v := .ref aMst) (C := R_MO) (T := T_MO) (N := 29) hx hb hT u_MO hown hK hP 0 rfl rfl 1 (by decide) (hT _ k_1044) (fun _ h9 => h9) rfl d_MO_project_30 ?_
  refine lv_iload hx hb d_MO_project_33 (lv_at hl 4 rfl) ?_
  by_cases c_5 : 0 ≤ x4 ∧ x4 < 136400
  rotate_left
  · exact op_no hs (by rw [hV, tw_MO_project_r29, if_neg c_5])
  refine va_iald hx hb hK hP 1 1 rfl rfl (in_pp c_5.1 c_5.2 rfl) d_MO_project_35 ?_
  refine lv_bipush (v := 8) hx hb d_MO_project_36 (by decide) ?_
  refine lv_icmp_ne (tgt := 84) hx hb d_MO_project_38 (by decide) (fun c_6 => ?_) (fun c_6 => ?_)
  · refine lv_aload_n hx hb d_MO_project_84 rfl (lv_at hl 0 rfl) ?_
    refine lv_iload hx hb d_MO_project_85 (lv_at hl 4 rfl) ?_
    refine lv_aload_n hx hb d_MO_project_87 rfl (lv_at hl 0 rfl) ?_
    refine va_get (D := D) (ci := 11) (v := .ref aMfrm) (C := R_MO) (T := T_MO) (N := 29) hx hb hT u_MO hown hK hP 0 rfl rfl 5 (by decide) (hT _ k_1048) (fun _ h9 => h9) rfl d_MO_project_88 ?_
    refine lv_iload_n hx hb d_MO_project_91 rfl (lv_at hl 2 rfl) ?_
    by_cases c_7 : 0 ≤ x2 ∧ x2 < 400
    rotate_left
    · exact op_no hs (by rw [hV, tw_MO_project_r29, if_pos c_5, if_neg c_6, if_neg c_7])
    refine va_iald hx hb hK hP 3 1 rfl rfl (in_pp c_7.1 c_7.2 rfl) d_MO_project_92 ?_
    refine lv_iload hx hb d_MO_project_93 (lv_at hl 4 rfl) ?_
    rcases h_8 : tw_MO_valueElement fu top bgn mst ovr st x4 (frm x2.toNatClampNeg) x4 with _ | w_8
    · exact op_no hs (by rw [hV, tw_MO_project_r29, if_pos c_5, if_neg c_6, if_pos c_7, h_8, ob5_no])
    refine mt_Vv (As := [.int x4, .int (frm x2.toNatClampNeg), .int x4]) (rest := []) (wr := [(aMdcs, .inl (cI, 2, .inl dcs)), (aMfrm, .inl (cI, 400, .inl frm)), (aMffr, .inl (cI, 200, .inl ffr)), (aMfsz, .inl (cI, 200, .inl fsz))]) ⟨hx, hb, hml, hown, hT⟩ (c_MO_valueElement l D cB cI aM aMst aMdcs aMtot aMfrm aMsiz aMffr aMfsz aMlkd aMlat aMkkd aMkat aModr aMgrp aMikd aMiat fu thr tpd frs frt tgr lvs its hgh loo dfl _ top bgn mst ovr st x4 (frm x2.toNatClampNeg) x4 w_8 h_8) (cwV 3 hT (gV_of k_1342 k_1344 kp_MO_valueElement k_12 kc_MO_valueElement) rfl rfl rfl hd_MO_valueElement ⟨Nat.le_of_ble_eq_true rfl, Nat.le_of_ble_eq_true rfl⟩) hk hP hD hS hA [0, 1] [2, 3, 4, 5] rfl rfl rfl (by decide) (by decide) (by decide) (q0 := 0) rfl rfl rfl rfl hl.1 rfl (Nat.le_of_ble_eq_true rfl) d_MO_project_95 ⟨Nat.zero_le _, Nat.zero_le _⟩ (fun u_8 H locs hw_8 hP hD hS => ?_)
    subst hw_8
    obtain ⟨top_8, bgn_8, mst_8, ovr_8, st_8⟩ := u_8
    have hP : va_P D vwCl [(aM, .inr (11, [.int thr, .ref aMst, .int tpd, .ref aMdcs, .ref aMtot, .ref aMfrm, .ref aMsiz, .int frs, .int frt, .ref aMffr, .ref aMfsz, .int top_8, .int bgn_8, .int mst_8, .int (b2i ovr_8), .int (b2i tgr), .int lvs, .ref aMlkd, .ref aMlat, .ref aMkkd, .ref aMkat, .ref aModr, .ref aMgrp, .int its, .ref aMikd, .ref aMiat, .long hgh, .long loo, .int (b2i dfl)])), (aMst, .inl (cI, 136400, .inl st_8)), (aMdcs, .inl (cI, 2, .inl dcs)), (aMfrm, .inl (cI, 400, .inl frm)), (aMffr, .inl (cI, 200, .inl ffr)), (aMfsz, .inl (cI, 200, .inl fsz))] H := hP.sub [4, 5, 0, 1, 2, 3] rfl
    have hD : va_D A [(aM, .inr (11, [.int thr, .ref aMst, .int tpd, .ref aMdcs, .ref aMtot, .ref aMfrm, .ref aMsiz, .int frs, .int frt, .ref aMffr, .ref aMfsz, .int top_8, .int bgn_8, .int mst_8, .int (b2i ovr_8), .int (b2i tgr), .int lvs, .ref aMlkd, .ref aMlat, .ref aMkkd, .ref aMkat, .ref aModr, .ref aMgrp, .int its, .ref aMikd, .ref aMiat, .long hgh, .long loo, .int (b2i dfl)])), (aMst, .inl (cI, 136400, .inl st_8)), (aMdcs, .inl (cI, 2, .inl dcs)), (aMfrm, .inl (cI, 400, .inl frm)), (aMffr, .inl (cI, 200, .inl ffr)), (aMfsz, .inl (cI, 200, .inl fsz))] := hD.sub [4, 5, 0, 1, 2, 3] (by decide) rfl
    exact hKx frs frt top_8 bgn_8 mst_8 ovr_8 tgr st_8 ffr fsz (by rw [hV, tw_MO_project_r29, if_pos c_5, if_neg c_6, if_pos c_7, h_8, ob5_mk]) _ _ hP hD hS ls (lv_sub hl [0, 1, 2, 3, 4] rfl)
  · refine lv_aload_n hx hb d_MO_project_41 rfl (lv_at hl 0 rfl) ?_
    refine va_get (D := D) (ci := 11) (v := .ref aMst) (C := R_MO) (T := T_MO) (N := 29) hx hb hT u_MO hown hK hP 0 rfl rfl 1 (by decide) (hT _ k_1044) (fun _ h9 => h9) rfl d_MO_project_42 ?_
    refine lv_aload_n hx hb d_MO_project_45 rfl (lv_at hl 0 rfl) ?_
    refine lv_iload hx hb d_MO_project_46 (lv_at hl 4 rfl) ?_
    rcases h_9 : tw_MO_valueOf fu st x4 with _ | r_9
    · exact op_no hs (by rw [hV, tw_MO_project_r29, if_pos c_5, if_pos c_6, h_9, ob1_no])
    refine rd_V (val := r_9) (As := [.int x4]) (rest := [.ref aMst]) ⟨hx, hb, hml, hown, hT⟩ (c_MO_valueOf l D cB cI aM aMst aMdcs aMtot aMfrm aMsiz aMffr aMfsz aMlkd aMlat aMkkd aMkat aModr aMgrp aMikd aMiat fu thr tpd frs frt top bgn mst ovr tgr lvs its hgh loo dfl st x4 r_9 h_9) (cwV 1 hT (gV_of k_1182 k_1184 kp_MO_valueOf k_12 kc_MO_valueOf) rfl rfl rfl hd_MO_valueOf ⟨Nat.le_of_ble_eq_true rfl, Nat.le_of_ble_eq_true rfl⟩) hk (hP.sub (ws' := [(aM, .inr (11, [.int thr, .ref aMst, .int tpd, .ref aMdcs, .ref aMtot, .ref aMfrm, .ref aMsiz, .int frs, .int frt, .ref aMffr, .ref aMfsz, .int top, .int bgn, .int mst, .int (b2i ovr), .int (b2i tgr), .int lvs, .ref aMlkd, .ref aMlat, .ref aMkkd, .ref aMkat, .ref aModr, .ref aMgrp, .int its, .ref aMikd, .ref aMiat, .long hgh, .long loo, .int (b2i dfl)])), (aMst, .inl (cI, 136400, .inl st))]) [0, 1] rfl) (q0 := 0) rfl rfl rfl rfl hl.1 rfl (Nat.le_of_ble_eq_true rfl) d_MO_project_48 ⟨Nat.zero_le _, Nat.zero_le _⟩ ?_
    by_cases c_10 : 0 ≤ r_9 ∧ r_9 < 136400
    rotate_left
    · exact op_no hs (by rw [hV, tw_MO_project_r29, if_pos c_5, if_pos c_6, h_9, ob1_mk, if_neg c_10])
    refine va_iald hx hb hK hP 1 1 rfl rfl (in_pp c_10.1 c_10.2 rfl) d_MO_project_51 ?_
    refine lv_iconst (v := 1) hx hb d_MO_project_52 (by decide) ?_
    refine lv_icmp_ne (tgt := 84) hx hb d_MO_project_53 (by decide) (fun c_11 => ?_) (fun c_11 => ?_)
    · refine lv_aload_n hx hb d_MO_project_84 rfl (lv_at hl 0 rfl) ?_
      refine lv_iload hx hb d_MO_project_85 (lv_at hl 4 rfl) ?_
      refine lv_aload_n hx hb d_MO_project_87 rfl (lv_at hl 0 rfl) ?_
      refine va_get (D := D) (ci := 11) (v := .ref aMfrm) (C := R_MO) (T := T_MO) (N := 29) hx hb hT u_MO hown hK hP 0 rfl rfl 5 (by decide) (hT _ k_1048) (fun _ h9 => h9) rfl d_MO_project_88 ?_
      refine lv_iload_n hx hb d_MO_project_91 rfl (lv_at hl 2 rfl) ?_
      by_cases c_12 : 0 ≤ x2 ∧ x2 < 400
      rotate_left
      · exact op_no hs (by rw [hV, tw_MO_project_r29, if_pos c_5, if_pos c_6, h_9, ob1_mk, if_pos c_10, if_neg c_11, if_neg c_12])
      refine va_iald hx hb hK hP 3 1 rfl rfl (in_pp c_12.1 c_12.2 rfl) d_MO_project_92 ?_
      refine lv_iload hx hb d_MO_project_93 (lv_at hl 4 rfl) ?_
      rcases h_13 : tw_MO_valueElement fu top bgn mst ovr st x4 (frm x2.toNatClampNeg) x4 with _ | w_13
      · exact op_no hs (by rw [hV, tw_MO_project_r29, if_pos c_5, if_pos c_6, h_9, ob1_mk, if_pos c_10, if_neg c_11, if_pos c_12, h_13, ob5_no])
      refine mt_Vv (As := [.int x4, .int (frm x2.toNatClampNeg), .int x4]) (rest := []) (wr := [(aMdcs, .inl (cI, 2, .inl dcs)), (aMfrm, .inl (cI, 400, .inl frm)), (aMffr, .inl (cI, 200, .inl ffr)), (aMfsz, .inl (cI, 200, .inl fsz))]) ⟨hx, hb, hml, hown, hT⟩ (c_MO_valueElement l D cB cI aM aMst aMdcs aMtot aMfrm aMsiz aMffr aMfsz aMlkd aMlat aMkkd aMkat aModr aMgrp aMikd aMiat fu thr tpd frs frt tgr lvs its hgh loo dfl _ top bgn mst ovr st x4 (frm x2.toNatClampNeg) x4 w_13 h_13) (cwV 3 hT (gV_of k_1342 k_1344 kp_MO_valueElement k_12 kc_MO_valueElement) rfl rfl rfl hd_MO_valueElement ⟨Nat.le_of_ble_eq_true rfl, Nat.le_of_ble_eq_true rfl⟩) hk hP hD hS hA [0, 1] [2, 3, 4, 5] rfl rfl rfl (by decide) (by decide) (by decide) (q0 := 0) rfl rfl rfl rfl hl.1 rfl (Nat.le_of_ble_eq_true rfl) d_MO_project_95 ⟨Nat.zero_le _, Nat.zero_le _⟩ (fun u_13 H locs hw_13 hP hD hS => ?_)
      subst hw_13
      obtain ⟨top_13, bgn_13, mst_13, ovr_13, st_13⟩ := u_13
      have hP : va_P D vwCl [(aM, .inr (11, [.int thr, .ref aMst, .int tpd, .ref aMdcs, .ref aMtot, .ref aMfrm, .ref aMsiz, .int frs, .int frt, .ref aMffr, .ref aMfsz, .int top_13, .int bgn_13, .int mst_13, .int (b2i ovr_13), .int (b2i tgr), .int lvs, .ref aMlkd, .ref aMlat, .ref aMkkd, .ref aMkat, .ref aModr, .ref aMgrp, .int its, .ref aMikd, .ref aMiat, .long hgh, .long loo, .int (b2i dfl)])), (aMst, .inl (cI, 136400, .inl st_13)), (aMdcs, .inl (cI, 2, .inl dcs)), (aMfrm, .inl (cI, 400, .inl frm)), (aMffr, .inl (cI, 200, .inl ffr)), (aMfsz, .inl (cI, 200, .inl fsz))] H := hP.sub [4, 5, 0, 1, 2, 3] rfl
      have hD : va_D A [(aM, .inr (11, [.int thr, .ref aMst, .int tpd, .ref aMdcs, .ref aMtot, .ref aMfrm, .ref aMsiz, .int frs, .int frt, .ref aMffr, .ref aMfsz, .int top_13, .int bgn_13, .int mst_13, .int (b2i ovr_13), .int (b2i tgr), .int lvs, .ref aMlkd, .ref aMlat, .ref aMkkd, .ref aMkat, .ref aModr, .ref aMgrp, .int its, .ref aMikd, .ref aMiat, .long hgh, .long loo, .int (b2i dfl)])), (aMst, .inl (cI, 136400, .inl st_13)), (aMdcs, .inl (cI, 2, .inl dcs)), (aMfrm, .inl (cI, 400, .inl frm)), (aMffr, .inl (cI, 200, .inl ffr)), (aMfsz, .inl (cI, 200, .inl fsz))] := hD.sub [4, 5, 0, 1, 2, 3] (by decide) rfl
      exact hKx frs frt top_13 bgn_13 mst_13 ovr_13 tgr st_13 ffr fsz (by rw [hV, tw_MO_project_r29, if_pos c_5, if_pos c_6, h_9, ob1_mk, if_pos c_10, if_neg c_11, if_pos c_12, h_13, ob5_mk]) _ _ hP hD hS ls (lv_sub hl [0, 1, 2, 3, 4] rfl)
    · refine lv_aload_n hx hb d_MO_project_56 rfl (lv_at hl 0 rfl) ?_
      refine lv_aload_n hx hb d_MO_project_57 rfl (lv_at hl 0 rfl) ?_
      refine va_get (D := D) (ci := 11) (v := .ref aMfrm) (C := R_MO) (T := T_MO) (N := 29) hx hb hT u_MO hown hK hP 0 rfl rfl 5 (by decide) (hT _ k_1048) (fun _ h9 => h9) rfl d_MO_project_58 ?_
      refine lv_iload_n hx hb d_MO_project_61 rfl (lv_at hl 2 rfl) ?_
      by_cases c_14 : 0 ≤ x2 ∧ x2 < 400
      rotate_left
      · exact op_no hs (by rw [hV, tw_MO_project_r29, if_pos c_5, if_pos c_6, h_9, ob1_mk, if_pos c_10, if_pos c_11, if_neg c_14])
      refine va_iald hx hb hK hP 3 1 rfl rfl (in_pp c_14.1 c_14.2 rfl) d_MO_project_62 ?_
      refine lv_iload hx hb d_MO_project_63 (lv_at hl 4 rfl) ?_
      rcases h_15 : tw_MO_sameName fu st (frm x2.toNatClampNeg) x4 with _ | r_15
      · exact op_no hs (by rw [hV, tw_MO_project_r29, if_pos c_5, if_pos c_6, h_9, ob1_mk, if_pos c_10, if_pos c_11, if_pos c_14, h_15, ob1_no])
      refine rd_V (val := r_15) (As := [.int (frm x2.toNatClampNeg), .int x4]) (rest := []) ⟨hx, hb, hml, hown, hT⟩ (c_MO_sameName l D cB cI aM aMst aMdcs aMtot aMfrm aMsiz aMffr aMfsz aMlkd aMlat aMkkd aMkat aModr aMgrp aMikd aMiat fu thr tpd frs frt top bgn mst ovr tgr lvs its hgh loo dfl st (frm x2.toNatClampNeg) x4 r_15 h_15) (cwV 2 hT (gV_of k_1330 k_1332 kp_MO_sameName k_12 kc_MO_sameName) rfl rfl rfl hd_MO_sameName ⟨Nat.le_of_ble_eq_true rfl, Nat.le_of_ble_eq_true rfl⟩) hk (hP.sub (ws' := [(aM, .inr (11, [.int thr, .ref aMst, .int tpd, .ref aMdcs, .ref aMtot, .ref aMfrm, .ref aMsiz, .int frs, .int frt, .ref aMffr, .ref aMfsz, .int top, .int bgn, .int mst, .int (b2i ovr), .int (b2i tgr), .int lvs, .ref aMlkd, .ref aMlat, .ref aMkkd, .ref aMkat, .ref aModr, .ref aMgrp, .int its, .ref aMikd, .ref aMiat, .long hgh, .long loo, .int (b2i dfl)])), (aMst, .inl (cI, 136400, .inl st))]) [0, 1] rfl) (q0 := 0) rfl rfl rfl rfl hl.1 rfl (Nat.le_of_ble_eq_true rfl) d_MO_project_65 ⟨Nat.zero_le _, Nat.zero_le _⟩ ?_
      refine lv_istore (lv' := [(5, .int r_15), (0, .ref aM), (1, .int x1), (2, .int x2), (3, .int x3), (4, .int x4)]) hx hb d_MO_project_68 hl (by decide) rfl (fun ls hl => ?_)
      refine l_MO_project_r70 C0 hs l D cB cI aM aMst aMdcs aMtot aMfrm aMsiz aMffr aMfsz aMlkd aMlat aMkkd aMkat aModr aMgrp aMikd aMiat fu thr tpd lvs its hgh loo dfl dcs frm hk hA x1 x2 x3 x4 r_15 frs frt top bgn mst ovr tgr st ffr fsz (K := (fun (frs_18 : Int32) (frt_18 : Int32) (top_18 : Int32) (bgn_18 : Int32) (mst_18 : Int32) (ovr_18 : Bool) (tgr_18 : Bool) (st_18 : Nat → Int32) (ffr_18 : Nat → Int32) (fsz_18 : Nat → Int32) =>
          K frs_18 frt_18 top_18 bgn_18 mst_18 ovr_18 tgr_18 st_18 ffr_18 fsz_18)) ?_ (by rw [hV, tw_MO_project_r29, if_pos c_5, if_pos c_6, h_9, ob1_mk, if_pos c_10, if_pos c_11, if_pos c_14, h_15, ob1_mk]) _ _ hP hD hS ls (lv_sub hl [1, 2, 3, 4, 5, 0] rfl)
      intro frs_18 frt_18 top_18 bgn_18 mst_18 ovr_18 tgr_18 st_18 ffr_18 fsz_18 hV_18 H locs hP hD hS ls hl
      refine lv_goto (tgt := 98) hx hb d_MO_project_81 (by decide) ?_
      exact hKx frs_18 frt_18 top_18 bgn_18 mst_18 ovr_18 tgr_18 st_18 ffr_18 fsz_18 (by rw [hV_18]) _ _ hP hD hS ls (lv_sub hl [0, 1, 2, 3, 4] rfl)
set_option maxHeartbeats 4000000 in
set_option maxRecDepth 100000 in
theorem l_MO_project_h24 {p : Program} {e : Env} {s : State} {m : MethodId} {args : Array Value} {below : List Frame} {meth : Method} {c : Code} {V : Option (Int32 × Int32 × Int32 × Int32 × Int32 × Bool × Bool × (Nat → Int32) × (Nat → Int32) × (Nat → Int32))} {V0 : Int32 × Int32 × Int32 × Int32 × Int32 × Bool × Bool × (Nat → Int32) × (Nat → Int32) × (Nat → Int32)} (C0 : lc_C p s m meth c args b_MO_project 6 none R_MO lw_g) (hs : V = some V0) (l : Launch) (D : va_G) (cB cI : ClassId) (aM aMst aMdcs aMtot aMfrm aMsiz aMffr aMfsz aMlkd aMlat aMkkd aMkat aModr aMgrp aMikd aMiat : Nat) (fu : Nat) (thr : Int32) (tpd : Int32) (lvs : Int32) (its : Int32) (hgh : Int64) (loo : Int64) (dfl : Bool) (dcs : Nat → Int32) (frm : Nat → Int32) {A : Nat → Prop} (hk : hk_ D cB cI s) (hA : ∀ q : Nat, s.heap.size ≤ q → A q) (p0 : Int32) (x2 : Int32) (x3 : Int32) {K : Int32 → Int32 → Int32 → Int32 → Int32 → Int32 → Bool → Bool → (Nat → Int32) → (Nat → Int32) → (Nat → Int32) → Option (Int32 × Int32 × Int32 × Int32 × Int32 × Bool × Bool × (Nat → Int32) × (Nat → Int32) × (Nat → Int32))} (hKx : ∀ (x4 : Int32) (frs : Int32) (frt : Int32) (top : Int32) (bgn : Int32) (mst : Int32) (ovr : Bool) (tgr : Bool) (st : Nat → Int32) (ffr : Nat → Int32) (fsz : Nat → Int32), V = K x4 frs frt top bgn mst ovr tgr st ffr fsz → ∀ (H : Heap) (locs : List Loc), va_P D vwCl [(aM, .inr (11, [.int thr, .ref aMst, .int tpd, .ref aMdcs, .ref aMtot, .ref aMfrm, .ref aMsiz, .int frs, .int frt, .ref aMffr, .ref aMfsz, .int top, .int bgn, .int mst, .int (b2i ovr), .int (b2i tgr), .int lvs, .ref aMlkd, .ref aMlat, .ref aMkkd, .ref aMkat, .ref aModr, .ref aMgrp, .int its, .ref aMikd, .ref aMiat, .long hgh, .long loo, .int (b2i dfl)])), (aMst, .inl (cI, 136400, .inl st)), (aMdcs, .inl (cI, 2, .inl dcs)), (aMfrm, .inl (cI, 400, .inl frm)), (aMffr, .inl (cI, 200, .inl ffr)), (aMfsz, .inl (cI, 200, .inl fsz))] H → va_D A [(aM, .inr (11, [.int thr, .ref aMst, .int tpd, .ref aMdcs, .ref aMtot, .ref aMfrm, .ref aMsiz, .int frs, .int frt, .ref aMffr, .ref aMfsz, .int top, .int bgn, .int mst, .int (b2i ovr), .int (b2i tgr), .int lvs, .ref aMlkd, .ref aMlat, .ref aMkkd, .ref aMkat, .ref aModr, .ref aMgrp, .int its, .ref aMikd, .ref aMiat, .long hgh, .long loo, .int (b2i dfl)])), (aMst, .inl (cI, 136400, .inl st)), (aMdcs, .inl (cI, 2, .inl dcs)), (aMfrm, .inl (cI, 400, .inl frm)), (aMffr, .inl (cI, 200, .inl ffr)), (aMfsz, .inl (cI, 200, .inl fsz))] → va_S A s.heap H locs → ∀ ls : Array Slot, lv_has ls 6 [(0, .ref aM), (1, .int p0), (2, .int x2), (3, .int x3)] → W p l e ({ frames := 211, cells := 0, slots := 0, locals := 6320 }) s m args below meth c H locs 0 0 (MQ below (va_Qv (fun (u : Int32 × Int32 × Int32 × Int32 × Int32 × Bool × Bool × (Nat → Int32) × (Nat → Int32) × (Nat → Int32)) => u = V0) (mt_B D A (fun u => wd_MO_project aM aMst aMdcs aMtot aMfrm aMsiz aMffr aMfsz aMlkd aMlat aMkkd aMkat aModr aMgrp aMikd aMiat cB cI thr tpd lvs its hgh loo dfl dcs frm u.1 u.2.1 u.2.2.1 u.2.2.2.1 u.2.2.2.2.1 u.2.2.2.2.2.1 u.2.2.2.2.2.2.1 u.2.2.2.2.2.2.2.1 u.2.2.2.2.2.2.2.2.1 u.2.2.2.2.2.2.2.2.2)) A) args s 0 0 A) (F0 m 109 ls [])) : ∀ (n : Nat) (x4 : Int32) (frs : Int32) (frt : Int32) (top : Int32) (bgn : Int32) (mst : Int32) (ovr : Bool) (tgr : Bool) (st : Nat → Int32) (ffr : Nat → Int32) (fsz : Nat → Int32), V = tw_MO_project_h24 fu dcs frm K p0 x2 x3 n x4 frs frt top bgn mst ovr tgr st ffr fsz → ∀ (H : Heap) (locs : List Loc), va_P D vwCl [(aM, .inr (11, [.int thr, .ref aMst, .int tpd, .ref aMdcs, .ref aMtot, .ref aMfrm, .ref aMsiz, .int frs, .int frt, .ref aMffr, .ref aMfsz, .int top, .int bgn, .int mst, .int (b2i ovr), .int (b2i tgr), .int lvs, .ref aMlkd, .ref aMlat, .ref aMkkd, .ref aMkat, .ref aModr, .ref aMgrp, .int its, .ref aMikd, .ref aMiat, .long hgh, .long loo, .int (b2i dfl)])), (aMst, .inl (cI, 136400, .inl st)), (aMdcs, .inl (cI, 2, .inl dcs)), (aMfrm, .inl (cI, 400, .inl frm)), (aMffr, .inl (cI, 200, .inl ffr)), (aMfsz, .inl (cI, 200, .inl fsz))] H → va_D A [(aM, .inr (11, [.int thr, .ref aMst, .int tpd, .ref aMdcs, .ref aMtot, .ref aMfrm, .ref aMsiz, .int frs, .int frt, .ref aMffr, .ref aMfsz, .int top, .int bgn, .int mst, .int (b2i ovr), .int (b2i tgr), .int lvs, .ref aMlkd, .ref aMlat, .ref aMkkd, .ref aMkat, .ref aModr, .ref aMgrp, .int its, .ref aMikd, .ref aMiat, .long hgh, .long loo, .int (b2i dfl)])), (aMst, .inl (cI, 136400, .inl st)), (aMdcs, .inl (cI, 2, .inl dcs)), (aMfrm, .inl (cI, 400, .inl frm)), (aMffr, .inl (cI, 200, .inl ffr)), (aMfsz, .inl (cI, 200, .inl fsz))] → va_S A s.heap H locs → ∀ ls : Array Slot, lv_has ls 6 [(0, .ref aM), (1, .int p0), (2, .int x2), (3, .int x3), (4, .int x4)] → W p l e ({ frames := 211, cells := 0, slots := 0, locals := 6320 }) s m args below meth c H locs 0 0 (MQ below (va_Qv (fun (u : Int32 × Int32 × Int32 × Int32 × Int32 × Bool × Bool × (Nat → Int32) × (Nat → Int32) × (Nat → Int32)) => u = V0) (mt_B D A (fun u => wd_MO_project aM aMst aMdcs aMtot aMfrm aMsiz aMffr aMfsz aMlkd aMlat aMkkd aMkat aModr aMgrp aMikd aMiat cB cI thr tpd lvs its hgh loo dfl dcs frm u.1 u.2.1 u.2.2.1 u.2.2.2.1 u.2.2.2.2.1 u.2.2.2.2.2.1 u.2.2.2.2.2.2.1 u.2.2.2.2.2.2.2.1 u.2.2.2.2.2.2.2.2.1 u.2.2.2.2.2.2.2.2.2)) A) args s 0 0 A) (F0 m 24 ls []) := by
  obtain ⟨hx, hb, hml, hr, hown, hlocks, hT⟩ := id C0
  have hK := hk.1
  have hN := hk.2.1
  intro n
  induction n with
  | zero =>
    intro x4 frs frt top bgn mst ovr tgr st ffr fsz hV
    exact op_no hs (hV.trans rfl)
  | succ n ih =>
    intro x4 frs frt top bgn mst ovr tgr st ffr fsz hV H locs hP hD hS ls hl
    refine lv_iload hx hb d_MO_project_24 (lv_at hl 4 rfl) ?_
    refine lv_if_le (tgt := 109) hx hb d_MO_project_26 (by decide) (fun c_4 => ?_) (fun c_4 => ?_)
    · exact hKx x4 frs frt top bgn mst ovr tgr st ffr fsz (by rw [hV, tw_MO_project_h24, if_pos c_4]) _ _ hP hD hS ls (lv_sub hl [0, 1, 2, 3] rfl)
    · refine l_MO_project_r29 C0 hs l D cB cI aM aMst aMdcs aMtot aMfrm aMsiz aMffr aMfsz aMlkd aMlat aMkkd aMkat aModr aMgrp aMikd aMiat fu thr tpd lvs its hgh loo dfl dcs frm hk hA p0 x2 x3 x4 frs frt top bgn mst ovr tgr st ffr fsz (K := (fun (frs_19 : Int32) (frt_19 : Int32) (top_19 : Int32) (bgn_19 : Int32) (mst_19 : Int32) (ovr_19 : Bool) (tgr_19 : Bool) (st_19 : Nat → Int32) (ffr_19 : Nat → Int32) (fsz_19 : Nat → Int32) =>
          ob1 (tw_MO_nextOf fu st_19 x4) (fun r_20 =>
            tw_MO_project_h24 fu dcs frm K p0 x2 x3 n r_20 frs_19 frt_19 top_19 bgn_19 mst_19 ovr_19 tgr_19 st_19 ffr_19 fsz_19))) ?_ (by rw [hV, tw_MO_project_h24, if_neg c_4]) _ _ hP hD hS ls (lv_sub hl [0, 1, 2, 3, 4] rfl)
      intro frs_19 frt_19 top_19 bgn_19 mst_19 ovr_19 tgr_19 st_19 ffr_19 fsz_19 hV_19 H locs hP hD hS ls hl
      refine lv_aload_n hx hb d_MO_project_98 rfl (lv_at hl 0 rfl) ?_
      refine lv_iload hx hb d_MO_project_99 (lv_at hl 4 rfl) ?_
      rcases h_20 : tw_MO_nextOf fu st_19 x4 with _ | r_20
      · exact op_no hs (by rw [hV_19, h_20, ob1_no])
      refine rd_V (val := r_20) (As := [.int x4]) (rest := []) ⟨hx, hb, hml, hown, hT⟩ (c_MO_nextOf l D cB cI aM aMst aMdcs aMtot aMfrm aMsiz aMffr aMfsz aMlkd aMlat aMkkd aMkat aModr aMgrp aMikd aMiat fu thr tpd frs_19 frt_19 top_19 bgn_19 mst_19 ovr_19 tgr_19 lvs its hgh loo dfl st_19 x4 r_20 h_20) (cwV 1 hT (gV_of k_1204 k_1206 kp_MO_nextOf k_12 kc_MO_nextOf) rfl rfl rfl hd_MO_nextOf ⟨Nat.le_of_ble_eq_true rfl, Nat.le_of_ble_eq_true rfl⟩) hk (hP.sub (ws' := [(aM, .inr (11, [.int thr, .ref aMst, .int tpd, .ref aMdcs, .ref aMtot, .ref aMfrm, .ref aMsiz, .int frs_19, .int frt_19, .ref aMffr, .ref aMfsz, .int top_19, .int bgn_19, .int mst_19, .int (b2i ovr_19), .int (b2i tgr_19), .int lvs, .ref aMlkd, .ref aMlat, .ref aMkkd, .ref aMkat, .ref aModr, .ref aMgrp, .int its, .ref aMikd, .ref aMiat, .long hgh, .long loo, .int (b2i dfl)])), (aMst, .inl (cI, 136400, .inl st_19))]) [0, 1] rfl) (q0 := 0) rfl rfl rfl rfl hl.1 rfl (Nat.le_of_ble_eq_true rfl) d_MO_project_101 ⟨Nat.zero_le _, Nat.zero_le _⟩ ?_
      refine lv_istore (lv' := [(4, .int r_20), (0, .ref aM), (1, .int p0), (2, .int x2), (3, .int x3)]) hx hb d_MO_project_104 hl (by decide) rfl (fun ls hl => ?_)
      refine lv_goto (tgt := 24) hx hb d_MO_project_106 (by decide) ?_
      exact ih r_20 frs_19 frt_19 top_19 bgn_19 mst_19 ovr_19 tgr_19 st_19 ffr_19 fsz_19 (by rw [hV_19, h_20, ob1_mk]) _ _ hP hD hS ls (lv_sub hl [1, 2, 3, 4, 0] rfl)
set_option maxHeartbeats 4000000 in
set_option maxRecDepth 100000 in
theorem l_MO_project_h2 {p : Program} {e : Env} {s : State} {m : MethodId} {args : Array Value} {below : List Frame} {meth : Method} {c : Code} {V : Option (Int32 × Int32 × Int32 × Int32 × Int32 × Bool × Bool × (Nat → Int32) × (Nat → Int32) × (Nat → Int32))} {V0 : Int32 × Int32 × Int32 × Int32 × Int32 × Bool × Bool × (Nat → Int32) × (Nat → Int32) × (Nat → Int32)} (C0 : lc_C p s m meth c args b_MO_project 6 none R_MO lw_g) (hs : V = some V0) (l : Launch) (D : va_G) (cB cI : ClassId) (aM aMst aMdcs aMtot aMfrm aMsiz aMffr aMfsz aMlkd aMlat aMkkd aMkat aModr aMgrp aMikd aMiat : Nat) (fu : Nat) (thr : Int32) (tpd : Int32) (lvs : Int32) (its : Int32) (hgh : Int64) (loo : Int64) (dfl : Bool) (dcs : Nat → Int32) (frm : Nat → Int32) {A : Nat → Prop} (hk : hk_ D cB cI s) (hA : ∀ q : Nat, s.heap.size ≤ q → A q) (p0 : Int32) {K : Int32 → Int32 → Int32 → Int32 → Int32 → Int32 → Bool → Bool → (Nat → Int32) → (Nat → Int32) → (Nat → Int32) → Option (Int32 × Int32 × Int32 × Int32 × Int32 × Bool × Bool × (Nat → Int32) × (Nat → Int32) × (Nat → Int32))} (hKx : ∀ (x2 : Int32) (frs : Int32) (frt : Int32) (top : Int32) (bgn : Int32) (mst : Int32) (ovr : Bool) (tgr : Bool) (st : Nat → Int32) (ffr : Nat → Int32) (fsz : Nat → Int32), V = K x2 frs frt top bgn mst ovr tgr st ffr fsz → ∀ (H : Heap) (locs : List Loc), va_P D vwCl [(aM, .inr (11, [.int thr, .ref aMst, .int tpd, .ref aMdcs, .ref aMtot, .ref aMfrm, .ref aMsiz, .int frs, .int frt, .ref aMffr, .ref aMfsz, .int top, .int bgn, .int mst, .int (b2i ovr), .int (b2i tgr), .int lvs, .ref aMlkd, .ref aMlat, .ref aMkkd, .ref aMkat, .ref aModr, .ref aMgrp, .int its, .ref aMikd, .ref aMiat, .long hgh, .long loo, .int (b2i dfl)])), (aMst, .inl (cI, 136400, .inl st)), (aMdcs, .inl (cI, 2, .inl dcs)), (aMfrm, .inl (cI, 400, .inl frm)), (aMffr, .inl (cI, 200, .inl ffr)), (aMfsz, .inl (cI, 200, .inl fsz))] H → va_D A [(aM, .inr (11, [.int thr, .ref aMst, .int tpd, .ref aMdcs, .ref aMtot, .ref aMfrm, .ref aMsiz, .int frs, .int frt, .ref aMffr, .ref aMfsz, .int top, .int bgn, .int mst, .int (b2i ovr), .int (b2i tgr), .int lvs, .ref aMlkd, .ref aMlat, .ref aMkkd, .ref aMkat, .ref aModr, .ref aMgrp, .int its, .ref aMikd, .ref aMiat, .long hgh, .long loo, .int (b2i dfl)])), (aMst, .inl (cI, 136400, .inl st)), (aMdcs, .inl (cI, 2, .inl dcs)), (aMfrm, .inl (cI, 400, .inl frm)), (aMffr, .inl (cI, 200, .inl ffr)), (aMfsz, .inl (cI, 200, .inl fsz))] → va_S A s.heap H locs → ∀ ls : Array Slot, lv_has ls 6 [] → W p l e ({ frames := 211, cells := 0, slots := 0, locals := 6320 }) s m args below meth c H locs 0 0 (MQ below (va_Qv (fun (u : Int32 × Int32 × Int32 × Int32 × Int32 × Bool × Bool × (Nat → Int32) × (Nat → Int32) × (Nat → Int32)) => u = V0) (mt_B D A (fun u => wd_MO_project aM aMst aMdcs aMtot aMfrm aMsiz aMffr aMfsz aMlkd aMlat aMkkd aMkat aModr aMgrp aMikd aMiat cB cI thr tpd lvs its hgh loo dfl dcs frm u.1 u.2.1 u.2.2.1 u.2.2.2.1 u.2.2.2.2.1 u.2.2.2.2.2.1 u.2.2.2.2.2.2.1 u.2.2.2.2.2.2.2.1 u.2.2.2.2.2.2.2.2.1 u.2.2.2.2.2.2.2.2.2)) A) args s 0 0 A) (F0 m 120 ls [])) : ∀ (n : Nat) (x2 : Int32) (frs : Int32) (frt : Int32) (top : Int32) (bgn : Int32) (mst : Int32) (ovr : Bool) (tgr : Bool) (st : Nat → Int32) (ffr : Nat → Int32) (fsz : Nat → Int32), V = tw_MO_project_h2 fu dcs frm K p0 n x2 frs frt top bgn mst ovr tgr st ffr fsz → ∀ (H : Heap) (locs : List Loc), va_P D vwCl [(aM, .inr (11, [.int thr, .ref aMst, .int tpd, .ref aMdcs, .ref aMtot, .ref aMfrm, .ref aMsiz, .int frs, .int frt, .ref aMffr, .ref aMfsz, .int top, .int bgn, .int mst, .int (b2i ovr), .int (b2i tgr), .int lvs, .ref aMlkd, .ref aMlat, .ref aMkkd, .ref aMkat, .ref aModr, .ref aMgrp, .int its, .ref aMikd, .ref aMiat, .long hgh, .long loo, .int (b2i dfl)])), (aMst, .inl (cI, 136400, .inl st)), (aMdcs, .inl (cI, 2, .inl dcs)), (aMfrm, .inl (cI, 400, .inl frm)), (aMffr, .inl (cI, 200, .inl ffr)), (aMfsz, .inl (cI, 200, .inl fsz))] H → va_D A [(aM, .inr (11, [.int thr, .ref aMst, .int tpd, .ref aMdcs, .ref aMtot, .ref aMfrm, .ref aMsiz, .int frs, .int frt, .ref aMffr, .ref aMfsz, .int top, .int bgn, .int mst, .int (b2i ovr), .int (b2i tgr), .int lvs, .ref aMlkd, .ref aMlat, .ref aMkkd, .ref aMkat, .ref aModr, .ref aMgrp, .int its, .ref aMikd, .ref aMiat, .long hgh, .long loo, .int (b2i dfl)])), (aMst, .inl (cI, 136400, .inl st)), (aMdcs, .inl (cI, 2, .inl dcs)), (aMfrm, .inl (cI, 400, .inl frm)), (aMffr, .inl (cI, 200, .inl ffr)), (aMfsz, .inl (cI, 200, .inl fsz))] → va_S A s.heap H locs → ∀ ls : Array Slot, lv_has ls 6 [(0, .ref aM), (1, .int p0), (2, .int x2)] → W p l e ({ frames := 211, cells := 0, slots := 0, locals := 6320 }) s m args below meth c H locs 0 0 (MQ below (va_Qv (fun (u : Int32 × Int32 × Int32 × Int32 × Int32 × Bool × Bool × (Nat → Int32) × (Nat → Int32) × (Nat → Int32)) => u = V0) (mt_B D A (fun u => wd_MO_project aM aMst aMdcs aMtot aMfrm aMsiz aMffr aMfsz aMlkd aMlat aMkkd aMkat aModr aMgrp aMikd aMiat cB cI thr tpd lvs its hgh loo dfl dcs frm u.1 u.2.1 u.2.2.1 u.2.2.2.1 u.2.2.2.2.1 u.2.2.2.2.2.1 u.2.2.2.2.2.2.1 u.2.2.2.2.2.2.2.1 u.2.2.2.2.2.2.2.2.1 u.2.2.2.2.2.2.2.2.2)) A) args s 0 0 A) (F0 m 2 ls []) := by
  obtain ⟨hx, hb, hml, hr, hown, hlocks, hT⟩ := id C0
  have hK := hk.1
  have hN := hk.2.1
  intro n
  induction n with
  | zero =>
    intro x2 frs frt top bgn mst ovr tgr st ffr fsz hV
    exact op_no hs (hV.trans rfl)
  | succ n ih =>
    intro x2 frs frt top bgn mst ovr tgr st ffr fsz hV H locs hP hD hS ls hl
    refine lv_iload_n hx hb d_MO_project_2 rfl (lv_at hl 2 rfl) ?_
    refine lv_aload_n hx hb d_MO_project_3 rfl (lv_at hl 0 rfl) ?_
    refine va_get (D := D) (ci := 11) (v := .ref aMdcs) (C := R_MO) (T := T_MO) (N := 29) hx hb hT u_MO hown hK hP 0 rfl rfl 3 (by decide) (hT _ k_1046) (fun _ h9 => h9) rfl d_MO_project_4 ?_
    refine lv_iconst (v := 0) hx hb d_MO_project_7 (by decide) ?_
    refine va_iald hx hb hK hP 2 1 rfl rfl (by unfold vp_in; decide) d_MO_project_8 ?_
    refine lv_icmp_ge (tgt := 120) hx hb d_MO_project_9 (by decide) (fun c_1 => ?_) (fun c_1 => ?_)
    · exact hKx x2 frs frt top bgn mst ovr tgr st ffr fsz (by rw [hV, tw_MO_project_h2, if_pos c_1]) _ _ hP hD hS ls (lv_sub hl [] rfl)
    · refine lv_aload_n hx hb d_MO_project_12 rfl (lv_at hl 0 rfl) ?_
      rcases h_2 : tw_MO_beginDocument fu tgr top bgn mst ovr st with _ | w_2
      · exact op_no hs (by rw [hV, tw_MO_project_h2, if_neg c_1, h_2, ob6_no])
      refine mt_Vi (As := []) (rest := []) (wr := [(aMdcs, .inl (cI, 2, .inl dcs)), (aMfrm, .inl (cI, 400, .inl frm)), (aMffr, .inl (cI, 200, .inl ffr)), (aMfsz, .inl (cI, 200, .inl fsz))]) ⟨hx, hb, hml, hown, hT⟩ (c_MO_beginDocument l D cB cI aM aMst aMdcs aMtot aMfrm aMsiz aMffr aMfsz aMlkd aMlat aMkkd aMkat aModr aMgrp aMikd aMiat fu thr tpd frs frt tgr lvs its hgh loo dfl _ top bgn mst ovr st w_2 h_2) (cwV 0 hT (gV_of k_1310 k_1312 kp_MO_beginDocument k_12 kc_MO_beginDocument) rfl rfl rfl hd_MO_beginDocument ⟨Nat.le_of_ble_eq_true rfl, Nat.le_of_ble_eq_true rfl⟩) hk hP hD hS hA [0, 1] [2, 3, 4, 5] rfl rfl rfl (by decide) (by decide) (by decide) (q0 := 0) rfl rfl rfl rfl hl.1 rfl (Nat.le_of_ble_eq_true rfl) d_MO_project_13 ⟨Nat.zero_le _, Nat.zero_le _⟩ (fun r_2 u_2 H locs hw_2 hP hD hS => ?_)
      subst hw_2
      obtain ⟨top_2, bgn_2, mst_2, ovr_2, st_2⟩ := u_2
      have hP : va_P D vwCl [(aM, .inr (11, [.int thr, .ref aMst, .int tpd, .ref aMdcs, .ref aMtot, .ref aMfrm, .ref aMsiz, .int frs, .int frt, .ref aMffr, .ref aMfsz, .int top_2, .int bgn_2, .int mst_2, .int (b2i ovr_2), .int (b2i tgr), .int lvs, .ref aMlkd, .ref aMlat, .ref aMkkd, .ref aMkat, .ref aModr, .ref aMgrp, .int its, .ref aMikd, .ref aMiat, .long hgh, .long loo, .int (b2i dfl)])), (aMst, .inl (cI, 136400, .inl st_2)), (aMdcs, .inl (cI, 2, .inl dcs)), (aMfrm, .inl (cI, 400, .inl frm)), (aMffr, .inl (cI, 200, .inl ffr)), (aMfsz, .inl (cI, 200, .inl fsz))] H := hP.sub [4, 5, 0, 1, 2, 3] rfl
      have hD : va_D A [(aM, .inr (11, [.int thr, .ref aMst, .int tpd, .ref aMdcs, .ref aMtot, .ref aMfrm, .ref aMsiz, .int frs, .int frt, .ref aMffr, .ref aMfsz, .int top_2, .int bgn_2, .int mst_2, .int (b2i ovr_2), .int (b2i tgr), .int lvs, .ref aMlkd, .ref aMlat, .ref aMkkd, .ref aMkat, .ref aModr, .ref aMgrp, .int its, .ref aMikd, .ref aMiat, .long hgh, .long loo, .int (b2i dfl)])), (aMst, .inl (cI, 136400, .inl st_2)), (aMdcs, .inl (cI, 2, .inl dcs)), (aMfrm, .inl (cI, 400, .inl frm)), (aMffr, .inl (cI, 200, .inl ffr)), (aMfsz, .inl (cI, 200, .inl fsz))] := hD.sub [4, 5, 0, 1, 2, 3] (by decide) rfl
      refine lv_istore_n (lv' := [(3, .int r_2), (0, .ref aM), (1, .int p0), (2, .int x2)]) hx hb d_MO_project_16 rfl hl (by decide) rfl (fun ls hl => ?_)
      refine lv_aload_n hx hb d_MO_project_17 rfl (lv_at hl 1 rfl) ?_
      refine lv_iload_n hx hb d_MO_project_18 rfl (lv_at hl 2 rfl) ?_
      rcases h_3 : tw_MO_firstOf fu st_2 p0 with _ | r_3
      · exact op_no hs (by rw [hV, tw_MO_project_h2, if_neg c_1, h_2, ob6_mk, h_3, ob1_no])
      refine rd_V (val := r_3) (As := [.int p0]) (rest := []) ⟨hx, hb, hml, hown, hT⟩ (c_MO_firstOf l D cB cI aM aMst aMdcs aMtot aMfrm aMsiz aMffr aMfsz aMlkd aMlat aMkkd aMkat aModr aMgrp aMikd aMiat fu thr tpd frs frt top_2 bgn_2 mst_2 ovr_2 tgr lvs its hgh loo dfl st_2 p0 r_3 h_3) (cwV 1 hT (gV_of k_1196 k_1198 kp_MO_firstOf k_12 kc_MO_firstOf) rfl rfl rfl hd_MO_firstOf ⟨Nat.le_of_ble_eq_true rfl, Nat.le_of_ble_eq_true rfl⟩) hk (hP.sub (ws' := [(aM, .inr (11, [.int thr, .ref aMst, .int tpd, .ref aMdcs, .ref aMtot, .ref aMfrm, .ref aMsiz, .int frs, .int frt, .ref aMffr, .ref aMfsz, .int top_2, .int bgn_2, .int mst_2, .int (b2i ovr_2), .int (b2i tgr), .int lvs, .ref aMlkd, .ref aMlat, .ref aMkkd, .ref aMkat, .ref aModr, .ref aMgrp, .int its, .ref aMikd, .ref aMiat, .long hgh, .long loo, .int (b2i dfl)])), (aMst, .inl (cI, 136400, .inl st_2))]) [0, 1] rfl) (q0 := 0) rfl rfl rfl rfl hl.1 rfl (Nat.le_of_ble_eq_true rfl) d_MO_project_19 ⟨Nat.zero_le _, Nat.zero_le _⟩ ?_
      refine lv_istore (lv' := [(4, .int r_3), (3, .int r_2), (0, .ref aM), (1, .int p0), (2, .int x2)]) hx hb d_MO_project_22 hl (by decide) rfl (fun ls hl => ?_)
      refine l_MO_project_h24 C0 hs l D cB cI aM aMst aMdcs aMtot aMfrm aMsiz aMffr aMfsz aMlkd aMlat aMkkd aMkat aModr aMgrp aMikd aMiat fu thr tpd lvs its hgh loo dfl dcs frm hk hA p0 x2 r_2  (K := (fun (x4_21 : Int32) (frs_21 : Int32) (frt_21 : Int32) (top_21 : Int32) (bgn_21 : Int32) (mst_21 : Int32) (ovr_21 : Bool) (tgr_21 : Bool) (st_21 : Nat → Int32) (ffr_21 : Nat → Int32) (fsz_21 : Nat → Int32) =>
          ob8 (tw_MO_endDocument fu bgn_21 mst_21 frs_21 frt_21 top_21 ovr_21 tgr_21 st_21 ffr_21 fsz_21 r_2) (fun frs_22 frt_22 top_22 ovr_22 tgr_22 st_22 ffr_22 fsz_22 =>
            tw_MO_project_h2 fu dcs frm K p0 n (x2 + 1) frs_22 frt_22 top_22 bgn_21 mst_21 ovr_22 tgr_22 st_22 ffr_22 fsz_22))) ?_ fu r_3 frs frt top_2 bgn_2 mst_2 ovr_2 tgr st_2 ffr fsz  (by rw [hV, tw_MO_project_h2, if_neg c_1, h_2, ob6_mk, h_3, ob1_mk]) _ _ hP hD hS ls (lv_sub hl [2, 3, 4, 1, 0] rfl)
      intro x4_21 frs_21 frt_21 top_21 bgn_21 mst_21 ovr_21 tgr_21 st_21 ffr_21 fsz_21 hV_21 H locs hP hD hS ls hl
      refine lv_aload_n hx hb d_MO_project_109 rfl (lv_at hl 0 rfl) ?_
      refine lv_iload_n hx hb d_MO_project_110 rfl (lv_at hl 3 rfl) ?_
      rcases h_22 : tw_MO_endDocument fu bgn_21 mst_21 frs_21 frt_21 top_21 ovr_21 tgr_21 st_21 ffr_21 fsz_21 r_2 with _ | w_22
      · exact op_no hs (by rw [hV_21, h_22, ob8_no])
      refine mt_Vv (As := [.int r_2]) (rest := []) (wr := [(aMdcs, .inl (cI, 2, .inl dcs)), (aMfrm, .inl (cI, 400, .inl frm))]) ⟨hx, hb, hml, hown, hT⟩ (c_MO_endDocument l D cB cI aM aMst aMdcs aMtot aMfrm aMsiz aMffr aMfsz aMlkd aMlat aMkkd aMkat aModr aMgrp aMikd aMiat fu thr tpd bgn_21 mst_21 lvs its hgh loo dfl _ frs_21 frt_21 top_21 ovr_21 tgr_21 st_21 ffr_21 fsz_21 r_2 w_22 h_22) (cwV 1 hT (gV_of k_1379 k_1381 kp_MO_endDocument k_12 kc_MO_endDocument) rfl rfl rfl hd_MO_endDocument ⟨Nat.le_of_ble_eq_true rfl, Nat.le_of_ble_eq_true rfl⟩) hk hP hD hS hA [0, 1, 4, 5] [2, 3] rfl rfl rfl (by decide) (by decide) (by decide) (q0 := 0) rfl rfl rfl rfl hl.1 rfl (Nat.le_of_ble_eq_true rfl) d_MO_project_111 ⟨Nat.zero_le _, Nat.zero_le _⟩ (fun u_22 H locs hw_22 hP hD hS => ?_)
      subst hw_22
      obtain ⟨frs_22, frt_22, top_22, ovr_22, tgr_22, st_22, ffr_22, fsz_22⟩ := u_22
      have hP : va_P D vwCl [(aM, .inr (11, [.int thr, .ref aMst, .int tpd, .ref aMdcs, .ref aMtot, .ref aMfrm, .ref aMsiz, .int frs_22, .int frt_22, .ref aMffr, .ref aMfsz, .int top_22, .int bgn_21, .int mst_21, .int (b2i ovr_22), .int (b2i tgr_22), .int lvs, .ref aMlkd, .ref aMlat, .ref aMkkd, .ref aMkat, .ref aModr, .ref aMgrp, .int its, .ref aMikd, .ref aMiat, .long hgh, .long loo, .int (b2i dfl)])), (aMst, .inl (cI, 136400, .inl st_22)), (aMdcs, .inl (cI, 2, .inl dcs)), (aMfrm, .inl (cI, 400, .inl frm)), (aMffr, .inl (cI, 200, .inl ffr_22)), (aMfsz, .inl (cI, 200, .inl fsz_22))] H := hP.sub [2, 3, 0, 1, 4, 5] rfl
      have hD : va_D A [(aM, .inr (11, [.int thr, .ref aMst, .int tpd, .ref aMdcs, .ref aMtot, .ref aMfrm, .ref aMsiz, .int frs_22, .int frt_22, .ref aMffr, .ref aMfsz, .int top_22, .int bgn_21, .int mst_21, .int (b2i ovr_22), .int (b2i tgr_22), .int lvs, .ref aMlkd, .ref aMlat, .ref aMkkd, .ref aMkat, .ref aModr, .ref aMgrp, .int its, .ref aMikd, .ref aMiat, .long hgh, .long loo, .int (b2i dfl)])), (aMst, .inl (cI, 136400, .inl st_22)), (aMdcs, .inl (cI, 2, .inl dcs)), (aMfrm, .inl (cI, 400, .inl frm)), (aMffr, .inl (cI, 200, .inl ffr_22)), (aMfsz, .inl (cI, 200, .inl fsz_22))] := hD.sub [2, 3, 0, 1, 4, 5] (by decide) rfl
      refine lv_iinc (v := x2 + 1) (lv' := [(2, .int (x2 + 1)), (0, .ref aM), (1, .int p0), (3, .int r_2)]) hx hb d_MO_project_114 hl (k := 2) rfl rfl (by decide) rfl (fun ls hl => ?_)
      refine lv_goto (tgt := 2) hx hb d_MO_project_117 (by decide) ?_
      exact ih (x2 + 1) frs_22 frt_22 top_22 bgn_21 mst_21 ovr_22 tgr_22 st_22 ffr_22 fsz_22 (by rw [hV_21, h_22, ob8_mk]) _ _ hP hD hS ls (lv_sub hl [1, 2, 0] rfl)
set_option maxHeartbeats 4000000 in
set_option maxRecDepth 100000 in
theorem c_MO_project (l : Launch) (D : va_G) (cB cI : ClassId) (aM aMst aMdcs aMtot aMfrm aMsiz aMffr aMfsz aMlkd aMlat aMkkd aMkat aModr aMgrp aMikd aMiat : Nat) (fu : Nat) (thr : Int32) (tpd : Int32) (lvs : Int32) (its : Int32) (hgh : Int64) (loo : Int64) (dfl : Bool) (dcs : Nat → Int32) (frm : Nat → Int32) (sz : Nat) (frs : Int32) (frt : Int32) (top : Int32) (bgn : Int32) (mst : Int32) (ovr : Bool) (tgr : Bool) (st : Nat → Int32) (ffr : Nat → Int32) (fsz : Nat → Int32) (p0 : Int32) (V0 : Int32 × Int32 × Int32 × Int32 × Int32 × Bool × Bool × (Nat → Int32) × (Nat → Int32) × (Nat → Int32)) (hs : tw_MO_project fu dcs frm frs frt top bgn mst ovr tgr st ffr fsz p0 = some V0) : Met l y_MO_project mw_MO_project { frames := 211, cells := 0, slots := 0, locals := 6320 } (va_Pc [.ref aM, .int p0] (mt_P D cB cI (wd_MO_project aM aMst aMdcs aMtot aMfrm aMsiz aMffr aMfsz aMlkd aMlat aMkkd aMkat aModr aMgrp aMikd aMiat cB cI thr tpd lvs its hgh loo dfl dcs frm frs frt top bgn mst ovr tgr st ffr fsz) sz)) (va_Qv (fun (u : Int32 × Int32 × Int32 × Int32 × Int32 × Bool × Bool × (Nat → Int32) × (Nat → Int32) × (Nat → Int32)) => u = V0) (mt_B D (va_A (wd_MO_project aM aMst aMdcs aMtot aMfrm aMsiz aMffr aMfsz aMlkd aMlat aMkkd aMkat aModr aMgrp aMikd aMiat cB cI thr tpd lvs its hgh loo dfl dcs frm frs frt top bgn mst ovr tgr st ffr fsz) sz) (fun u => wd_MO_project aM aMst aMdcs aMtot aMfrm aMsiz aMffr aMfsz aMlkd aMlat aMkkd aMkat aModr aMgrp aMikd aMiat cB cI thr tpd lvs its hgh loo dfl dcs frm u.1 u.2.1 u.2.2.1 u.2.2.2.1 u.2.2.2.2.1 u.2.2.2.2.2.1 u.2.2.2.2.2.2.1 u.2.2.2.2.2.2.2.1 u.2.2.2.2.2.2.2.2.1 u.2.2.2.2.2.2.2.2.2)) (va_A (wd_MO_project aM aMst aMdcs aMtot aMfrm aMsiz aMffr aMfsz aMlkd aMlat aMkkd aMkat aModr aMgrp aMikd aMiat cB cI thr tpd lvs its hgh loo dfl dcs frm frs frt top bgn mst ovr tgr st ffr fsz) sz)) 0 0 (va_A (wd_MO_project aM aMst aMdcs aMtot aMfrm aMsiz aMffr aMfsz aMlkd aMlat aMkkd aMkat aModr aMgrp aMikd aMiat cB cI thr tpd lvs its hgh loo dfl dcs frm frs frt top bgn mst ovr tgr st ffr fsz) sz) := by
  refine Met.ofW (cc := b_MO_project) (maxL := 6) (ret := none) (by decide) rfl ?_
  intro p e s m args below meth c s₁ B0 hml hv
  obtain ⟨rfl, hsz, hP, hk, hD0⟩ := hv
  have hK := hk.1
  have hN := hk.2.1
  have hx := B0.exec
  have hb := B0.bytes
  have hr := B0.returns
  have hT : ∀ w ∈ lw_g, w.before _ s = true := fun w h => atoms_spec (ws := mw_MO_project) B0.pre w (List.mem_cons_of_mem _ h)
  have hown : s.vm.findClass R_MO = some m.cls := findClass_of_methodNamed B0.named
  have hlocks := B0.notSynchronized
  subst hsz
  have hD := hD0.self (sz := s.heap.size)
  generalize hAe : va_A [(aM, .inr (11, [.int thr, .ref aMst, .int tpd, .ref aMdcs, .ref aMtot, .ref aMfrm, .ref aMsiz, .int frs, .int frt, .ref aMffr, .ref aMfsz, .int top, .int bgn, .int mst, .int (b2i ovr), .int (b2i tgr), .int lvs, .ref aMlkd, .ref aMlat, .ref aMkkd, .ref aMkat, .ref aModr, .ref aMgrp, .int its, .ref aMikd, .ref aMiat, .long hgh, .long loo, .int (b2i dfl)])), (aMst, .inl (cI, 136400, .inl st)), (aMdcs, .inl (cI, 2, .inl dcs)), (aMfrm, .inl (cI, 400, .inl frm)), (aMffr, .inl (cI, 200, .inl ffr)), (aMfsz, .inl (cI, 200, .inl fsz))] s.heap.size = A at hD ⊢
  have hA : ∀ q : Nat, s.heap.size ≤ q → A q := fun q h => by rw [← hAe]; exact Or.inr h
  have hS : va_S A s.heap s.heap [] := va_S.rf
  have hl := lv_entry ([.ref aM, .int p0]) (n := 6) (Nat.le_of_ble_eq_true rfl)
  rw [lg_entry_eq]
  generalize (lg_sl ([.ref aM, .int p0]) ++ List.replicate (6 - (lg_sl ([.ref aM, .int p0])).length) Slot.unset).toArray = ls at hl ⊢
  have hl : lv_has ls 6 [(0, .ref aM), (1, .int p0)] := hl
  have C0 : lc_C p s m meth c _ b_MO_project 6 none R_MO lw_g := ⟨hx, hb, hml, hr, hown, hlocks, hT⟩
  refine lv_iconst (v := 0) hx hb d_MO_project_0 (by decide) ?_
  refine lv_istore_n (lv' := [(2, .int 0), (0, .ref aM), (1, .int p0)]) hx hb d_MO_project_1 rfl hl (by decide) rfl (fun ls hl => ?_)
  refine l_MO_project_h2 C0 hs l D cB cI aM aMst aMdcs aMtot aMfrm aMsiz aMffr aMfsz aMlkd aMlat aMkkd aMkat aModr aMgrp aMikd aMiat fu thr tpd lvs its hgh loo dfl dcs frm hk hA p0  (K := (fun (x2_23 : Int32) (frs_23 : Int32) (frt_23 : Int32) (top_23 : Int32) (bgn_23 : Int32) (mst_23 : Int32) (ovr_23 : Bool) (tgr_23 : Bool) (st_23 : Nat → Int32) (ffr_23 : Nat → Int32) (fsz_23 : Nat → Int32) =>
      some (frs_23, frt_23, top_23, bgn_23, mst_23, ovr_23, tgr_23, st_23, ffr_23, fsz_23))) ?_ fu 0 frs frt top bgn mst ovr tgr st ffr fsz  (by rw [tw_MO_project]) _ _ hP hD hS ls (lv_sub hl [1, 2, 0] rfl)
  intro x2_23 frs_23 frt_23 top_23 bgn_23 mst_23 ovr_23 tgr_23 st_23 ffr_23 fsz_23 hV_23 H locs hP hD hS ls hl
  exact W.vret hx hb hr (fun t ht hW => ⟨⟨(frs_23, frt_23, top_23, bgn_23, mst_23, ovr_23, tgr_23, st_23, ffr_23, fsz_23), rfl, (op_eq hs (by rw [hV_23])), by rw [ht]; exact hP, hD⟩, hS.F ht⟩) hS.2.2 d_MO_project_120
abbrev wd_MO_unwind (aM aMst aMdcs aMtot aMfrm aMsiz aMffr aMfsz aMlkd aMlat aMkkd aMkat aModr aMgrp aMikd aMiat : Nat) (cB cI : ClassId) (thr : Int32) (tpd : Int32) (lvs : Int32) (its : Int32) (hgh : Int64) (loo : Int64) (dfl : Bool) (dcs : Nat → Int32) (frm : Nat → Int32) (siz : Nat → Int32) (frs : Int32) (frt : Int32) (top : Int32) (bgn : Int32) (mst : Int32) (ovr : Bool) (tgr : Bool) (st : Nat → Int32) (ffr : Nat → Int32) (fsz : Nat → Int32) : va_W := [(aM, .inr (11, [.int thr, .ref aMst, .int tpd, .ref aMdcs, .ref aMtot, .ref aMfrm, .ref aMsiz, .int frs, .int frt, .ref aMffr, .ref aMfsz, .int top, .int bgn, .int mst, .int (b2i ovr), .int (b2i tgr), .int lvs, .ref aMlkd, .ref aMlat, .ref aMkkd, .ref aMkat, .ref aModr, .ref aMgrp, .int its, .ref aMikd, .ref aMiat, .long hgh, .long loo, .int (b2i dfl)])), (aMst, .inl (cI, 136400, .inl st)), (aMdcs, .inl (cI, 2, .inl dcs)), (aMfrm, .inl (cI, 400, .inl frm)), (aMsiz, .inl (cI, 400, .inl siz)), (aMffr, .inl (cI, 200, .inl ffr)), (aMfsz, .inl (cI, 200, .inl fsz))]
set_option maxHeartbeats 4000000 in
set_option maxRecDepth 100000 in
theorem l_MO_unwind_r34 {p : Program} {e : Env} {s : State} {m : MethodId} {args : Array Value} {below : List Frame} {meth : Method} {c : Code} {V : Option (Int32 × Int32 × Int32 × Int32 × Int32 × Bool × Bool × (Nat → Int32) × (Nat → Int32) × (Nat → Int32))} {V0 : Int32 × Int32 × Int32 × Int32 × Int32 × Bool × Bool × (Nat → Int32) × (Nat → Int32) × (Nat → Int32)} (C0 : lc_C p s m meth c args b_MO_unwind 8 none R_MO lw_g) (hs : V = some V0) (l : Launch) (D : va_G) (cB cI : ClassId) (aM aMst aMdcs aMtot aMfrm aMsiz aMffr aMfsz aMlkd aMlat aMkkd aMkat aModr aMgrp aMikd aMiat : Nat) (fu : Nat) (thr : Int32) (tpd : Int32) (lvs : Int32) (its : Int32) (hgh : Int64) (loo : Int64) (dfl : Bool) (dcs : Nat → Int32) (frm : Nat → Int32) (siz : Nat → Int32)  {A : Nat → Prop} (hk : hk_ D cB cI s) (hA : ∀ q : Nat, s.heap.size ≤ q → A q) (x1 : Int32) (x2 : Int32) (x3 : Int32) (x4 : Int32) (x5 : Int32) (frs : Int32) (frt : Int32) (top : Int32) (bgn : Int32) (mst : Int32) (ovr : Bool) (tgr : Bool) (st : Nat → Int32) (ffr : Nat → Int32) (fsz : Nat → Int32) {K : Int32 → Int32 → Int32 → Int32 → Int32 → Int32 → Bool → Bool → (Nat → Int32) → (Nat → Int32) → (Nat → Int32) → Option (Int32 × Int32 × Int32 × Int32 × Int32 × Bool × Bool × (Nat → Int32) × (Nat → Int32) × (Nat → Int32))} (hKx : ∀ (y6 : Int32) (frs' : Int32) (frt' : Int32) (top' : Int32) (bgn' : Int32) (mst' : Int32) (ovr' : Bool) (tgr' : Bool) (st' : Nat → Int32) (ffr' : Nat → Int32) (fsz' : Nat → Int32), V = K y6 frs' frt' top' bgn' mst' ovr' tgr' st' ffr' fsz' → ∀ (H : Heap) (locs : List Loc), va_P D vwCl [(aM, .inr (11, [.int thr, .ref aMst, .int tpd, .ref aMdcs, .ref aMtot, .ref aMfrm, .ref aMsiz, .int frs', .int frt', .ref aMffr, .ref aMfsz, .int top', .int bgn', .int mst', .int (b2i ovr'), .int (b2i tgr'), .int lvs, .ref aMlkd, .ref aMlat, .ref aMkkd, .ref aMkat, .ref aModr, .ref aMgrp, .int its, .ref aMikd, .ref aMiat, .long hgh, .long loo, .int (b2i dfl)])), (aMst, .inl (cI, 136400, .inl st')), (aMdcs, .inl (cI, 2, .inl dcs)), (aMfrm, .inl (cI, 400, .inl frm)), (aMsiz, .inl (cI, 400, .inl siz)), (aMffr, .inl (cI, 200, .inl ffr')), (aMfsz, .inl (cI, 200, .inl fsz'))] H → va_D A [(aM, .inr (11, [.int thr, .ref aMst, .int tpd, .ref aMdcs, .ref aMtot, .ref aMfrm, .ref aMsiz, .int frs', .int frt', .ref aMffr, .ref aMfsz, .int top', .int bgn', .int mst', .int (b2i ovr'), .int (b2i tgr'), .int lvs, .ref aMlkd, .ref aMlat, .ref aMkkd, .ref aMkat, .ref aModr, .ref aMgrp, .int its, .ref aMikd, .ref aMiat, .long hgh, .long loo, .int (b2i dfl)])), (aMst, .inl (cI, 136400, .inl st')), (aMdcs, .inl (cI, 2, .inl dcs)), (aMfrm, .inl (cI, 400, .inl frm)), (aMsiz, .inl (cI, 400, .inl siz)), (aMffr, .inl (cI, 200, .inl ffr')), (aMfsz, .inl (cI, 200, .inl fsz'))] → va_S A s.heap H locs → ∀ ls : Array Slot, lv_has ls 8 [(0, .ref aM), (1, .int x1), (2, .int x2), (5, .int x5), (6, .int y6)] → W p l e ({ frames := 163, cells := 0, slots := 0, locals := 4870 }) s m args below meth c H locs 0 0 (MQ below (va_Qv (fun (u : Int32 × Int32 × Int32 × Int32 × Int32 × Bool × Bool × (Nat → Int32) × (Nat → Int32) × (Nat → Int32)) => u = V0) (mt_B D A (fun u => wd_MO_unwind aM aMst aMdcs aMtot aMfrm aMsiz aMffr aMfsz aMlkd aMlat aMkkd aMkat aModr aMgrp aMikd aMiat cB cI thr tpd lvs its hgh loo dfl dcs frm siz u.1 u.2.1 u.2.2.1 u.2.2.2.1 u.2.2.2.2.1 u.2.2.2.2.2.1 u.2.2.2.2.2.2.1 u.2.2.2.2.2.2.2.1 u.2.2.2.2.2.2.2.2.1 u.2.2.2.2.2.2.2.2.2)) A) args s 0 0 A) (F0 m 53 ls [])) (hV : V = tw_MO_unwind_r34 fu dcs frm siz K x1 x2 x3 x4 x5 frs frt top bgn mst ovr tgr st ffr fsz) : ∀ (H : Heap) (locs : List Loc), va_P D vwCl [(aM, .inr (11, [.int thr, .ref aMst, .int tpd, .ref aMdcs, .ref aMtot, .ref aMfrm, .ref aMsiz, .int frs, .int frt, .ref aMffr, .ref aMfsz, .int top, .int bgn, .int mst, .int (b2i ovr), .int (b2i tgr), .int lvs, .ref aMlkd, .ref aMlat, .ref aMkkd, .ref aMkat, .ref aModr, .ref aMgrp, .int its, .ref aMikd, .ref aMiat, .long hgh, .long loo, .int (b2i dfl)])), (aMst, .inl (cI, 136400, .inl st)), (aMdcs, .inl (cI, 2, .inl dcs)), (aMfrm, .inl (cI, 400, .inl frm)), (aMsiz, .inl (cI, 400, .inl siz)), (aMffr, .inl (cI, 200, .inl ffr)), (aMfsz, .inl (cI, 200, .inl fsz))] H → va_D A [(aM, .inr (11, [.int thr, .ref aMst, .int tpd, .ref aMdcs, .ref aMtot, .ref aMfrm, .ref aMsiz, .int frs, .int frt, .ref aMffr, .ref aMfsz, .int top, .int bgn, .int mst, .int (b2i ovr), .int (b2i tgr), .int lvs, .ref aMlkd, .ref aMlat, .ref aMkkd, .ref aMkat, .ref aModr, .ref aMgrp, .int its, .ref aMikd, .ref aMiat, .long hgh, .long loo, .int (b2i dfl)])), (aMst, .inl (cI, 136400, .inl st)), (aMdcs, .inl (cI, 2, .inl dcs)), (aMfrm, .inl (cI, 400, .inl frm)), (aMsiz, .inl (cI, 400, .inl siz)), (aMffr, .inl (cI, 200, .inl ffr)), (aMfsz, .inl (cI, 200, .inl fsz))] → va_S A s.heap H locs → ∀ ls : Array Slot, lv_has ls 8 [(0, .ref aM), (1, .int x1), (2, .int x2), (3, .int x3), (4, .int x4), (5, .int x5)] → W p l e ({ frames := 163, cells := 0, slots := 0, locals := 4870 }) s m args below meth c H locs 0 0 (MQ below (va_Qv (fun (u : Int32 × Int32 × Int32 × Int32 × Int32 × Bool × Bool × (Nat → Int32) × (Nat → Int32) × (Nat → Int32)) => u = V0) (mt_B D A (fun u => wd_MO_unwind aM aMst aMdcs aMtot aMfrm aMsiz aMffr aMfsz aMlkd aMlat aMkkd aMkat aModr aMgrp aMikd aMiat cB cI thr tpd lvs its hgh loo dfl dcs frm siz u.1 u.2.1 u.2.2.1 u.2.2.2.1 u.2.2.2.2.1 u.2.2.2.2.2.1 u.2.2.2.2.2.2.1 u.2.2.2.2.2.2.2.1 u.2.2.2.2.2.2.2.2.1 u.2.2.2.2.2.2.2.2.2)) A) args s 0 0 A) (F0 m 34 ls []) := by
  obtain ⟨hx, hb, hml, hr, hown, hlocks, hT⟩ := id C0
  have hK := hk.1
  have hN := hk.2.1
  intro H locs hP hD hS ls hl
  refine lv_iload_n hx hb d_MO_unwind_34 rfl (lv_at hl 3 rfl) ?_
  refine lv_iconst (v := 3) hx hb d_MO_unwind_35 (by decide) ?_
  refine lv_icmp_ne (tgt := 50) hx hb d_MO_unwind_36 (by decide) (fun c_5 => ?_) (fun c_5 => ?_)
  · refine lv_iconst (v := 0) hx hb d_MO_unwind_50 (by decide) ?_
    refine lv_istore (lv' := [(6, .int 0), (0, .ref aM), (1, .int x1), (2, .int x2), (3, .int x3), (4, .int x4), (5, .int x5)]) hx hb d_MO_unwind_51 hl (by decide) rfl (fun ls hl => ?_)
    exact hKx 0 frs frt top bgn mst ovr tgr st ffr fsz (by rw [hV, tw_MO_unwind_r34, if_neg c_5]) _ _ hP hD hS ls (lv_sub hl [1, 2, 3, 6, 0] rfl)
  · refine lv_aload_n hx hb d_MO_unwind_39 rfl (lv_at hl 0 rfl) ?_
    refine lv_iload hx hb d_MO_unwind_40 (lv_at hl 4 rfl) ?_
    refine lv_iload hx hb d_MO_unwind_42 (lv_at hl 5 rfl) ?_
    rcases h_6 : tw_MO_met fu st x4 x5 with _ | r_6
    · exact op_no hs (by rw [hV, tw_MO_unwind_r34, if_pos c_5, h_6, ob1_no])
    refine rd_V (val := r_6) (As := [.int x4, .int x5]) (rest := []) ⟨hx, hb, hml, hown, hT⟩ (c_MO_met l D cB cI aM aMst aMdcs aMtot aMfrm aMsiz aMffr aMfsz aMlkd aMlat aMkkd aMkat aModr aMgrp aMikd aMiat fu thr tpd frs frt top bgn mst ovr tgr lvs its hgh loo dfl st x4 x5 r_6 h_6) (cwV 2 hT (gV_of k_1355 k_1357 kp_MO_met k_12 kc_MO_met) rfl rfl rfl hd_MO_met ⟨Nat.le_of_ble_eq_true rfl, Nat.le_of_ble_eq_true rfl⟩) hk (hP.sub (ws' := [(aM, .inr (11, [.int thr, .ref aMst, .int tpd, .ref aMdcs, .ref aMtot, .ref aMfrm, .ref aMsiz, .int frs, .int frt, .ref aMffr, .ref aMfsz, .int top, .int bgn, .int mst, .int (b2i ovr), .int (b2i tgr), .int lvs, .ref aMlkd, .ref aMlat, .ref aMkkd, .ref aMkat, .ref aModr, .ref aMgrp, .int its, .ref aMikd, .ref aMiat, .long hgh, .long loo, .int (b2i dfl)])), (aMst, .inl (cI, 136400, .inl st))]) [0, 1] rfl) (q0 := 0) rfl rfl rfl rfl hl.1 rfl (Nat.le_of_ble_eq_true rfl) d_MO_unwind_44 ⟨Nat.zero_le _, Nat.zero_le _⟩ ?_
    refine lv_goto (tgt := 51) hx hb d_MO_unwind_47 (by decide) ?_
    refine lv_istore (lv' := [(6, .int r_6), (0, .ref aM), (1, .int x1), (2, .int x2), (3, .int x3), (4, .int x4), (5, .int x5)]) hx hb d_MO_unwind_51 hl (by decide) rfl (fun ls hl => ?_)
    exact hKx r_6 frs frt top bgn mst ovr tgr st ffr fsz (by rw [hV, tw_MO_unwind_r34, if_pos c_5, h_6, ob1_mk]) _ _ hP hD hS ls (lv_sub hl [1, 2, 3, 6, 0] rfl)
set_option maxHeartbeats 4000000 in
set_option maxRecDepth 100000 in
theorem l_MO_unwind_r70 {p : Program} {e : Env} {s : State} {m : MethodId} {args : Array Value} {below : List Frame} {meth : Method} {c : Code} {V : Option (Int32 × Int32 × Int32 × Int32 × Int32 × Bool × Bool × (Nat → Int32) × (Nat → Int32) × (Nat → Int32))} {V0 : Int32 × Int32 × Int32 × Int32 × Int32 × Bool × Bool × (Nat → Int32) × (Nat → Int32) × (Nat → Int32)} (C0 : lc_C p s m meth c args b_MO_unwind 8 none R_MO lw_g) (hs : V = some V0) (l : Launch) (D : va_G) (cB cI : ClassId) (aM aMst aMdcs aMtot aMfrm aMsiz aMffr aMfsz aMlkd aMlat aMkkd aMkat aModr aMgrp aMikd aMiat : Nat) (fu : Nat) (thr : Int32) (tpd : Int32) (lvs : Int32) (its : Int32) (hgh : Int64) (loo : Int64) (dfl : Bool) (dcs : Nat → Int32) (frm : Nat → Int32) (siz : Nat → Int32)  {A : Nat → Prop} (hk : hk_ D cB cI s) (hA : ∀ q : Nat, s.heap.size ≤ q → A q) (x1 : Int32) (x2 : Int32) (x3 : Int32) (x5 : Int32) (x6 : Int32) (frs : Int32) (frt : Int32) (top : Int32) (bgn : Int32) (mst : Int32) (ovr : Bool) (tgr : Bool) (st : Nat → Int32) (ffr : Nat → Int32) (fsz : Nat → Int32) {K : Int32 → Int32 → Int32 → Int32 → Int32 → Int32 → Bool → Bool → (Nat → Int32) → (Nat → Int32) → (Nat → Int32) → Option (Int32 × Int32 × Int32 × Int32 × Int32 × Bool × Bool × (Nat → Int32) × (Nat → Int32) × (Nat → Int32))} (hKx : ∀ (y4 : Int32) (frs' : Int32) (frt' : Int32) (top' : Int32) (bgn' : Int32) (mst' : Int32) (ovr' : Bool) (tgr' : Bool) (st' : Nat → Int32) (ffr' : Nat → Int32) (fsz' : Nat → Int32), V = K y4 frs' frt' top' bgn' mst' ovr' tgr' st' ffr' fsz' → ∀ (H : Heap) (locs : List Loc), va_P D vwCl [(aM, .inr (11, [.int thr, .ref aMst, .int tpd, .ref aMdcs, .ref aMtot, .ref aMfrm, .ref aMsiz, .int frs', .int frt', .ref aMffr, .ref aMfsz, .int top', .int bgn', .int mst', .int (b2i ovr'), .int (b2i tgr'), .int lvs, .ref aMlkd, .ref aMlat, .ref aMkkd, .ref aMkat, .ref aModr, .ref aMgrp, .int its, .ref aMikd, .ref aMiat, .long hgh, .long loo, .int (b2i dfl)])), (aMst, .inl (cI, 136400, .inl st')), (aMdcs, .inl (cI, 2, .inl dcs)), (aMfrm, .inl (cI, 400, .inl frm)), (aMsiz, .inl (cI, 400, .inl siz)), (aMffr, .inl (cI, 200, .inl ffr')), (aMfsz, .inl (cI, 200, .inl fsz'))] H → va_D A [(aM, .inr (11, [.int thr, .ref aMst, .int tpd, .ref aMdcs, .ref aMtot, .ref aMfrm, .ref aMsiz, .int frs', .int frt', .ref aMffr, .ref aMfsz, .int top', .int bgn', .int mst', .int (b2i ovr'), .int (b2i tgr'), .int lvs, .ref aMlkd, .ref aMlat, .ref aMkkd, .ref aMkat, .ref aModr, .ref aMgrp, .int its, .ref aMikd, .ref aMiat, .long hgh, .long loo, .int (b2i dfl)])), (aMst, .inl (cI, 136400, .inl st')), (aMdcs, .inl (cI, 2, .inl dcs)), (aMfrm, .inl (cI, 400, .inl frm)), (aMsiz, .inl (cI, 400, .inl siz)), (aMffr, .inl (cI, 200, .inl ffr')), (aMfsz, .inl (cI, 200, .inl fsz'))] → va_S A s.heap H locs → ∀ ls : Array Slot, lv_has ls 8 [(0, .ref aM), (1, .int x1), (2, .int x2), (3, .int x3), (4, .int y4), (5, .int x5)] → W p l e ({ frames := 163, cells := 0, slots := 0, locals := 4870 }) s m args below meth c H locs 0 0 (MQ below (va_Qv (fun (u : Int32 × Int32 × Int32 × Int32 × Int32 × Bool × Bool × (Nat → Int32) × (Nat → Int32) × (Nat → Int32)) => u = V0) (mt_B D A (fun u => wd_MO_unwind aM aMst aMdcs aMtot aMfrm aMsiz aMffr aMfsz aMlkd aMlat aMkkd aMkat aModr aMgrp aMikd aMiat cB cI thr tpd lvs its hgh loo dfl dcs frm siz u.1 u.2.1 u.2.2.1 u.2.2.2.1 u.2.2.2.2.1 u.2.2.2.2.2.1 u.2.2.2.2.2.2.1 u.2.2.2.2.2.2.2.1 u.2.2.2.2.2.2.2.2.1 u.2.2.2.2.2.2.2.2.2)) A) args s 0 0 A) (F0 m 87 ls [])) (hV : V = tw_MO_unwind_r70 fu dcs frm siz K x1 x2 x3 x5 x6 frs frt top bgn mst ovr tgr st ffr fsz) : ∀ (H : Heap) (locs : List Loc), va_P D vwCl [(aM, .inr (11, [.int thr, .ref aMst, .int tpd, .ref aMdcs, .ref aMtot, .ref aMfrm, .ref aMsiz, .int frs, .int frt, .ref aMffr, .ref aMfsz, .int top, .int bgn, .int mst, .int (b2i ovr), .int (b2i tgr), .int lvs, .ref aMlkd, .ref aMlat, .ref aMkkd, .ref aMkat, .ref aModr, .ref aMgrp, .int its, .ref aMikd, .ref aMiat, .long hgh, .long loo, .int (b2i dfl)])), (aMst, .inl (cI, 136400, .inl st)), (aMdcs, .inl (cI, 2, .inl dcs)), (aMfrm, .inl (cI, 400, .inl frm)), (aMsiz, .inl (cI, 400, .inl siz)), (aMffr, .inl (cI, 200, .inl ffr)), (aMfsz, .inl (cI, 200, .inl fsz))] H → va_D A [(aM, .inr (11, [.int thr, .ref aMst, .int tpd, .ref aMdcs, .ref aMtot, .ref aMfrm, .ref aMsiz, .int frs, .int frt, .ref aMffr, .ref aMfsz, .int top, .int bgn, .int mst, .int (b2i ovr), .int (b2i tgr), .int lvs, .ref aMlkd, .ref aMlat, .ref aMkkd, .ref aMkat, .ref aModr, .ref aMgrp, .int its, .ref aMikd, .ref aMiat, .long hgh, .long loo, .int (b2i dfl)])), (aMst, .inl (cI, 136400, .inl st)), (aMdcs, .inl (cI, 2, .inl dcs)), (aMfrm, .inl (cI, 400, .inl frm)), (aMsiz, .inl (cI, 400, .inl siz)), (aMffr, .inl (cI, 200, .inl ffr)), (aMfsz, .inl (cI, 200, .inl fsz))] → va_S A s.heap H locs → ∀ ls : Array Slot, lv_has ls 8 [(0, .ref aM), (1, .int x1), (2, .int x2), (3, .int x3), (5, .int x5), (6, .int x6)] → W p l e ({ frames := 163, cells := 0, slots := 0, locals := 4870 }) s m args below meth c H locs 0 0 (MQ below (va_Qv (fun (u : Int32 × Int32 × Int32 × Int32 × Int32 × Bool × Bool × (Nat → Int32) × (Nat → Int32) × (Nat → Int32)) => u = V0) (mt_B D A (fun u => wd_MO_unwind aM aMst aMdcs aMtot aMfrm aMsiz aMffr aMfsz aMlkd aMlat aMkkd aMkat aModr aMgrp aMikd aMiat cB cI thr tpd lvs its hgh loo dfl dcs frm siz u.1 u.2.1 u.2.2.1 u.2.2.2.1 u.2.2.2.2.1 u.2.2.2.2.2.1 u.2.2.2.2.2.2.1 u.2.2.2.2.2.2.2.1 u.2.2.2.2.2.2.2.2.1 u.2.2.2.2.2.2.2.2.2)) A) args s 0 0 A) (F0 m 70 ls []) := by
  obtain ⟨hx, hb, hml, hr, hown, hlocks, hT⟩ := id C0
  have hK := hk.1
  have hN := hk.2.1
  intro H locs hP hD hS ls hl
  refine lv_iload hx hb d_MO_unwind_70 (lv_at hl 5 rfl) ?_
  refine lv_if_le (tgt := 84) hx hb d_MO_unwind_72 (by decide) (fun c_9 => ?_) (fun c_9 => ?_)
  · refine lv_iconst (v := 0) hx hb d_MO_unwind_84 (by decide) ?_
    refine lv_istore (lv' := [(4, .int 0), (0, .ref aM), (1, .int x1), (2, .int x2), (3, .int x3), (5, .int x5), (6, .int x6)]) hx hb d_MO_unwind_85 hl (by decide) rfl (fun ls hl => ?_)
    exact hKx 0 frs frt top bgn mst ovr tgr st ffr fsz (by rw [hV, tw_MO_unwind_r70, if_pos c_9]) _ _ hP hD hS ls (lv_sub hl [1, 2, 3, 4, 0, 5] rfl)
  · refine lv_aload_n hx hb d_MO_unwind_75 rfl (lv_at hl 0 rfl) ?_
    refine lv_iload hx hb d_MO_unwind_76 (lv_at hl 5 rfl) ?_
    rcases h_10 : tw_MO_valueOf fu st x6 with _ | r_10
    · exact op_no hs (by rw [hV, tw_MO_unwind_r70, if_neg c_9, h_10, ob1_no])
    refine rd_V (val := r_10) (As := [.int x6]) (rest := []) ⟨hx, hb, hml, hown, hT⟩ (c_MO_valueOf l D cB cI aM aMst aMdcs aMtot aMfrm aMsiz aMffr aMfsz aMlkd aMlat aMkkd aMkat aModr aMgrp aMikd aMiat fu thr tpd frs frt top bgn mst ovr tgr lvs its hgh loo dfl st x6 r_10 h_10) (cwV 1 hT (gV_of k_1182 k_1184 kp_MO_valueOf k_12 kc_MO_valueOf) rfl rfl rfl hd_MO_valueOf ⟨Nat.le_of_ble_eq_true rfl, Nat.le_of_ble_eq_true rfl⟩) hk (hP.sub (ws' := [(aM, .inr (11, [.int thr, .ref aMst, .int tpd, .ref aMdcs, .ref aMtot, .ref aMfrm, .ref aMsiz, .int frs, .int frt, .ref aMffr, .ref aMfsz, .int top, .int bgn, .int mst, .int (b2i ovr), .int (b2i tgr), .int lvs, .ref aMlkd, .ref aMlat, .ref aMkkd, .ref aMkat, .ref aModr, .ref aMgrp, .int its, .ref aMikd, .ref aMiat, .long hgh, .long loo, .int (b2i dfl)])), (aMst, .inl (cI, 136400, .inl st))]) [0, 1] rfl) (q0 := 0) rfl rfl rfl rfl hl.1 rfl (Nat.le_of_ble_eq_true rfl) d_MO_unwind_78 ⟨Nat.zero_le _, Nat.zero_le _⟩ ?_
    refine lv_goto (tgt := 85) hx hb d_MO_unwind_81 (by decide) ?_
    refine lv_istore (lv' := [(4, .int r_10), (0, .ref aM), (1, .int x1), (2, .int x2), (3, .int x3), (5, .int x5), (6, .int x6)]) hx hb d_MO_unwind_85 hl (by decide) rfl (fun ls hl => ?_)
    exact hKx r_10 frs frt top bgn mst ovr tgr st ffr fsz (by rw [hV, tw_MO_unwind_r70, if_neg c_9, h_10, ob1_mk]) _ _ hP hD hS ls (lv_sub hl [1, 2, 3, 4, 0, 5] rfl)
set_option maxHeartbeats 4000000 in
set_option maxRecDepth 100000 in
theorem l_MO_unwind_h25 {p : Program} {e : Env} {s : State} {m : MethodId} {args : Array Value} {below : List Frame} {meth : Method} {c : Code} {V : Option (Int32 × Int32 × Int32 × Int32 × Int32 × Bool × Bool × (Nat → Int32) × (Nat → Int32) × (Nat → Int32))} {V0 : Int32 × Int32 × Int32 × Int32 × Int32 × Bool × Bool × (Nat → Int32) × (Nat → Int32) × (Nat → Int32)} (C0 : lc_C p s m meth c args b_MO_unwind 8 none R_MO lw_g) (hs : V = some V0) (l : Launch) (D : va_G) (cB cI : ClassId) (aM aMst aMdcs aMtot aMfrm aMsiz aMffr aMfsz aMlkd aMlat aMkkd aMkat aModr aMgrp aMikd aMiat : Nat) (fu : Nat) (thr : Int32) (tpd : Int32) (lvs : Int32) (its : Int32) (hgh : Int64) (loo : Int64) (dfl : Bool) (dcs : Nat → Int32) (frm : Nat → Int32) (siz : Nat → Int32) {A : Nat → Prop} (hk : hk_ D cB cI s) (hA : ∀ q : Nat, s.heap.size ≤ q → A q) (p0 : Int32) (x2 : Int32) {K : Int32 → Int32 → Int32 → Int32 → Int32 → Int32 → Int32 → Int32 → Bool → Bool → (Nat → Int32) → (Nat → Int32) → (Nat → Int32) → Option (Int32 × Int32 × Int32 × Int32 × Int32 × Bool × Bool × (Nat → Int32) × (Nat → Int32) × (Nat → Int32))} (hKx : ∀ (x3 : Int32) (x4 : Int32) (x5 : Int32) (frs : Int32) (frt : Int32) (top : Int32) (bgn : Int32) (mst : Int32) (ovr : Bool) (tgr : Bool) (st : Nat → Int32) (ffr : Nat → Int32) (fsz : Nat → Int32), V = K x3 x4 x5 frs frt top bgn mst ovr tgr st ffr fsz → ∀ (H : Heap) (locs : List Loc), va_P D vwCl [(aM, .inr (11, [.int thr, .ref aMst, .int tpd, .ref aMdcs, .ref aMtot, .ref aMfrm, .ref aMsiz, .int frs, .int frt, .ref aMffr, .ref aMfsz, .int top, .int bgn, .int mst, .int (b2i ovr), .int (b2i tgr), .int lvs, .ref aMlkd, .ref aMlat, .ref aMkkd, .ref aMkat, .ref aModr, .ref aMgrp, .int its, .ref aMikd, .ref aMiat, .long hgh, .long loo, .int (b2i dfl)])), (aMst, .inl (cI, 136400, .inl st)), (aMdcs, .inl (cI, 2, .inl dcs)), (aMfrm, .inl (cI, 400, .inl frm)), (aMsiz, .inl (cI, 400, .inl siz)), (aMffr, .inl (cI, 200, .inl ffr)), (aMfsz, .inl (cI, 200, .inl fsz))] H → va_D A [(aM, .inr (11, [.int thr, .ref aMst, .int tpd, .ref aMdcs, .ref aMtot, .ref aMfrm, .ref aMsiz, .int frs, .int frt, .ref aMffr, .ref aMfsz, .int top, .int bgn, .int mst, .int (b2i ovr), .int (b2i tgr), .int lvs, .ref aMlkd, .ref aMlat, .ref aMkkd, .ref aMkat, .ref aModr, .ref aMgrp, .int its, .ref aMikd, .ref aMiat, .long hgh, .long loo, .int (b2i dfl)])), (aMst, .inl (cI, 136400, .inl st)), (aMdcs, .inl (cI, 2, .inl dcs)), (aMfrm, .inl (cI, 400, .inl frm)), (aMsiz, .inl (cI, 400, .inl siz)), (aMffr, .inl (cI, 200, .inl ffr)), (aMfsz, .inl (cI, 200, .inl fsz))] → va_S A s.heap H locs → ∀ ls : Array Slot, lv_has ls 8 [(0, .ref aM), (1, .int p0), (2, .int x2), (3, .int x3), (4, .int x4)] → W p l e ({ frames := 163, cells := 0, slots := 0, locals := 4870 }) s m args below meth c H locs 0 0 (MQ below (va_Qv (fun (u : Int32 × Int32 × Int32 × Int32 × Int32 × Bool × Bool × (Nat → Int32) × (Nat → Int32) × (Nat → Int32)) => u = V0) (mt_B D A (fun u => wd_MO_unwind aM aMst aMdcs aMtot aMfrm aMsiz aMffr aMfsz aMlkd aMlat aMkkd aMkat aModr aMgrp aMikd aMiat cB cI thr tpd lvs its hgh loo dfl dcs frm siz u.1 u.2.1 u.2.2.1 u.2.2.2.1 u.2.2.2.2.1 u.2.2.2.2.2.1 u.2.2.2.2.2.2.1 u.2.2.2.2.2.2.2.1 u.2.2.2.2.2.2.2.2.1 u.2.2.2.2.2.2.2.2.2)) A) args s 0 0 A) (F0 m 98 ls [])) : ∀ (n : Nat) (x3 : Int32) (x4 : Int32) (x5 : Int32) (frs : Int32) (frt : Int32) (top : Int32) (bgn : Int32) (mst : Int32) (ovr : Bool) (tgr : Bool) (st : Nat → Int32) (ffr : Nat → Int32) (fsz : Nat → Int32), V = tw_MO_unwind_h25 fu dcs frm siz K p0 x2 n x3 x4 x5 frs frt top bgn mst ovr tgr st ffr fsz → ∀ (H : Heap) (locs : List Loc), va_P D vwCl [(aM, .inr (11, [.int thr, .ref aMst, .int tpd, .ref aMdcs, .ref aMtot, .ref aMfrm, .ref aMsiz, .int frs, .int frt, .ref aMffr, .ref aMfsz, .int top, .int bgn, .int mst, .int (b2i ovr), .int (b2i tgr), .int lvs, .ref aMlkd, .ref aMlat, .ref aMkkd, .ref aMkat, .ref aModr, .ref aMgrp, .int its, .ref aMikd, .ref aMiat, .long hgh, .long loo, .int (b2i dfl)])), (aMst, .inl (cI, 136400, .inl st)), (aMdcs, .inl (cI, 2, .inl dcs)), (aMfrm, .inl (cI, 400, .inl frm)), (aMsiz, .inl (cI, 400, .inl siz)), (aMffr, .inl (cI, 200, .inl ffr)), (aMfsz, .inl (cI, 200, .inl fsz))] H → va_D A [(aM, .inr (11, [.int thr, .ref aMst, .int tpd, .ref aMdcs, .ref aMtot, .ref aMfrm, .ref aMsiz, .int frs, .int frt, .ref aMffr, .ref aMfsz, .int top, .int bgn, .int mst, .int (b2i ovr), .int (b2i tgr), .int lvs, .ref aMlkd, .ref aMlat, .ref aMkkd, .ref aMkat, .ref aModr, .ref aMgrp, .int its, .ref aMikd, .ref aMiat, .long hgh, .long loo, .int (b2i dfl)])), (aMst, .inl (cI, 136400, .inl st)), (aMdcs, .inl (cI, 2, .inl dcs)), (aMfrm, .inl (cI, 400, .inl frm)), (aMsiz, .inl (cI, 400, .inl siz)), (aMffr, .inl (cI, 200, .inl ffr)), (aMfsz, .inl (cI, 200, .inl fsz))] → va_S A s.heap H locs → ∀ ls : Array Slot, lv_has ls 8 [(0, .ref aM), (1, .int p0), (2, .int x2), (3, .int x3), (4, .int x4), (5, .int x5)] → W p l e ({ frames := 163, cells := 0, slots := 0, locals := 4870 }) s m args below meth c H locs 0 0 (MQ below (va_Qv (fun (u : Int32 × Int32 × Int32 × Int32 × Int32 × Bool × Bool × (Nat → Int32) × (Nat → Int32) × (Nat → Int32)) => u = V0) (mt_B D A (fun u => wd_MO_unwind aM aMst aMdcs aMtot aMfrm aMsiz aMffr aMfsz aMlkd aMlat aMkkd aMkat aModr aMgrp aMikd aMiat cB cI thr tpd lvs its hgh loo dfl dcs frm siz u.1 u.2.1 u.2.2.1 u.2.2.2.1 u.2.2.2.2.1 u.2.2.2.2.2.1 u.2.2.2.2.2.2.1 u.2.2.2.2.2.2.2.1 u.2.2.2.2.2.2.2.2.1 u.2.2.2.2.2.2.2.2.2)) A) args s 0 0 A) (F0 m 25 ls []) := by
  obtain ⟨hx, hb, hml, hr, hown, hlocks, hT⟩ := id C0
  have hK := hk.1
  have hN := hk.2.1
  intro n
  induction n with
  | zero =>
    intro x3 x4 x5 frs frt top bgn mst ovr tgr st ffr fsz hV
    exact op_no hs (hV.trans rfl)
  | succ n ih =>
    intro x3 x4 x5 frs frt top bgn mst ovr tgr st ffr fsz hV H locs hP hD hS ls hl
    refine lv_iload hx hb d_MO_unwind_25 (lv_at hl 5 rfl) ?_
    refine lv_if_le (tgt := 98) hx hb d_MO_unwind_27 (by decide) (fun c_3 => ?_) (fun c_3 => ?_)
    · exact hKx x3 x4 x5 frs frt top bgn mst ovr tgr st ffr fsz (by rw [hV, tw_MO_unwind_h25, if_pos c_3]) _ _ hP hD hS ls (lv_sub hl [0, 1, 2, 3, 4] rfl)
    · refine lv_iload_n hx hb d_MO_unwind_30 rfl (lv_at hl 3 rfl) ?_
      refine lv_if_eq (tgt := 98) hx hb d_MO_unwind_31 (by decide) (fun c_4 => ?_) (fun c_4 => ?_)
      · exact hKx x3 x4 x5 frs frt top bgn mst ovr tgr st ffr fsz (by rw [hV, tw_MO_unwind_h25, if_neg c_3, if_pos c_4]) _ _ hP hD hS ls (lv_sub hl [0, 1, 2, 3, 4] rfl)
      · refine l_MO_unwind_r34 C0 hs l D cB cI aM aMst aMdcs aMtot aMfrm aMsiz aMffr aMfsz aMlkd aMlat aMkkd aMkat aModr aMgrp aMikd aMiat fu thr tpd lvs its hgh loo dfl dcs frm siz hk hA p0 x2 x3 x4 x5 frs frt top bgn mst ovr tgr st ffr fsz (K := (fun (y6_7 : Int32) (frs_7 : Int32) (frt_7 : Int32) (top_7 : Int32) (bgn_7 : Int32) (mst_7 : Int32) (ovr_7 : Bool) (tgr_7 : Bool) (st_7 : Nat → Int32) (ffr_7 : Nat → Int32) (fsz_7 : Nat → Int32) =>
            if y6_7 ≤ 0 then
              tw_MO_unwind_r70 fu dcs frm siz (fun (y4_11 : Int32) (frs_11 : Int32) (frt_11 : Int32) (top_11 : Int32) (bgn_11 : Int32) (mst_11 : Int32) (ovr_11 : Bool) (tgr_11 : Bool) (st_11 : Nat → Int32) (ffr_11 : Nat → Int32) (fsz_11 : Nat → Int32) =>
              ob1 (tw_MO_nextStep fu st_11 x5) (fun r_12 =>
                tw_MO_unwind_h25 fu dcs frm siz K p0 x2 n 0 y4_11 r_12 frs_11 frt_11 top_11 bgn_11 mst_11 ovr_11 tgr_11 st_11 ffr_11 fsz_11)) p0 x2 0 x5 y6_7 frs_7 frt_7 top_7 bgn_7 mst_7 ovr_7 tgr_7 st_7 ffr_7 fsz_7
            else
              if 0 ≤ y6_7 ∧ y6_7 < 136400 then
                tw_MO_unwind_r70 fu dcs frm siz (fun (y4_14 : Int32) (frs_14 : Int32) (frt_14 : Int32) (top_14 : Int32) (bgn_14 : Int32) (mst_14 : Int32) (ovr_14 : Bool) (tgr_14 : Bool) (st_14 : Nat → Int32) (ffr_14 : Nat → Int32) (fsz_14 : Nat → Int32) =>
              ob1 (tw_MO_nextStep fu st_14 x5) (fun r_15 =>
                tw_MO_unwind_h25 fu dcs frm siz K p0 x2 n (st_7 y6_7.toNatClampNeg) y4_14 r_15 frs_14 frt_14 top_14 bgn_14 mst_14 ovr_14 tgr_14 st_14 ffr_14 fsz_14)) p0 x2 (st_7 y6_7.toNatClampNeg) x5 y6_7 frs_7 frt_7 top_7 bgn_7 mst_7 ovr_7 tgr_7 st_7 ffr_7 fsz_7
              else
                none)) ?_ (by rw [hV, tw_MO_unwind_h25, if_neg c_3, if_neg c_4]) _ _ hP hD hS ls (lv_sub hl [0, 1, 2, 3, 4, 5] rfl)
        intro y6_7 frs_7 frt_7 top_7 bgn_7 mst_7 ovr_7 tgr_7 st_7 ffr_7 fsz_7 hV_7 H locs hP hD hS ls hl
        refine lv_iload hx hb d_MO_unwind_53 (lv_at hl 4 rfl) ?_
        refine lv_if_le (tgt := 68) hx hb d_MO_unwind_55 (by decide) (fun c_8 => ?_) (fun c_8 => ?_)
        · refine lv_iconst (v := 0) hx hb d_MO_unwind_68 (by decide) ?_
          refine lv_istore_n (lv' := [(3, .int 0), (0, .ref aM), (1, .int p0), (2, .int x2), (5, .int x5), (6, .int y6_7)]) hx hb d_MO_unwind_69 rfl hl (by decide) rfl (fun ls hl => ?_)
          refine l_MO_unwind_r70 C0 hs l D cB cI aM aMst aMdcs aMtot aMfrm aMsiz aMffr aMfsz aMlkd aMlat aMkkd aMkat aModr aMgrp aMikd aMiat fu thr tpd lvs its hgh loo dfl dcs frm siz hk hA p0 x2 0 x5 y6_7 frs_7 frt_7 top_7 bgn_7 mst_7 ovr_7 tgr_7 st_7 ffr_7 fsz_7 (K := (fun (y4_11 : Int32) (frs_11 : Int32) (frt_11 : Int32) (top_11 : Int32) (bgn_11 : Int32) (mst_11 : Int32) (ovr_11 : Bool) (tgr_11 : Bool) (st_11 : Nat → Int32) (ffr_11 : Nat → Int32) (fsz_11 : Nat → Int32) =>
              ob1 (tw_MO_nextStep fu st_11 x5) (fun r_12 =>
                tw_MO_unwind_h25 fu dcs frm siz K p0 x2 n 0 y4_11 r_12 frs_11 frt_11 top_11 bgn_11 mst_11 ovr_11 tgr_11 st_11 ffr_11 fsz_11))) ?_ (by rw [hV_7, if_pos c_8]) _ _ hP hD hS ls (lv_sub hl [1, 2, 3, 0, 4, 5] rfl)
          intro y4_11 frs_11 frt_11 top_11 bgn_11 mst_11 ovr_11 tgr_11 st_11 ffr_11 fsz_11 hV_11 H locs hP hD hS ls hl
          refine lv_aload_n hx hb d_MO_unwind_87 rfl (lv_at hl 0 rfl) ?_
          refine lv_iload hx hb d_MO_unwind_88 (lv_at hl 5 rfl) ?_
          rcases h_12 : tw_MO_nextStep fu st_11 x5 with _ | r_12
          · exact op_no hs (by rw [hV_11, h_12, ob1_no])
          refine rd_V (val := r_12) (As := [.int x5]) (rest := []) ⟨hx, hb, hml, hown, hT⟩ (c_MO_nextStep l D cB cI aM aMst aMdcs aMtot aMfrm aMsiz aMffr aMfsz aMlkd aMlat aMkkd aMkat aModr aMgrp aMikd aMiat fu thr tpd frs_11 frt_11 top_11 bgn_11 mst_11 ovr_11 tgr_11 lvs its hgh loo dfl st_11 x5 r_12 h_12) (cwV 1 hT (gV_of k_1363 k_1365 kp_MO_nextStep k_12 kc_MO_nextStep) rfl rfl rfl hd_MO_nextStep ⟨Nat.le_of_ble_eq_true rfl, Nat.le_of_ble_eq_true rfl⟩) hk (hP.sub (ws' := [(aM, .inr (11, [.int thr, .ref aMst, .int tpd, .ref aMdcs, .ref aMtot, .ref aMfrm, .ref aMsiz, .int frs_11, .int frt_11, .ref aMffr, .ref aMfsz, .int top_11, .int bgn_11, .int mst_11, .int (b2i ovr_11), .int (b2i tgr_11), .int lvs, .ref aMlkd, .ref aMlat, .ref aMkkd, .ref aMkat, .ref aModr, .ref aMgrp, .int its, .ref aMikd, .ref aMiat, .long hgh, .long loo, .int (b2i dfl)])), (aMst, .inl (cI, 136400, .inl st_11))]) [0, 1] rfl) (q0 := 0) rfl rfl rfl rfl hl.1 rfl (Nat.le_of_ble_eq_true rfl) d_MO_unwind_90 ⟨Nat.zero_le _, Nat.zero_le _⟩ ?_
          refine lv_istore (lv' := [(5, .int r_12), (0, .ref aM), (1, .int p0), (2, .int x2), (3, .int 0), (4, .int y4_11)]) hx hb d_MO_unwind_93 hl (by decide) rfl (fun ls hl => ?_)
          refine lv_goto (tgt := 25) hx hb d_MO_unwind_95 (by decide) ?_
          exact ih 0 y4_11 r_12 frs_11 frt_11 top_11 bgn_11 mst_11 ovr_11 tgr_11 st_11 ffr_11 fsz_11 (by rw [hV_11, h_12, ob1_mk]) _ _ hP hD hS ls (lv_sub hl [1, 2, 3, 4, 5, 0] rfl)
        · refine lv_aload_n hx hb d_MO_unwind_58 rfl (lv_at hl 0 rfl) ?_
          refine va_get (D := D) (ci := 11) (v := .ref aMst) (C := R_MO) (T := T_MO) (N := 29) hx hb hT u_MO hown hK hP 0 rfl rfl 1 (by decide) (hT _ k_1044) (fun _ h9 => h9) rfl d_MO_unwind_59 ?_
          refine lv_iload hx hb d_MO_unwind_62 (lv_at hl 4 rfl) ?_
          by_cases c_13 : 0 ≤ y6_7 ∧ y6_7 < 136400
          rotate_left
          · exact op_no hs (by rw [hV_7, if_neg c_8, if_neg c_13])
          refine va_iald hx hb hK hP 1 1 rfl rfl (in_pp c_13.1 c_13.2 rfl) d_MO_unwind_64 ?_
          refine lv_goto (tgt := 69) hx hb d_MO_unwind_65 (by decide) ?_
          refine lv_istore_n (lv' := [(3, .int (st_7 y6_7.toNatClampNeg)), (0, .ref aM), (1, .int p0), (2, .int x2), (5, .int x5), (6, .int y6_7)]) hx hb d_MO_unwind_69 rfl hl (by decide) rfl (fun ls hl => ?_)
          refine l_MO_unwind_r70 C0 hs l D cB cI aM aMst aMdcs aMtot aMfrm aMsiz aMffr aMfsz aMlkd aMlat aMkkd aMkat aModr aMgrp aMikd aMiat fu thr tpd lvs its hgh loo dfl dcs frm siz hk hA p0 x2 (st_7 y6_7.toNatClampNeg) x5 y6_7 frs_7 frt_7 top_7 bgn_7 mst_7 ovr_7 tgr_7 st_7 ffr_7 fsz_7 (K := (fun (y4_14 : Int32) (frs_14 : Int32) (frt_14 : Int32) (top_14 : Int32) (bgn_14 : Int32) (mst_14 : Int32) (ovr_14 : Bool) (tgr_14 : Bool) (st_14 : Nat → Int32) (ffr_14 : Nat → Int32) (fsz_14 : Nat → Int32) =>
              ob1 (tw_MO_nextStep fu st_14 x5) (fun r_15 =>
                tw_MO_unwind_h25 fu dcs frm siz K p0 x2 n (st_7 y6_7.toNatClampNeg) y4_14 r_15 frs_14 frt_14 top_14 bgn_14 mst_14 ovr_14 tgr_14 st_14 ffr_14 fsz_14))) ?_ (by rw [hV_7, if_neg c_8, if_pos c_13]) _ _ hP hD hS ls (lv_sub hl [1, 2, 3, 0, 4, 5] rfl)
          intro y4_14 frs_14 frt_14 top_14 bgn_14 mst_14 ovr_14 tgr_14 st_14 ffr_14 fsz_14 hV_14 H locs hP hD hS ls hl
          refine lv_aload_n hx hb d_MO_unwind_87 rfl (lv_at hl 0 rfl) ?_
          refine lv_iload hx hb d_MO_unwind_88 (lv_at hl 5 rfl) ?_
          rcases h_15 : tw_MO_nextStep fu st_14 x5 with _ | r_15
          · exact op_no hs (by rw [hV_14, h_15, ob1_no])
          refine rd_V (val := r_15) (As := [.int x5]) (rest := []) ⟨hx, hb, hml, hown, hT⟩ (c_MO_nextStep l D cB cI aM aMst aMdcs aMtot aMfrm aMsiz aMffr aMfsz aMlkd aMlat aMkkd aMkat aModr aMgrp aMikd aMiat fu thr tpd frs_14 frt_14 top_14 bgn_14 mst_14 ovr_14 tgr_14 lvs its hgh loo dfl st_14 x5 r_15 h_15) (cwV 1 hT (gV_of k_1363 k_1365 kp_MO_nextStep k_12 kc_MO_nextStep) rfl rfl rfl hd_MO_nextStep ⟨Nat.le_of_ble_eq_true rfl, Nat.le_of_ble_eq_true rfl⟩) hk (hP.sub (ws' := [(aM, .inr (11, [.int thr, .ref aMst, .int tpd, .ref aMdcs, .ref aMtot, .ref aMfrm, .ref aMsiz, .int frs_14, .int frt_14, .ref aMffr, .ref aMfsz, .int top_14, .int bgn_14, .int mst_14, .int (b2i ovr_14), .int (b2i tgr_14), .int lvs, .ref aMlkd, .ref aMlat, .ref aMkkd, .ref aMkat, .ref aModr, .ref aMgrp, .int its, .ref aMikd, .ref aMiat, .long hgh, .long loo, .int (b2i dfl)])), (aMst, .inl (cI, 136400, .inl st_14))]) [0, 1] rfl) (q0 := 0) rfl rfl rfl rfl hl.1 rfl (Nat.le_of_ble_eq_true rfl) d_MO_unwind_90 ⟨Nat.zero_le _, Nat.zero_le _⟩ ?_
          refine lv_istore (lv' := [(5, .int r_15), (0, .ref aM), (1, .int p0), (2, .int x2), (3, .int (st_7 y6_7.toNatClampNeg)), (4, .int y4_14)]) hx hb d_MO_unwind_93 hl (by decide) rfl (fun ls hl => ?_)
          refine lv_goto (tgt := 25) hx hb d_MO_unwind_95 (by decide) ?_
          exact ih (st_7 y6_7.toNatClampNeg) y4_14 r_15 frs_14 frt_14 top_14 bgn_14 mst_14 ovr_14 tgr_14 st_14 ffr_14 fsz_14 (by rw [hV_14, h_15, ob1_mk]) _ _ hP hD hS ls (lv_sub hl [1, 2, 3, 4, 5, 0] rfl)
set_option maxHeartbeats 4000000 in
set_option maxRecDepth 100000 in
theorem l_MO_unwind_h111 {p : Program} {e : Env} {s : State} {m : MethodId} {args : Array Value} {below : List Frame} {meth : Method} {c : Code} {V : Option (Int32 × Int32 × Int32 × Int32 × Int32 × Bool × Bool × (Nat → Int32) × (Nat → Int32) × (Nat → Int32))} {V0 : Int32 × Int32 × Int32 × Int32 × Int32 × Bool × Bool × (Nat → Int32) × (Nat → Int32) × (Nat → Int32)} (C0 : lc_C p s m meth c args b_MO_unwind 8 none R_MO lw_g) (hs : V = some V0) (l : Launch) (D : va_G) (cB cI : ClassId) (aM aMst aMdcs aMtot aMfrm aMsiz aMffr aMfsz aMlkd aMlat aMkkd aMkat aModr aMgrp aMikd aMiat : Nat) (fu : Nat) (thr : Int32) (tpd : Int32) (lvs : Int32) (its : Int32) (hgh : Int64) (loo : Int64) (dfl : Bool) (dcs : Nat → Int32) (frm : Nat → Int32) (siz : Nat → Int32) {A : Nat → Prop} (hk : hk_ D cB cI s) (hA : ∀ q : Nat, s.heap.size ≤ q → A q) (x1 : Int32) (x2 : Int32) {K : Int32 → Int32 → Int32 → Int32 → Int32 → Int32 → Bool → Bool → (Nat → Int32) → (Nat → Int32) → (Nat → Int32) → Option (Int32 × Int32 × Int32 × Int32 × Int32 × Bool × Bool × (Nat → Int32) × (Nat → Int32) × (Nat → Int32))} (hKx : ∀ (x6 : Int32) (frs : Int32) (frt : Int32) (top : Int32) (bgn : Int32) (mst : Int32) (ovr : Bool) (tgr : Bool) (st : Nat → Int32) (ffr : Nat → Int32) (fsz : Nat → Int32), V = K x6 frs frt top bgn mst ovr tgr st ffr fsz → ∀ (H : Heap) (locs : List Loc), va_P D vwCl [(aM, .inr (11, [.int thr, .ref aMst, .int tpd, .ref aMdcs, .ref aMtot, .ref aMfrm, .ref aMsiz, .int frs, .int frt, .ref aMffr, .ref aMfsz, .int top, .int bgn, .int mst, .int (b2i ovr), .int (b2i tgr), .int lvs, .ref aMlkd, .ref aMlat, .ref aMkkd, .ref aMkat, .ref aModr, .ref aMgrp, .int its, .ref aMikd, .ref aMiat, .long hgh, .long loo, .int (b2i dfl)])), (aMst, .inl (cI, 136400, .inl st)), (aMdcs, .inl (cI, 2, .inl dcs)), (aMfrm, .inl (cI, 400, .inl frm)), (aMsiz, .inl (cI, 400, .inl siz)), (aMffr, .inl (cI, 200, .inl ffr)), (aMfsz, .inl (cI, 200, .inl fsz))] H → va_D A [(aM, .inr (11, [.int thr, .ref aMst, .int tpd, .ref aMdcs, .ref aMtot, .ref aMfrm, .ref aMsiz, .int frs, .int frt, .ref aMffr, .ref aMfsz, .int top, .int bgn, .int mst, .int (b2i ovr), .int (b2i tgr), .int lvs, .ref aMlkd, .ref aMlat, .ref aMkkd, .ref aMkat, .ref aModr, .ref aMgrp, .int its, .ref aMikd, .ref aMiat, .long hgh, .long loo, .int (b2i dfl)])), (aMst, .inl (cI, 136400, .inl st)), (aMdcs, .inl (cI, 2, .inl dcs)), (aMfrm, .inl (cI, 400, .inl frm)), (aMsiz, .inl (cI, 400, .inl siz)), (aMffr, .inl (cI, 200, .inl ffr)), (aMfsz, .inl (cI, 200, .inl fsz))] → va_S A s.heap H locs → ∀ ls : Array Slot, lv_has ls 8 [(0, .ref aM), (1, .int x1), (2, .int x2)] → W p l e ({ frames := 163, cells := 0, slots := 0, locals := 4870 }) s m args below meth c H locs 0 0 (MQ below (va_Qv (fun (u : Int32 × Int32 × Int32 × Int32 × Int32 × Bool × Bool × (Nat → Int32) × (Nat → Int32) × (Nat → Int32)) => u = V0) (mt_B D A (fun u => wd_MO_unwind aM aMst aMdcs aMtot aMfrm aMsiz aMffr aMfsz aMlkd aMlat aMkkd aMkat aModr aMgrp aMikd aMiat cB cI thr tpd lvs its hgh loo dfl dcs frm siz u.1 u.2.1 u.2.2.1 u.2.2.2.1 u.2.2.2.2.1 u.2.2.2.2.2.1 u.2.2.2.2.2.2.1 u.2.2.2.2.2.2.2.1 u.2.2.2.2.2.2.2.2.1 u.2.2.2.2.2.2.2.2.2)) A) args s 0 0 A) (F0 m 163 ls [])) : ∀ (n : Nat) (x6 : Int32) (frs : Int32) (frt : Int32) (top : Int32) (bgn : Int32) (mst : Int32) (ovr : Bool) (tgr : Bool) (st : Nat → Int32) (ffr : Nat → Int32) (fsz : Nat → Int32), V = tw_MO_unwind_h111 fu dcs frm siz K x1 x2 n x6 frs frt top bgn mst ovr tgr st ffr fsz → ∀ (H : Heap) (locs : List Loc), va_P D vwCl [(aM, .inr (11, [.int thr, .ref aMst, .int tpd, .ref aMdcs, .ref aMtot, .ref aMfrm, .ref aMsiz, .int frs, .int frt, .ref aMffr, .ref aMfsz, .int top, .int bgn, .int mst, .int (b2i ovr), .int (b2i tgr), .int lvs, .ref aMlkd, .ref aMlat, .ref aMkkd, .ref aMkat, .ref aModr, .ref aMgrp, .int its, .ref aMikd, .ref aMiat, .long hgh, .long loo, .int (b2i dfl)])), (aMst, .inl (cI, 136400, .inl st)), (aMdcs, .inl (cI, 2, .inl dcs)), (aMfrm, .inl (cI, 400, .inl frm)), (aMsiz, .inl (cI, 400, .inl siz)), (aMffr, .inl (cI, 200, .inl ffr)), (aMfsz, .inl (cI, 200, .inl fsz))] H → va_D A [(aM, .inr (11, [.int thr, .ref aMst, .int tpd, .ref aMdcs, .ref aMtot, .ref aMfrm, .ref aMsiz, .int frs, .int frt, .ref aMffr, .ref aMfsz, .int top, .int bgn, .int mst, .int (b2i ovr), .int (b2i tgr), .int lvs, .ref aMlkd, .ref aMlat, .ref aMkkd, .ref aMkat, .ref aModr, .ref aMgrp, .int its, .ref aMikd, .ref aMiat, .long hgh, .long loo, .int (b2i dfl)])), (aMst, .inl (cI, 136400, .inl st)), (aMdcs, .inl (cI, 2, .inl dcs)), (aMfrm, .inl (cI, 400, .inl frm)), (aMsiz, .inl (cI, 400, .inl siz)), (aMffr, .inl (cI, 200, .inl ffr)), (aMfsz, .inl (cI, 200, .inl fsz))] → va_S A s.heap H locs → ∀ ls : Array Slot, lv_has ls 8 [(0, .ref aM), (1, .int x1), (2, .int x2), (6, .int x6)] → W p l e ({ frames := 163, cells := 0, slots := 0, locals := 4870 }) s m args below meth c H locs 0 0 (MQ below (va_Qv (fun (u : Int32 × Int32 × Int32 × Int32 × Int32 × Bool × Bool × (Nat → Int32) × (Nat → Int32) × (Nat → Int32)) => u = V0) (mt_B D A (fun u => wd_MO_unwind aM aMst aMdcs aMtot aMfrm aMsiz aMffr aMfsz aMlkd aMlat aMkkd aMkat aModr aMgrp aMikd aMiat cB cI thr tpd lvs its hgh loo dfl dcs frm siz u.1 u.2.1 u.2.2.1 u.2.2.2.1 u.2.2.2.2.1 u.2.2.2.2.2.1 u.2.2.2.2.2.2.1 u.2.2.2.2.2.2.2.1 u.2.2.2.2.2.2.2.2.1 u.2.2.2.2.2.2.2.2.2)) A) args s 0 0 A) (F0 m 111 ls []) := by
  obtain ⟨hx, hb, hml, hr, hown, hlocks, hT⟩ := id C0
  have hK := hk.1
  have hN := hk.2.1
  intro n
  induction n with
  | zero =>
    intro x6 frs frt top bgn mst ovr tgr st ffr fsz hV
    exact op_no hs (hV.trans rfl)
  | succ n ih =>
    intro x6 frs frt top bgn mst ovr tgr st ffr fsz hV H locs hP hD hS ls hl
    refine lv_iload hx hb d_MO_unwind_111 (lv_at hl 3 rfl) ?_
    refine lv_if_le (tgt := 163) hx hb d_MO_unwind_113 (by decide) (fun c_22 => ?_) (fun c_22 => ?_)
    · exact hKx x6 frs frt top bgn mst ovr tgr st ffr fsz (by rw [hV, tw_MO_unwind_h111, if_pos c_22]) _ _ hP hD hS ls (lv_sub hl [0, 1, 2] rfl)
    · refine lv_aload_n hx hb d_MO_unwind_116 rfl (lv_at hl 0 rfl) ?_
      rcases h_23 : tw_MO_beginDocument fu tgr top bgn mst ovr st with _ | w_23
      · exact op_no hs (by rw [hV, tw_MO_unwind_h111, if_neg c_22, h_23, ob6_no])
      refine mt_Vi (As := []) (rest := []) (wr := [(aMdcs, .inl (cI, 2, .inl dcs)), (aMfrm, .inl (cI, 400, .inl frm)), (aMsiz, .inl (cI, 400, .inl siz)), (aMffr, .inl (cI, 200, .inl ffr)), (aMfsz, .inl (cI, 200, .inl fsz))]) ⟨hx, hb, hml, hown, hT⟩ (c_MO_beginDocument l D cB cI aM aMst aMdcs aMtot aMfrm aMsiz aMffr aMfsz aMlkd aMlat aMkkd aMkat aModr aMgrp aMikd aMiat fu thr tpd frs frt tgr lvs its hgh loo dfl _ top bgn mst ovr st w_23 h_23) (cwV 0 hT (gV_of k_1310 k_1312 kp_MO_beginDocument k_12 kc_MO_beginDocument) rfl rfl rfl hd_MO_beginDocument ⟨Nat.le_of_ble_eq_true rfl, Nat.le_of_ble_eq_true rfl⟩) hk hP hD hS hA [0, 1] [2, 3, 4, 5, 6] rfl rfl rfl (by decide) (by decide) (by decide) (q0 := 0) rfl rfl rfl rfl hl.1 rfl (Nat.le_of_ble_eq_true rfl) d_MO_unwind_117 ⟨Nat.zero_le _, Nat.zero_le _⟩ (fun r_23 u_23 H locs hw_23 hP hD hS => ?_)
      subst hw_23
      obtain ⟨top_23, bgn_23, mst_23, ovr_23, st_23⟩ := u_23
      have hP : va_P D vwCl [(aM, .inr (11, [.int thr, .ref aMst, .int tpd, .ref aMdcs, .ref aMtot, .ref aMfrm, .ref aMsiz, .int frs, .int frt, .ref aMffr, .ref aMfsz, .int top_23, .int bgn_23, .int mst_23, .int (b2i ovr_23), .int (b2i tgr), .int lvs, .ref aMlkd, .ref aMlat, .ref aMkkd, .ref aMkat, .ref aModr, .ref aMgrp, .int its, .ref aMikd, .ref aMiat, .long hgh, .long loo, .int (b2i dfl)])), (aMst, .inl (cI, 136400, .inl st_23)), (aMdcs, .inl (cI, 2, .inl dcs)), (aMfrm, .inl (cI, 400, .inl frm)), (aMsiz, .inl (cI, 400, .inl siz)), (aMffr, .inl (cI, 200, .inl ffr)), (aMfsz, .inl (cI, 200, .inl fsz))] H := hP.sub [5, 6, 0, 1, 2, 3, 4] rfl
      have hD : va_D A [(aM, .inr (11, [.int thr, .ref aMst, .int tpd, .ref aMdcs, .ref aMtot, .ref aMfrm, .ref aMsiz, .int frs, .int frt, .ref aMffr, .ref aMfsz, .int top_23, .int bgn_23, .int mst_23, .int (b2i ovr_23), .int (b2i tgr), .int lvs, .ref aMlkd, .ref aMlat, .ref aMkkd, .ref aMkat, .ref aModr, .ref aMgrp, .int its, .ref aMikd, .ref aMiat, .long hgh, .long loo, .int (b2i dfl)])), (aMst, .inl (cI, 136400, .inl st_23)), (aMdcs, .inl (cI, 2, .inl dcs)), (aMfrm, .inl (cI, 400, .inl frm)), (aMsiz, .inl (cI, 400, .inl siz)), (aMffr, .inl (cI, 200, .inl ffr)), (aMfsz, .inl (cI, 200, .inl fsz))] := hD.sub [5, 6, 0, 1, 2, 3, 4] (by decide) rfl
      refine lv_istore (lv' := [(7, .int r_23), (0, .ref aM), (1, .int x1), (2, .int x2), (6, .int x6)]) hx hb d_MO_unwind_120 hl (by decide) rfl (fun ls hl => ?_)
      refine lv_aload_n hx hb d_MO_unwind_122 rfl (lv_at hl 1 rfl) ?_
      refine lv_aload_n hx hb d_MO_unwind_123 rfl (lv_at hl 1 rfl) ?_
      refine va_get (D := D) (ci := 11) (v := .ref aMfrm) (C := R_MO) (T := T_MO) (N := 29) hx hb hT u_MO hown hK hP 0 rfl rfl 5 (by decide) (hT _ k_1048) (fun _ h9 => h9) rfl d_MO_unwind_124 ?_
      refine lv_iload_n hx hb d_MO_unwind_127 rfl (lv_at hl 3 rfl) ?_
      by_cases c_24 : 0 ≤ x2 ∧ x2 < 400
      rotate_left
      · exact op_no hs (by rw [hV, tw_MO_unwind_h111, if_neg c_22, h_23, ob6_mk, if_neg c_24])
      refine va_iald hx hb hK hP 3 1 rfl rfl (in_pp c_24.1 c_24.2 rfl) d_MO_unwind_128 ?_
      refine lv_iload_n hx hb d_MO_unwind_129 rfl (lv_at hl 2 rfl) ?_
      refine lv_aload_n hx hb d_MO_unwind_130 rfl (lv_at hl 1 rfl) ?_
      refine va_get (D := D) (ci := 11) (v := .ref aMst) (C := R_MO) (T := T_MO) (N := 29) hx hb hT u_MO hown hK hP 0 rfl rfl 1 (by decide) (hT _ k_1044) (fun _ h9 => h9) rfl d_MO_unwind_131 ?_
      refine lv_iload hx hb d_MO_unwind_134 (lv_at hl 4 rfl) ?_
      by_cases c_25 : 0 ≤ x6 ∧ x6 < 136400
      rotate_left
      · exact op_no hs (by rw [hV, tw_MO_unwind_h111, if_neg c_22, h_23, ob6_mk, if_pos c_24, if_neg c_25])
      refine va_iald hx hb hK hP 1 1 rfl rfl (in_pp c_25.1 c_25.2 rfl) d_MO_unwind_136 ?_
      refine lv_aload_n hx hb d_MO_unwind_137 rfl (lv_at hl 1 rfl) ?_
      refine lv_iload hx hb d_MO_unwind_138 (lv_at hl 4 rfl) ?_
      rcases h_26 : tw_MO_valueOf fu st_23 x6 with _ | r_26
      · exact op_no hs (by rw [hV, tw_MO_unwind_h111, if_neg c_22, h_23, ob6_mk, if_pos c_24, if_pos c_25, h_26, ob1_no])
      refine rd_V (val := r_26) (As := [.int x6]) (rest := [.int (st_23 x6.toNatClampNeg), .int x1, .int (frm x2.toNatClampNeg), .ref aM]) ⟨hx, hb, hml, hown, hT⟩ (c_MO_valueOf l D cB cI aM aMst aMdcs aMtot aMfrm aMsiz aMffr aMfsz aMlkd aMlat aMkkd aMkat aModr aMgrp aMikd aMiat fu thr tpd frs frt top_23 bgn_23 mst_23 ovr_23 tgr lvs its hgh loo dfl st_23 x6 r_26 h_26) (cwV 1 hT (gV_of k_1182 k_1184 kp_MO_valueOf k_12 kc_MO_valueOf) rfl rfl rfl hd_MO_valueOf ⟨Nat.le_of_ble_eq_true rfl, Nat.le_of_ble_eq_true rfl⟩) hk (hP.sub (ws' := [(aM, .inr (11, [.int thr, .ref aMst, .int tpd, .ref aMdcs, .ref aMtot, .ref aMfrm, .ref aMsiz, .int frs, .int frt, .ref aMffr, .ref aMfsz, .int top_23, .int bgn_23, .int mst_23, .int (b2i ovr_23), .int (b2i tgr), .int lvs, .ref aMlkd, .ref aMlat, .ref aMkkd, .ref aMkat, .ref aModr, .ref aMgrp, .int its, .ref aMikd, .ref aMiat, .long hgh, .long loo, .int (b2i dfl)])), (aMst, .inl (cI, 136400, .inl st_23))]) [0, 1] rfl) (q0 := 0) rfl rfl rfl rfl hl.1 rfl (Nat.le_of_ble_eq_true rfl) d_MO_unwind_140 ⟨Nat.zero_le _, Nat.zero_le _⟩ ?_
      rcases h_27 : tw_MO_thr0 fu bgn_23 mst_23 top_23 ovr_23 st_23 (frm x2.toNatClampNeg) x1 (st_23 x6.toNatClampNeg) r_26 with _ | w_27
      · exact op_no hs (by rw [hV, tw_MO_unwind_h111, if_neg c_22, h_23, ob6_mk, if_pos c_24, if_pos c_25, h_26, ob1_mk, h_27, ob3_no])
      refine mt_Vv (As := [.int (frm x2.toNatClampNeg), .int x1, .int (st_23 x6.toNatClampNeg), .int r_26]) (rest := []) (wr := [(aMdcs, .inl (cI, 2, .inl dcs)), (aMfrm, .inl (cI, 400, .inl frm)), (aMsiz, .inl (cI, 400, .inl siz)), (aMffr, .inl (cI, 200, .inl ffr)), (aMfsz, .inl (cI, 200, .inl fsz))]) ⟨hx, hb, hml, hown, hT⟩ (c_tw_MO_thr0 l D cB cI aM aMst aMdcs aMtot aMfrm aMsiz aMffr aMfsz aMlkd aMlat aMkkd aMkat aModr aMgrp aMikd aMiat fu thr tpd frs frt bgn_23 mst_23 tgr lvs its hgh loo dfl _ top_23 ovr_23 st_23 (frm x2.toNatClampNeg) x1 (st_23 x6.toNatClampNeg) r_26 w_27 h_27) (cwV 4 hT (gV_of k_1391 k_1393 kp_MO_through k_12 kc_MO_through) rfl rfl rfl hd_MO_through ⟨Nat.le_of_ble_eq_true rfl, Nat.le_of_ble_eq_true rfl⟩) hk hP hD hS hA [0, 1] [2, 3, 4, 5, 6] rfl rfl rfl (by decide) (by decide) (by decide) (q0 := 0) rfl rfl rfl rfl hl.1 rfl (Nat.le_of_ble_eq_true rfl) d_MO_unwind_143 ⟨Nat.zero_le _, Nat.zero_le _⟩ (fun u_27 H locs hw_27 hP hD hS => ?_)
      subst hw_27
      obtain ⟨top_27, ovr_27, st_27⟩ := u_27
      have hP : va_P D vwCl [(aM, .inr (11, [.int thr, .ref aMst, .int tpd, .ref aMdcs, .ref aMtot, .ref aMfrm, .ref aMsiz, .int frs, .int frt, .ref aMffr, .ref aMfsz, .int top_27, .int bgn_23, .int mst_23, .int (b2i ovr_27), .int (b2i tgr), .int lvs, .ref aMlkd, .ref aMlat, .ref aMkkd, .ref aMkat, .ref aModr, .ref aMgrp, .int its, .ref aMikd, .ref aMiat, .long hgh, .long loo, .int (b2i dfl)])), (aMst, .inl (cI, 136400, .inl st_27)), (aMdcs, .inl (cI, 2, .inl dcs)), (aMfrm, .inl (cI, 400, .inl frm)), (aMsiz, .inl (cI, 400, .inl siz)), (aMffr, .inl (cI, 200, .inl ffr)), (aMfsz, .inl (cI, 200, .inl fsz))] H := hP.sub [5, 6, 0, 1, 2, 3, 4] rfl
      have hD : va_D A [(aM, .inr (11, [.int thr, .ref aMst, .int tpd, .ref aMdcs, .ref aMtot, .ref aMfrm, .ref aMsiz, .int frs, .int frt, .ref aMffr, .ref aMfsz, .int top_27, .int bgn_23, .int mst_23, .int (b2i ovr_27), .int (b2i tgr), .int lvs, .ref aMlkd, .ref aMlat, .ref aMkkd, .ref aMkat, .ref aModr, .ref aMgrp, .int its, .ref aMikd, .ref aMiat, .long hgh, .long loo, .int (b2i dfl)])), (aMst, .inl (cI, 136400, .inl st_27)), (aMdcs, .inl (cI, 2, .inl dcs)), (aMfrm, .inl (cI, 400, .inl frm)), (aMsiz, .inl (cI, 400, .inl siz)), (aMffr, .inl (cI, 200, .inl ffr)), (aMfsz, .inl (cI, 200, .inl fsz))] := hD.sub [5, 6, 0, 1, 2, 3, 4] (by decide) rfl
      refine lv_aload_n hx hb d_MO_unwind_146 rfl (lv_at hl 1 rfl) ?_
      refine lv_iload hx hb d_MO_unwind_147 (lv_at hl 0 rfl) ?_
      rcases h_28 : tw_MO_endDocument fu bgn_23 mst_23 frs frt top_27 ovr_27 tgr st_27 ffr fsz r_23 with _ | w_28
      · exact op_no hs (by rw [hV, tw_MO_unwind_h111, if_neg c_22, h_23, ob6_mk, if_pos c_24, if_pos c_25, h_26, ob1_mk, h_27, ob3_mk, h_28, ob8_no])
      refine mt_Vv (As := [.int r_23]) (rest := []) (wr := [(aMdcs, .inl (cI, 2, .inl dcs)), (aMfrm, .inl (cI, 400, .inl frm)), (aMsiz, .inl (cI, 400, .inl siz))]) ⟨hx, hb, hml, hown, hT⟩ (c_MO_endDocument l D cB cI aM aMst aMdcs aMtot aMfrm aMsiz aMffr aMfsz aMlkd aMlat aMkkd aMkat aModr aMgrp aMikd aMiat fu thr tpd bgn_23 mst_23 lvs its hgh loo dfl _ frs frt top_27 ovr_27 tgr st_27 ffr fsz r_23 w_28 h_28) (cwV 1 hT (gV_of k_1379 k_1381 kp_MO_endDocument k_12 kc_MO_endDocument) rfl rfl rfl hd_MO_endDocument ⟨Nat.le_of_ble_eq_true rfl, Nat.le_of_ble_eq_true rfl⟩) hk hP hD hS hA [0, 1, 5, 6] [2, 3, 4] rfl rfl rfl (by decide) (by decide) (by decide) (q0 := 0) rfl rfl rfl rfl hl.1 rfl (Nat.le_of_ble_eq_true rfl) d_MO_unwind_149 ⟨Nat.zero_le _, Nat.zero_le _⟩ (fun u_28 H locs hw_28 hP hD hS => ?_)
      subst hw_28
      obtain ⟨frs_28, frt_28, top_28, ovr_28, tgr_28, st_28, ffr_28, fsz_28⟩ := u_28
      have hP : va_P D vwCl [(aM, .inr (11, [.int thr, .ref aMst, .int tpd, .ref aMdcs, .ref aMtot, .ref aMfrm, .ref aMsiz, .int frs_28, .int frt_28, .ref aMffr, .ref aMfsz, .int top_28, .int bgn_23, .int mst_23, .int (b2i ovr_28), .int (b2i tgr_28), .int lvs, .ref aMlkd, .ref aMlat, .ref aMkkd, .ref aMkat, .ref aModr, .ref aMgrp, .int its, .ref aMikd, .ref aMiat, .long hgh, .long loo, .int (b2i dfl)])), (aMst, .inl (cI, 136400, .inl st_28)), (aMdcs, .inl (cI, 2, .inl dcs)), (aMfrm, .inl (cI, 400, .inl frm)), (aMsiz, .inl (cI, 400, .inl siz)), (aMffr, .inl (cI, 200, .inl ffr_28)), (aMfsz, .inl (cI, 200, .inl fsz_28))] H := hP.sub [3, 4, 0, 1, 2, 5, 6] rfl
      have hD : va_D A [(aM, .inr (11, [.int thr, .ref aMst, .int tpd, .ref aMdcs, .ref aMtot, .ref aMfrm, .ref aMsiz, .int frs_28, .int frt_28, .ref aMffr, .ref aMfsz, .int top_28, .int bgn_23, .int mst_23, .int (b2i ovr_28), .int (b2i tgr_28), .int lvs, .ref aMlkd, .ref aMlat, .ref aMkkd, .ref aMkat, .ref aModr, .ref aMgrp, .int its, .ref aMikd, .ref aMiat, .long hgh, .long loo, .int (b2i dfl)])), (aMst, .inl (cI, 136400, .inl st_28)), (aMdcs, .inl (cI, 2, .inl dcs)), (aMfrm, .inl (cI, 400, .inl frm)), (aMsiz, .inl (cI, 400, .inl siz)), (aMffr, .inl (cI, 200, .inl ffr_28)), (aMfsz, .inl (cI, 200, .inl fsz_28))] := hD.sub [3, 4, 0, 1, 2, 5, 6] (by decide) rfl
      refine lv_aload_n hx hb d_MO_unwind_152 rfl (lv_at hl 1 rfl) ?_
      refine lv_iload hx hb d_MO_unwind_153 (lv_at hl 4 rfl) ?_
      rcases h_29 : tw_MO_nextOf fu st_28 x6 with _ | r_29
      · exact op_no hs (by rw [hV, tw_MO_unwind_h111, if_neg c_22, h_23, ob6_mk, if_pos c_24, if_pos c_25, h_26, ob1_mk, h_27, ob3_mk, h_28, ob8_mk, h_29, ob1_no])
      refine rd_V (val := r_29) (As := [.int x6]) (rest := []) ⟨hx, hb, hml, hown, hT⟩ (c_MO_nextOf l D cB cI aM aMst aMdcs aMtot aMfrm aMsiz aMffr aMfsz aMlkd aMlat aMkkd aMkat aModr aMgrp aMikd aMiat fu thr tpd frs_28 frt_28 top_28 bgn_23 mst_23 ovr_28 tgr_28 lvs its hgh loo dfl st_28 x6 r_29 h_29) (cwV 1 hT (gV_of k_1204 k_1206 kp_MO_nextOf k_12 kc_MO_nextOf) rfl rfl rfl hd_MO_nextOf ⟨Nat.le_of_ble_eq_true rfl, Nat.le_of_ble_eq_true rfl⟩) hk (hP.sub (ws' := [(aM, .inr (11, [.int thr, .ref aMst, .int tpd, .ref aMdcs, .ref aMtot, .ref aMfrm, .ref aMsiz, .int frs_28, .int frt_28, .ref aMffr, .ref aMfsz, .int top_28, .int bgn_23, .int mst_23, .int (b2i ovr_28), .int (b2i tgr_28), .int lvs, .ref aMlkd, .ref aMlat, .ref aMkkd, .ref aMkat, .ref aModr, .ref aMgrp, .int its, .ref aMikd, .ref aMiat, .long hgh, .long loo, .int (b2i dfl)])), (aMst, .inl (cI, 136400, .inl st_28))]) [0, 1] rfl) (q0 := 0) rfl rfl rfl rfl hl.1 rfl (Nat.le_of_ble_eq_true rfl) d_MO_unwind_155 ⟨Nat.zero_le _, Nat.zero_le _⟩ ?_
      refine lv_istore (lv' := [(6, .int r_29), (7, .int r_23), (0, .ref aM), (1, .int x1), (2, .int x2)]) hx hb d_MO_unwind_158 hl (by decide) rfl (fun ls hl => ?_)
      refine lv_goto (tgt := 111) hx hb d_MO_unwind_160 (by decide) ?_
      exact ih r_29 frs_28 frt_28 top_28 bgn_23 mst_23 ovr_28 tgr_28 st_28 ffr_28 fsz_28 (by rw [hV, tw_MO_unwind_h111, if_neg c_22, h_23, ob6_mk, if_pos c_24, if_pos c_25, h_26, ob1_mk, h_27, ob3_mk, h_28, ob8_mk, h_29, ob1_mk]) _ _ hP hD hS ls (lv_sub hl [2, 3, 4, 0] rfl)
set_option maxHeartbeats 4000000 in
set_option maxRecDepth 100000 in
theorem l_MO_unwind_r98 {p : Program} {e : Env} {s : State} {m : MethodId} {args : Array Value} {below : List Frame} {meth : Method} {c : Code} {V : Option (Int32 × Int32 × Int32 × Int32 × Int32 × Bool × Bool × (Nat → Int32) × (Nat → Int32) × (Nat → Int32))} {V0 : Int32 × Int32 × Int32 × Int32 × Int32 × Bool × Bool × (Nat → Int32) × (Nat → Int32) × (Nat → Int32)} (C0 : lc_C p s m meth c args b_MO_unwind 8 none R_MO lw_g) (hs : V = some V0) (l : Launch) (D : va_G) (cB cI : ClassId) (aM aMst aMdcs aMtot aMfrm aMsiz aMffr aMfsz aMlkd aMlat aMkkd aMkat aModr aMgrp aMikd aMiat : Nat) (fu : Nat) (thr : Int32) (tpd : Int32) (lvs : Int32) (its : Int32) (hgh : Int64) (loo : Int64) (dfl : Bool) (dcs : Nat → Int32) (frm : Nat → Int32) (siz : Nat → Int32)  {A : Nat → Prop} (hk : hk_ D cB cI s) (hA : ∀ q : Nat, s.heap.size ≤ q → A q) (x1 : Int32) (x2 : Int32) (x3 : Int32) (x4 : Int32) (frs : Int32) (frt : Int32) (top : Int32) (bgn : Int32) (mst : Int32) (ovr : Bool) (tgr : Bool) (st : Nat → Int32) (ffr : Nat → Int32) (fsz : Nat → Int32) {K : Int32 → Int32 → Int32 → Int32 → Int32 → Bool → Bool → (Nat → Int32) → (Nat → Int32) → (Nat → Int32) → Option (Int32 × Int32 × Int32 × Int32 × Int32 × Bool × Bool × (Nat → Int32) × (Nat → Int32) × (Nat → Int32))} (hKx : ∀ (frs' : Int32) (frt' : Int32) (top' : Int32) (bgn' : Int32) (mst' : Int32) (ovr' : Bool) (tgr' : Bool) (st' : Nat → Int32) (ffr' : Nat → Int32) (fsz' : Nat → Int32), V = K frs' frt' top' bgn' mst' ovr' tgr' st' ffr' fsz' → ∀ (H : Heap) (locs : List Loc), va_P D vwCl [(aM, .inr (11, [.int thr, .ref aMst, .int tpd, .ref aMdcs, .ref aMtot, .ref aMfrm, .ref aMsiz, .int frs', .int frt', .ref aMffr, .ref aMfsz, .int top', .int bgn', .int mst', .int (b2i ovr'), .int (b2i tgr'), .int lvs, .ref aMlkd, .ref aMlat, .ref aMkkd, .ref aMkat, .ref aModr, .ref aMgrp, .int its, .ref aMikd, .ref aMiat, .long hgh, .long loo, .int (b2i dfl)])), (aMst, .inl (cI, 136400, .inl st')), (aMdcs, .inl (cI, 2, .inl dcs)), (aMfrm, .inl (cI, 400, .inl frm)), (aMsiz, .inl (cI, 400, .inl siz)), (aMffr, .inl (cI, 200, .inl ffr')), (aMfsz, .inl (cI, 200, .inl fsz'))] H → va_D A [(aM, .inr (11, [.int thr, .ref aMst, .int tpd, .ref aMdcs, .ref aMtot, .ref aMfrm, .ref aMsiz, .int frs', .int frt', .ref aMffr, .ref aMfsz, .int top', .int bgn', .int mst', .int (b2i ovr'), .int (b2i tgr'), .int lvs, .ref aMlkd, .ref aMlat, .ref aMkkd, .ref aMkat, .ref aModr, .ref aMgrp, .int its, .ref aMikd, .ref aMiat, .long hgh, .long loo, .int (b2i dfl)])), (aMst, .inl (cI, 136400, .inl st')), (aMdcs, .inl (cI, 2, .inl dcs)), (aMfrm, .inl (cI, 400, .inl frm)), (aMsiz, .inl (cI, 400, .inl siz)), (aMffr, .inl (cI, 200, .inl ffr')), (aMfsz, .inl (cI, 200, .inl fsz'))] → va_S A s.heap H locs → ∀ ls : Array Slot, lv_has ls 8 [(0, .ref aM), (1, .int x1), (2, .int x2)] → W p l e ({ frames := 163, cells := 0, slots := 0, locals := 4870 }) s m args below meth c H locs 0 0 (MQ below (va_Qv (fun (u : Int32 × Int32 × Int32 × Int32 × Int32 × Bool × Bool × (Nat → Int32) × (Nat → Int32) × (Nat → Int32)) => u = V0) (mt_B D A (fun u => wd_MO_unwind aM aMst aMdcs aMtot aMfrm aMsiz aMffr aMfsz aMlkd aMlat aMkkd aMkat aModr aMgrp aMikd aMiat cB cI thr tpd lvs its hgh loo dfl dcs frm siz u.1 u.2.1 u.2.2.1 u.2.2.2.1 u.2.2.2.2.1 u.2.2.2.2.2.1 u.2.2.2.2.2.2.1 u.2.2.2.2.2.2.2.1 u.2.2.2.2.2.2.2.2.1 u.2.2.2.2.2.2.2.2.2)) A) args s 0 0 A) (F0 m 181 ls [])) (hV : V = tw_MO_unwind_r98 fu dcs frm siz K x1 x2 x3 x4 frs frt top bgn mst ovr tgr st ffr fsz) : ∀ (H : Heap) (locs : List Loc), va_P D vwCl [(aM, .inr (11, [.int thr, .ref aMst, .int tpd, .ref aMdcs, .ref aMtot, .ref aMfrm, .ref aMsiz, .int frs, .int frt, .ref aMffr, .ref aMfsz, .int top, .int bgn, .int mst, .int (b2i ovr), .int (b2i tgr), .int lvs, .ref aMlkd, .ref aMlat, .ref aMkkd, .ref aMkat, .ref aModr, .ref aMgrp, .int its, .ref aMikd, .ref aMiat, .long hgh, .long loo, .int (b2i dfl)])), (aMst, .inl (cI, 136400, .inl st)), (aMdcs, .inl (cI, 2, .inl dcs)), (aMfrm, .inl (cI, 400, .inl frm)), (aMsiz, .inl (cI, 400, .inl siz)), (aMffr, .inl (cI, 200, .inl ffr)), (aMfsz, .inl (cI, 200, .inl fsz))] H → va_D A [(aM, .inr (11, [.int thr, .ref aMst, .int tpd, .ref aMdcs, .ref aMtot, .ref aMfrm, .ref aMsiz, .int frs, .int frt, .ref aMffr, .ref aMfsz, .int top, .int bgn, .int mst, .int (b2i ovr), .int (b2i tgr), .int lvs, .ref aMlkd, .ref aMlat, .ref aMkkd, .ref aMkat, .ref aModr, .ref aMgrp, .int its, .ref aMikd, .ref aMiat, .long hgh, .long loo, .int (b2i dfl)])), (aMst, .inl (cI, 136400, .inl st)), (aMdcs, .inl (cI, 2, .inl dcs)), (aMfrm, .inl (cI, 400, .inl frm)), (aMsiz, .inl (cI, 400, .inl siz)), (aMffr, .inl (cI, 200, .inl ffr)), (aMfsz, .inl (cI, 200, .inl fsz))] → va_S A s.heap H locs → ∀ ls : Array Slot, lv_has ls 8 [(0, .ref aM), (1, .int x1), (2, .int x2), (3, .int x3), (4, .int x4)] → W p l e ({ frames := 163, cells := 0, slots := 0, locals := 4870 }) s m args below meth c H locs 0 0 (MQ below (va_Qv (fun (u : Int32 × Int32 × Int32 × Int32 × Int32 × Bool × Bool × (Nat → Int32) × (Nat → Int32) × (Nat → Int32)) => u = V0) (mt_B D A (fun u => wd_MO_unwind aM aMst aMdcs aMtot aMfrm aMsiz aMffr aMfsz aMlkd aMlat aMkkd aMkat aModr aMgrp aMikd aMiat cB cI thr tpd lvs its hgh loo dfl dcs frm siz u.1 u.2.1 u.2.2.1 u.2.2.2.1 u.2.2.2.2.1 u.2.2.2.2.2.1 u.2.2.2.2.2.2.1 u.2.2.2.2.2.2.2.1 u.2.2.2.2.2.2.2.2.1 u.2.2.2.2.2.2.2.2.2)) A) args s 0 0 A) (F0 m 98 ls []) := by
  obtain ⟨hx, hb, hml, hr, hown, hlocks, hT⟩ := id C0
  have hK := hk.1
  have hN := hk.2.1
  intro H locs hP hD hS ls hl
  refine lv_iload_n hx hb d_MO_unwind_98 rfl (lv_at hl 3 rfl) ?_
  refine lv_iconst (v := 4) hx hb d_MO_unwind_99 (by decide) ?_
  refine lv_icmp_ne (tgt := 166) hx hb d_MO_unwind_100 (by decide) (fun c_17 => ?_) (fun c_17 => ?_)
  · refine lv_iload_n hx hb d_MO_unwind_166 rfl (lv_at hl 3 rfl) ?_
    refine lv_if_eq (tgt := 181) hx hb d_MO_unwind_167 (by decide) (fun c_18 => ?_) (fun c_18 => ?_)
    · exact hKx frs frt top bgn mst ovr tgr st ffr fsz (by rw [hV, tw_MO_unwind_r98, if_neg c_17, if_pos c_18]) _ _ hP hD hS ls (lv_sub hl [0, 1, 2] rfl)
    · refine lv_iload_n hx hb d_MO_unwind_170 rfl (lv_at hl 3 rfl) ?_
      refine lv_bipush (v := 10) hx hb d_MO_unwind_171 (by decide) ?_
      refine lv_icmp_eq (tgt := 181) hx hb d_MO_unwind_173 (by decide) (fun c_19 => ?_) (fun c_19 => ?_)
      · exact hKx frs frt top bgn mst ovr tgr st ffr fsz (by rw [hV, tw_MO_unwind_r98, if_neg c_17, if_neg c_18, if_pos c_19]) _ _ hP hD hS ls (lv_sub hl [0, 1, 2] rfl)
      · refine lv_aload_n hx hb d_MO_unwind_176 rfl (lv_at hl 0 rfl) ?_
        refine lv_iload_n hx hb d_MO_unwind_177 rfl (lv_at hl 2 rfl) ?_
        rcases h_20 : tw_MO_keep fu frm siz frs frt top bgn mst ovr tgr st ffr fsz x2 with _ | w_20
        · exact op_no hs (by rw [hV, tw_MO_unwind_r98, if_neg c_17, if_neg c_18, if_neg c_19, h_20, ob10_no])
        refine mt_Vv (As := [.int x2]) (rest := []) (wr := [(aMdcs, .inl (cI, 2, .inl dcs))]) ⟨hx, hb, hml, hown, hT⟩ (c_MO_keep l D cB cI aM aMst aMdcs aMtot aMfrm aMsiz aMffr aMfsz aMlkd aMlat aMkkd aMkat aModr aMgrp aMikd aMiat fu thr tpd lvs its hgh loo dfl frm siz _ frs frt top bgn mst ovr tgr st ffr fsz x2 w_20 h_20) (cwV 1 hT (gV_of k_1395 k_1397 kp_MO_keep k_12 kc_MO_keep) rfl rfl rfl hd_MO_keep ⟨Nat.le_of_ble_eq_true rfl, Nat.le_of_ble_eq_true rfl⟩) hk hP hD hS hA [0, 1, 3, 4, 5, 6] [2] rfl rfl rfl (by decide) (by decide) (by decide) (q0 := 0) rfl rfl rfl rfl hl.1 rfl (Nat.le_of_ble_eq_true rfl) d_MO_unwind_178 ⟨Nat.zero_le _, Nat.zero_le _⟩ (fun u_20 H locs hw_20 hP hD hS => ?_)
        subst hw_20
        obtain ⟨frs_20, frt_20, top_20, bgn_20, mst_20, ovr_20, tgr_20, st_20, ffr_20, fsz_20⟩ := u_20
        have hP : va_P D vwCl [(aM, .inr (11, [.int thr, .ref aMst, .int tpd, .ref aMdcs, .ref aMtot, .ref aMfrm, .ref aMsiz, .int frs_20, .int frt_20, .ref aMffr, .ref aMfsz, .int top_20, .int bgn_20, .int mst_20, .int (b2i ovr_20), .int (b2i tgr_20), .int lvs, .ref aMlkd, .ref aMlat, .ref aMkkd, .ref aMkat, .ref aModr, .ref aMgrp, .int its, .ref aMikd, .ref aMiat, .long hgh, .long loo, .int (b2i dfl)])), (aMst, .inl (cI, 136400, .inl st_20)), (aMdcs, .inl (cI, 2, .inl dcs)), (aMfrm, .inl (cI, 400, .inl frm)), (aMsiz, .inl (cI, 400, .inl siz)), (aMffr, .inl (cI, 200, .inl ffr_20)), (aMfsz, .inl (cI, 200, .inl fsz_20))] H := hP.sub [1, 2, 0, 3, 4, 5, 6] rfl
        have hD : va_D A [(aM, .inr (11, [.int thr, .ref aMst, .int tpd, .ref aMdcs, .ref aMtot, .ref aMfrm, .ref aMsiz, .int frs_20, .int frt_20, .ref aMffr, .ref aMfsz, .int top_20, .int bgn_20, .int mst_20, .int (b2i ovr_20), .int (b2i tgr_20), .int lvs, .ref aMlkd, .ref aMlat, .ref aMkkd, .ref aMkat, .ref aModr, .ref aMgrp, .int its, .ref aMikd, .ref aMiat, .long hgh, .long loo, .int (b2i dfl)])), (aMst, .inl (cI, 136400, .inl st_20)), (aMdcs, .inl (cI, 2, .inl dcs)), (aMfrm, .inl (cI, 400, .inl frm)), (aMsiz, .inl (cI, 400, .inl siz)), (aMffr, .inl (cI, 200, .inl ffr_20)), (aMfsz, .inl (cI, 200, .inl fsz_20))] := hD.sub [1, 2, 0, 3, 4, 5, 6] (by decide) rfl
        exact hKx frs_20 frt_20 top_20 bgn_20 mst_20 ovr_20 tgr_20 st_20 ffr_20 fsz_20 (by rw [hV, tw_MO_unwind_r98, if_neg c_17, if_neg c_18, if_neg c_19, h_20, ob10_mk]) _ _ hP hD hS ls (lv_sub hl [0, 1, 2] rfl)
  · refine lv_aload_n hx hb d_MO_unwind_103 rfl (lv_at hl 0 rfl) ?_
    refine lv_iload hx hb d_MO_unwind_104 (lv_at hl 4 rfl) ?_
    rcases h_21 : tw_MO_firstOf fu st x4 with _ | r_21
    · exact op_no hs (by rw [hV, tw_MO_unwind_r98, if_pos c_17, h_21, ob1_no])
    refine rd_V (val := r_21) (As := [.int x4]) (rest := []) ⟨hx, hb, hml, hown, hT⟩ (c_MO_firstOf l D cB cI aM aMst aMdcs aMtot aMfrm aMsiz aMffr aMfsz aMlkd aMlat aMkkd aMkat aModr aMgrp aMikd aMiat fu thr tpd frs frt top bgn mst ovr tgr lvs its hgh loo dfl st x4 r_21 h_21) (cwV 1 hT (gV_of k_1196 k_1198 kp_MO_firstOf k_12 kc_MO_firstOf) rfl rfl rfl hd_MO_firstOf ⟨Nat.le_of_ble_eq_true rfl, Nat.le_of_ble_eq_true rfl⟩) hk (hP.sub (ws' := [(aM, .inr (11, [.int thr, .ref aMst, .int tpd, .ref aMdcs, .ref aMtot, .ref aMfrm, .ref aMsiz, .int frs, .int frt, .ref aMffr, .ref aMfsz, .int top, .int bgn, .int mst, .int (b2i ovr), .int (b2i tgr), .int lvs, .ref aMlkd, .ref aMlat, .ref aMkkd, .ref aMkat, .ref aModr, .ref aMgrp, .int its, .ref aMikd, .ref aMiat, .long hgh, .long loo, .int (b2i dfl)])), (aMst, .inl (cI, 136400, .inl st))]) [0, 1] rfl) (q0 := 0) rfl rfl rfl rfl hl.1 rfl (Nat.le_of_ble_eq_true rfl) d_MO_unwind_106 ⟨Nat.zero_le _, Nat.zero_le _⟩ ?_
    refine lv_istore (lv' := [(6, .int r_21), (0, .ref aM), (1, .int x1), (2, .int x2), (3, .int x3), (4, .int x4)]) hx hb d_MO_unwind_109 hl (by decide) rfl (fun ls hl => ?_)
    refine l_MO_unwind_h111 C0 hs l D cB cI aM aMst aMdcs aMtot aMfrm aMsiz aMffr aMfsz aMlkd aMlat aMkkd aMkat aModr aMgrp aMikd aMiat fu thr tpd lvs its hgh loo dfl dcs frm siz hk hA x1 x2  (K := (fun (x6_30 : Int32) (frs_30 : Int32) (frt_30 : Int32) (top_30 : Int32) (bgn_30 : Int32) (mst_30 : Int32) (ovr_30 : Bool) (tgr_30 : Bool) (st_30 : Nat → Int32) (ffr_30 : Nat → Int32) (fsz_30 : Nat → Int32) =>
        K frs_30 frt_30 top_30 bgn_30 mst_30 ovr_30 tgr_30 st_30 ffr_30 fsz_30)) ?_ fu r_21 frs frt top bgn mst ovr tgr st ffr fsz  (by rw [hV, tw_MO_unwind_r98, if_pos c_17, h_21, ob1_mk]) _ _ hP hD hS ls (lv_sub hl [1, 2, 3, 0] rfl)
    intro x6_30 frs_30 frt_30 top_30 bgn_30 mst_30 ovr_30 tgr_30 st_30 ffr_30 fsz_30 hV_30 H locs hP hD hS ls hl
    refine lv_goto (tgt := 181) hx hb d_MO_unwind_163 (by decide) ?_
    exact hKx frs_30 frt_30 top_30 bgn_30 mst_30 ovr_30 tgr_30 st_30 ffr_30 fsz_30 (by rw [hV_30]) _ _ hP hD hS ls (lv_sub hl [0, 1, 2] rfl)
set_option maxHeartbeats 4000000 in
set_option maxRecDepth 100000 in
theorem l_MO_unwind_h2 {p : Program} {e : Env} {s : State} {m : MethodId} {args : Array Value} {below : List Frame} {meth : Method} {c : Code} {V : Option (Int32 × Int32 × Int32 × Int32 × Int32 × Bool × Bool × (Nat → Int32) × (Nat → Int32) × (Nat → Int32))} {V0 : Int32 × Int32 × Int32 × Int32 × Int32 × Bool × Bool × (Nat → Int32) × (Nat → Int32) × (Nat → Int32)} (C0 : lc_C p s m meth c args b_MO_unwind 8 none R_MO lw_g) (hs : V = some V0) (l : Launch) (D : va_G) (cB cI : ClassId) (aM aMst aMdcs aMtot aMfrm aMsiz aMffr aMfsz aMlkd aMlat aMkkd aMkat aModr aMgrp aMikd aMiat : Nat) (fu : Nat) (thr : Int32) (tpd : Int32) (lvs : Int32) (its : Int32) (hgh : Int64) (loo : Int64) (dfl : Bool) (dcs : Nat → Int32) (frm : Nat → Int32) (siz : Nat → Int32) {A : Nat → Prop} (hk : hk_ D cB cI s) (hA : ∀ q : Nat, s.heap.size ≤ q → A q) (p0 : Int32) {K : Int32 → Int32 → Int32 → Int32 → Int32 → Int32 → Bool → Bool → (Nat → Int32) → (Nat → Int32) → (Nat → Int32) → Option (Int32 × Int32 × Int32 × Int32 × Int32 × Bool × Bool × (Nat → Int32) × (Nat → Int32) × (Nat → Int32))} (hKx : ∀ (x2 : Int32) (frs : Int32) (frt : Int32) (top : Int32) (bgn : Int32) (mst : Int32) (ovr : Bool) (tgr : Bool) (st : Nat → Int32) (ffr : Nat → Int32) (fsz : Nat → Int32), V = K x2 frs frt top bgn mst ovr tgr st ffr fsz → ∀ (H : Heap) (locs : List Loc), va_P D vwCl [(aM, .inr (11, [.int thr, .ref aMst, .int tpd, .ref aMdcs, .ref aMtot, .ref aMfrm, .ref aMsiz, .int frs, .int frt, .ref aMffr, .ref aMfsz, .int top, .int bgn, .int mst, .int (b2i ovr), .int (b2i tgr), .int lvs, .ref aMlkd, .ref aMlat, .ref aMkkd, .ref aMkat, .ref aModr, .ref aMgrp, .int its, .ref aMikd, .ref aMiat, .long hgh, .long loo, .int (b2i dfl)])), (aMst, .inl (cI, 136400, .inl st)), (aMdcs, .inl (cI, 2, .inl dcs)), (aMfrm, .inl (cI, 400, .inl frm)), (aMsiz, .inl (cI, 400, .inl siz)), (aMffr, .inl (cI, 200, .inl ffr)), (aMfsz, .inl (cI, 200, .inl fsz))] H → va_D A [(aM, .inr (11, [.int thr, .ref aMst, .int tpd, .ref aMdcs, .ref aMtot, .ref aMfrm, .ref aMsiz, .int frs, .int frt, .ref aMffr, .ref aMfsz, .int top, .int bgn, .int mst, .int (b2i ovr), .int (b2i tgr), .int lvs, .ref aMlkd, .ref aMlat, .ref aMkkd, .ref aMkat, .ref aModr, .ref aMgrp, .int its, .ref aMikd, .ref aMiat, .long hgh, .long loo, .int (b2i dfl)])), (aMst, .inl (cI, 136400, .inl st)), (aMdcs, .inl (cI, 2, .inl dcs)), (aMfrm, .inl (cI, 400, .inl frm)), (aMsiz, .inl (cI, 400, .inl siz)), (aMffr, .inl (cI, 200, .inl ffr)), (aMfsz, .inl (cI, 200, .inl fsz))] → va_S A s.heap H locs → ∀ ls : Array Slot, lv_has ls 8 [] → W p l e ({ frames := 163, cells := 0, slots := 0, locals := 4870 }) s m args below meth c H locs 0 0 (MQ below (va_Qv (fun (u : Int32 × Int32 × Int32 × Int32 × Int32 × Bool × Bool × (Nat → Int32) × (Nat → Int32) × (Nat → Int32)) => u = V0) (mt_B D A (fun u => wd_MO_unwind aM aMst aMdcs aMtot aMfrm aMsiz aMffr aMfsz aMlkd aMlat aMkkd aMkat aModr aMgrp aMikd aMiat cB cI thr tpd lvs its hgh loo dfl dcs frm siz u.1 u.2.1 u.2.2.1 u.2.2.2.1 u.2.2.2.2.1 u.2.2.2.2.2.1 u.2.2.2.2.2.2.1 u.2.2.2.2.2.2.2.1 u.2.2.2.2.2.2.2.2.1 u.2.2.2.2.2.2.2.2.2)) A) args s 0 0 A) (F0 m 187 ls [])) : ∀ (n : Nat) (x2 : Int32) (frs : Int32) (frt : Int32) (top : Int32) (bgn : Int32) (mst : Int32) (ovr : Bool) (tgr : Bool) (st : Nat → Int32) (ffr : Nat → Int32) (fsz : Nat → Int32), V = tw_MO_unwind_h2 fu dcs frm siz K p0 n x2 frs frt top bgn mst ovr tgr st ffr fsz → ∀ (H : Heap) (locs : List Loc), va_P D vwCl [(aM, .inr (11, [.int thr, .ref aMst, .int tpd, .ref aMdcs, .ref aMtot, .ref aMfrm, .ref aMsiz, .int frs, .int frt, .ref aMffr, .ref aMfsz, .int top, .int bgn, .int mst, .int (b2i ovr), .int (b2i tgr), .int lvs, .ref aMlkd, .ref aMlat, .ref aMkkd, .ref aMkat, .ref aModr, .ref aMgrp, .int its, .ref aMikd, .ref aMiat, .long hgh, .long loo, .int (b2i dfl)])), (aMst, .inl (cI, 136400, .inl st)), (aMdcs, .inl (cI, 2, .inl dcs)), (aMfrm, .inl (cI, 400, .inl frm)), (aMsiz, .inl (cI, 400, .inl siz)), (aMffr, .inl (cI, 200, .inl ffr)), (aMfsz, .inl (cI, 200, .inl fsz))] H → va_D A [(aM, .inr (11, [.int thr, .ref aMst, .int tpd, .ref aMdcs, .ref aMtot, .ref aMfrm, .ref aMsiz, .int frs, .int frt, .ref aMffr, .ref aMfsz, .int top, .int bgn, .int mst, .int (b2i ovr), .int (b2i tgr), .int lvs, .ref aMlkd, .ref aMlat, .ref aMkkd, .ref aMkat, .ref aModr, .ref aMgrp, .int its, .ref aMikd, .ref aMiat, .long hgh, .long loo, .int (b2i dfl)])), (aMst, .inl (cI, 136400, .inl st)), (aMdcs, .inl (cI, 2, .inl dcs)), (aMfrm, .inl (cI, 400, .inl frm)), (aMsiz, .inl (cI, 400, .inl siz)), (aMffr, .inl (cI, 200, .inl ffr)), (aMfsz, .inl (cI, 200, .inl fsz))] → va_S A s.heap H locs → ∀ ls : Array Slot, lv_has ls 8 [(0, .ref aM), (1, .int p0), (2, .int x2)] → W p l e ({ frames := 163, cells := 0, slots := 0, locals := 4870 }) s m args below meth c H locs 0 0 (MQ below (va_Qv (fun (u : Int32 × Int32 × Int32 × Int32 × Int32 × Bool × Bool × (Nat → Int32) × (Nat → Int32) × (Nat → Int32)) => u = V0) (mt_B D A (fun u => wd_MO_unwind aM aMst aMdcs aMtot aMfrm aMsiz aMffr aMfsz aMlkd aMlat aMkkd aMkat aModr aMgrp aMikd aMiat cB cI thr tpd lvs its hgh loo dfl dcs frm siz u.1 u.2.1 u.2.2.1 u.2.2.2.1 u.2.2.2.2.1 u.2.2.2.2.2.1 u.2.2.2.2.2.2.1 u.2.2.2.2.2.2.2.1 u.2.2.2.2.2.2.2.2.1 u.2.2.2.2.2.2.2.2.2)) A) args s 0 0 A) (F0 m 2 ls []) := by
  obtain ⟨hx, hb, hml, hr, hown, hlocks, hT⟩ := id C0
  have hK := hk.1
  have hN := hk.2.1
  intro n
  induction n with
  | zero =>
    intro x2 frs frt top bgn mst ovr tgr st ffr fsz hV
    exact op_no hs (hV.trans rfl)
  | succ n ih =>
    intro x2 frs frt top bgn mst ovr tgr st ffr fsz hV H locs hP hD hS ls hl
    refine lv_iload_n hx hb d_MO_unwind_2 rfl (lv_at hl 2 rfl) ?_
    refine lv_aload_n hx hb d_MO_unwind_3 rfl (lv_at hl 0 rfl) ?_
    refine va_get (D := D) (ci := 11) (v := .ref aMdcs) (C := R_MO) (T := T_MO) (N := 29) hx hb hT u_MO hown hK hP 0 rfl rfl 3 (by decide) (hT _ k_1046) (fun _ h9 => h9) rfl d_MO_unwind_4 ?_
    refine lv_iconst (v := 0) hx hb d_MO_unwind_7 (by decide) ?_
    refine va_iald hx hb hK hP 2 1 rfl rfl (by unfold vp_in; decide) d_MO_unwind_8 ?_
    refine lv_icmp_ge (tgt := 187) hx hb d_MO_unwind_9 (by decide) (fun c_1 => ?_) (fun c_1 => ?_)
    · exact hKx x2 frs frt top bgn mst ovr tgr st ffr fsz (by rw [hV, tw_MO_unwind_h2, if_pos c_1]) _ _ hP hD hS ls (lv_sub hl [] rfl)
    · refine lv_iconst (v := 3) hx hb d_MO_unwind_12 (by decide) ?_
      refine lv_istore_n (lv' := [(3, .int 3), (0, .ref aM), (1, .int p0), (2, .int x2)]) hx hb d_MO_unwind_13 rfl hl (by decide) rfl (fun ls hl => ?_)
      refine lv_aload_n hx hb d_MO_unwind_14 rfl (lv_at hl 1 rfl) ?_
      refine va_get (D := D) (ci := 11) (v := .ref aMfrm) (C := R_MO) (T := T_MO) (N := 29) hx hb hT u_MO hown hK hP 0 rfl rfl 5 (by decide) (hT _ k_1048) (fun _ h9 => h9) rfl d_MO_unwind_15 ?_
      refine lv_iload_n hx hb d_MO_unwind_18 rfl (lv_at hl 3 rfl) ?_
      by_cases c_2 : 0 ≤ x2 ∧ x2 < 400
      rotate_left
      · exact op_no hs (by rw [hV, tw_MO_unwind_h2, if_neg c_1, if_neg c_2])
      refine va_iald hx hb hK hP 3 1 rfl rfl (in_pp c_2.1 c_2.2 rfl) d_MO_unwind_19 ?_
      refine lv_istore (lv' := [(4, .int (frm x2.toNatClampNeg)), (3, .int 3), (0, .ref aM), (1, .int p0), (2, .int x2)]) hx hb d_MO_unwind_20 hl (by decide) rfl (fun ls hl => ?_)
      refine lv_iload_n hx hb d_MO_unwind_22 rfl (lv_at hl 3 rfl) ?_
      refine lv_istore (lv' := [(5, .int p0), (4, .int (frm x2.toNatClampNeg)), (3, .int 3), (0, .ref aM), (1, .int p0), (2, .int x2)]) hx hb d_MO_unwind_23 hl (by decide) rfl (fun ls hl => ?_)
      refine l_MO_unwind_h25 C0 hs l D cB cI aM aMst aMdcs aMtot aMfrm aMsiz aMffr aMfsz aMlkd aMlat aMkkd aMkat aModr aMgrp aMikd aMiat fu thr tpd lvs its hgh loo dfl dcs frm siz hk hA p0 x2  (K := (fun (x3_16 : Int32) (x4_16 : Int32) (x5_16 : Int32) (frs_16 : Int32) (frt_16 : Int32) (top_16 : Int32) (bgn_16 : Int32) (mst_16 : Int32) (ovr_16 : Bool) (tgr_16 : Bool) (st_16 : Nat → Int32) (ffr_16 : Nat → Int32) (fsz_16 : Nat → Int32) =>
          tw_MO_unwind_r98 fu dcs frm siz (fun (frs_31 : Int32) (frt_31 : Int32) (top_31 : Int32) (bgn_31 : Int32) (mst_31 : Int32) (ovr_31 : Bool) (tgr_31 : Bool) (st_31 : Nat → Int32) (ffr_31 : Nat → Int32) (fsz_31 : Nat → Int32) =>
          tw_MO_unwind_h2 fu dcs frm siz K p0 n (x2 + 1) frs_31 frt_31 top_31 bgn_31 mst_31 ovr_31 tgr_31 st_31 ffr_31 fsz_31) p0 x2 x3_16 x4_16 frs_16 frt_16 top_16 bgn_16 mst_16 ovr_16 tgr_16 st_16 ffr_16 fsz_16)) ?_ fu 3 (frm x2.toNatClampNeg) p0 frs frt top bgn mst ovr tgr st ffr fsz  (by rw [hV, tw_MO_unwind_h2, if_neg c_1, if_pos c_2]) _ _ hP hD hS ls (lv_sub hl [3, 4, 5, 2, 1, 0] rfl)
      intro x3_16 x4_16 x5_16 frs_16 frt_16 top_16 bgn_16 mst_16 ovr_16 tgr_16 st_16 ffr_16 fsz_16 hV_16 H locs hP hD hS ls hl
      refine l_MO_unwind_r98 C0 hs l D cB cI aM aMst aMdcs aMtot aMfrm aMsiz aMffr aMfsz aMlkd aMlat aMkkd aMkat aModr aMgrp aMikd aMiat fu thr tpd lvs its hgh loo dfl dcs frm siz hk hA p0 x2 x3_16 x4_16 frs_16 frt_16 top_16 bgn_16 mst_16 ovr_16 tgr_16 st_16 ffr_16 fsz_16 (K := (fun (frs_31 : Int32) (frt_31 : Int32) (top_31 : Int32) (bgn_31 : Int32) (mst_31 : Int32) (ovr_31 : Bool) (tgr_31 : Bool) (st_31 : Nat → Int32) (ffr_31 : Nat → Int32) (fsz_31 : Nat → Int32) =>
          tw_MO_unwind_h2 fu dcs frm siz K p0 n (x2 + 1) frs_31 frt_31 top_31 bgn_31 mst_31 ovr_31 tgr_31 st_31 ffr_31 fsz_31)) ?_ (by rw [hV_16]) _ _ hP hD hS ls (lv_sub hl [0, 1, 2, 3, 4] rfl)
      intro frs_31 frt_31 top_31 bgn_31 mst_31 ovr_31 tgr_31 st_31 ffr_31 fsz_31 hV_31 H locs hP hD hS ls hl
      refine lv_iinc (v := x2 + 1) (lv' := [(2, .int (x2 + 1)), (0, .ref aM), (1, .int p0)]) hx hb d_MO_unwind_181 hl (k := 2) rfl rfl (by decide) rfl (fun ls hl => ?_)
      refine lv_goto (tgt := 2) hx hb d_MO_unwind_184 (by decide) ?_
      exact ih (x2 + 1) frs_31 frt_31 top_31 bgn_31 mst_31 ovr_31 tgr_31 st_31 ffr_31 fsz_31 (by rw [hV_31]) _ _ hP hD hS ls (lv_sub hl [1, 2, 0] rfl)
set_option maxHeartbeats 4000000 in
set_option maxRecDepth 100000 in
theorem c_MO_unwind (l : Launch) (D : va_G) (cB cI : ClassId) (aM aMst aMdcs aMtot aMfrm aMsiz aMffr aMfsz aMlkd aMlat aMkkd aMkat aModr aMgrp aMikd aMiat : Nat) (fu : Nat) (thr : Int32) (tpd : Int32) (lvs : Int32) (its : Int32) (hgh : Int64) (loo : Int64) (dfl : Bool) (dcs : Nat → Int32) (frm : Nat → Int32) (siz : Nat → Int32) (sz : Nat) (frs : Int32) (frt : Int32) (top : Int32) (bgn : Int32) (mst : Int32) (ovr : Bool) (tgr : Bool) (st : Nat → Int32) (ffr : Nat → Int32) (fsz : Nat → Int32) (p0 : Int32) (V0 : Int32 × Int32 × Int32 × Int32 × Int32 × Bool × Bool × (Nat → Int32) × (Nat → Int32) × (Nat → Int32)) (hs : tw_MO_unwind fu dcs frm siz frs frt top bgn mst ovr tgr st ffr fsz p0 = some V0) : Met l y_MO_unwind mw_MO_unwind { frames := 163, cells := 0, slots := 0, locals := 4870 } (va_Pc [.ref aM, .int p0] (mt_P D cB cI (wd_MO_unwind aM aMst aMdcs aMtot aMfrm aMsiz aMffr aMfsz aMlkd aMlat aMkkd aMkat aModr aMgrp aMikd aMiat cB cI thr tpd lvs its hgh loo dfl dcs frm siz frs frt top bgn mst ovr tgr st ffr fsz) sz)) (va_Qv (fun (u : Int32 × Int32 × Int32 × Int32 × Int32 × Bool × Bool × (Nat → Int32) × (Nat → Int32) × (Nat → Int32)) => u = V0) (mt_B D (va_A (wd_MO_unwind aM aMst aMdcs aMtot aMfrm aMsiz aMffr aMfsz aMlkd aMlat aMkkd aMkat aModr aMgrp aMikd aMiat cB cI thr tpd lvs its hgh loo dfl dcs frm siz frs frt top bgn mst ovr tgr st ffr fsz) sz) (fun u => wd_MO_unwind aM aMst aMdcs aMtot aMfrm aMsiz aMffr aMfsz aMlkd aMlat aMkkd aMkat aModr aMgrp aMikd aMiat cB cI thr tpd lvs its hgh loo dfl dcs frm siz u.1 u.2.1 u.2.2.1 u.2.2.2.1 u.2.2.2.2.1 u.2.2.2.2.2.1 u.2.2.2.2.2.2.1 u.2.2.2.2.2.2.2.1 u.2.2.2.2.2.2.2.2.1 u.2.2.2.2.2.2.2.2.2)) (va_A (wd_MO_unwind aM aMst aMdcs aMtot aMfrm aMsiz aMffr aMfsz aMlkd aMlat aMkkd aMkat aModr aMgrp aMikd aMiat cB cI thr tpd lvs its hgh loo dfl dcs frm siz frs frt top bgn mst ovr tgr st ffr fsz) sz)) 0 0 (va_A (wd_MO_unwind aM aMst aMdcs aMtot aMfrm aMsiz aMffr aMfsz aMlkd aMlat aMkkd aMkat aModr aMgrp aMikd aMiat cB cI thr tpd lvs its hgh loo dfl dcs frm siz frs frt top bgn mst ovr tgr st ffr fsz) sz) := by
  refine Met.ofW (cc := b_MO_unwind) (maxL := 8) (ret := none) (by decide) rfl ?_
  intro p e s m args below meth c s₁ B0 hml hv
  obtain ⟨rfl, hsz, hP, hk, hD0⟩ := hv
  have hK := hk.1
  have hN := hk.2.1
  have hx := B0.exec
  have hb := B0.bytes
  have hr := B0.returns
  have hT : ∀ w ∈ lw_g, w.before _ s = true := fun w h => atoms_spec (ws := mw_MO_unwind) B0.pre w (List.mem_cons_of_mem _ h)
  have hown : s.vm.findClass R_MO = some m.cls := findClass_of_methodNamed B0.named
  have hlocks := B0.notSynchronized
  subst hsz
  have hD := hD0.self (sz := s.heap.size)
  generalize hAe : va_A [(aM, .inr (11, [.int thr, .ref aMst, .int tpd, .ref aMdcs, .ref aMtot, .ref aMfrm, .ref aMsiz, .int frs, .int frt, .ref aMffr, .ref aMfsz, .int top, .int bgn, .int mst, .int (b2i ovr), .int (b2i tgr), .int lvs, .ref aMlkd, .ref aMlat, .ref aMkkd, .ref aMkat, .ref aModr, .ref aMgrp, .int its, .ref aMikd, .ref aMiat, .long hgh, .long loo, .int (b2i dfl)])), (aMst, .inl (cI, 136400, .inl st)), (aMdcs, .inl (cI, 2, .inl dcs)), (aMfrm, .inl (cI, 400, .inl frm)), (aMsiz, .inl (cI, 400, .inl siz)), (aMffr, .inl (cI, 200, .inl ffr)), (aMfsz, .inl (cI, 200, .inl fsz))] s.heap.size = A at hD ⊢
  have hA : ∀ q : Nat, s.heap.size ≤ q → A q := fun q h => by rw [← hAe]; exact Or.inr h
  have hS : va_S A s.heap s.heap [] := va_S.rf
  have hl := lv_entry ([.ref aM, .int p0]) (n := 8) (Nat.le_of_ble_eq_true rfl)
  rw [lg_entry_eq]
  generalize (lg_sl ([.ref aM, .int p0]) ++ List.replicate (8 - (lg_sl ([.ref aM, .int p0])).length) Slot.unset).toArray = ls at hl ⊢
  have hl : lv_has ls 8 [(0, .ref aM), (1, .int p0)] := hl
  have C0 : lc_C p s m meth c _ b_MO_unwind 8 none R_MO lw_g := ⟨hx, hb, hml, hr, hown, hlocks, hT⟩
  refine lv_iconst (v := 0) hx hb d_MO_unwind_0 (by decide) ?_
  refine lv_istore_n (lv' := [(2, .int 0), (0, .ref aM), (1, .int p0)]) hx hb d_MO_unwind_1 rfl hl (by decide) rfl (fun ls hl => ?_)
  refine l_MO_unwind_h2 C0 hs l D cB cI aM aMst aMdcs aMtot aMfrm aMsiz aMffr aMfsz aMlkd aMlat aMkkd aMkat aModr aMgrp aMikd aMiat fu thr tpd lvs its hgh loo dfl dcs frm siz hk hA p0  (K := (fun (x2_32 : Int32) (frs_32 : Int32) (frt_32 : Int32) (top_32 : Int32) (bgn_32 : Int32) (mst_32 : Int32) (ovr_32 : Bool) (tgr_32 : Bool) (st_32 : Nat → Int32) (ffr_32 : Nat → Int32) (fsz_32 : Nat → Int32) =>
      some (frs_32, frt_32, top_32, bgn_32, mst_32, ovr_32, tgr_32, st_32, ffr_32, fsz_32))) ?_ fu 0 frs frt top bgn mst ovr tgr st ffr fsz  (by rw [tw_MO_unwind]) _ _ hP hD hS ls (lv_sub hl [1, 2, 0] rfl)
  intro x2_32 frs_32 frt_32 top_32 bgn_32 mst_32 ovr_32 tgr_32 st_32 ffr_32 fsz_32 hV_32 H locs hP hD hS ls hl
  exact W.vret hx hb hr (fun t ht hW => ⟨⟨(frs_32, frt_32, top_32, bgn_32, mst_32, ovr_32, tgr_32, st_32, ffr_32, fsz_32), rfl, (op_eq hs (by rw [hV_32])), by rw [ht]; exact hP, hD⟩, hS.F ht⟩) hS.2.2 d_MO_unwind_187
abbrev wd_MO_sum (aM aMst aMdcs aMtot aMfrm aMsiz aMffr aMfsz aMlkd aMlat aMkkd aMkat aModr aMgrp aMikd aMiat : Nat) (cB cI : ClassId) (thr : Int32) (tpd : Int32) (frs : Int32) (frt : Int32) (tgr : Bool) (lvs : Int32) (its : Int32) (dfl : Bool) (dcs : Nat → Int32) (frm : Nat → Int32) (grp : Nat → Int32) (top : Int32) (bgn : Int32) (mst : Int32) (ovr : Bool) (hgh : Int64) (loo : Int64) (st : Nat → Int32) : va_W := [(aM, .inr (11, [.int thr, .ref aMst, .int tpd, .ref aMdcs, .ref aMtot, .ref aMfrm, .ref aMsiz, .int frs, .int frt, .ref aMffr, .ref aMfsz, .int top, .int bgn, .int mst, .int (b2i ovr), .int (b2i tgr), .int lvs, .ref aMlkd, .ref aMlat, .ref aMkkd, .ref aMkat, .ref aModr, .ref aMgrp, .int its, .ref aMikd, .ref aMiat, .long hgh, .long loo, .int (b2i dfl)])), (aMst, .inl (cI, 136400, .inl st)), (aMdcs, .inl (cI, 2, .inl dcs)), (aMfrm, .inl (cI, 400, .inl frm)), (aMgrp, .inl (cI, 200, .inl grp))]
set_option maxHeartbeats 4000000 in
set_option maxRecDepth 100000 in
theorem l_MO_sum_r30 {p : Program} {e : Env} {s : State} {m : MethodId} {args : Array Value} {below : List Frame} {meth : Method} {c : Code} {V : Option (Bool × Int32 × Int32 × Int32 × Bool × Int64 × Int64 × (Nat → Int32))} {V0 : Bool × Int32 × Int32 × Int32 × Bool × Int64 × Int64 × (Nat → Int32)} (C0 : lc_C p s m meth c args b_MO_sum 9 (some .boolean) R_MO lw_g) (hs : V = some V0) (l : Launch) (D : va_G) (cB cI : ClassId) (aM aMst aMdcs aMtot aMfrm aMsiz aMffr aMfsz aMlkd aMlat aMkkd aMkat aModr aMgrp aMikd aMiat : Nat) (fu : Nat) (thr : Int32) (tpd : Int32) (frs : Int32) (frt : Int32) (tgr : Bool) (lvs : Int32) (its : Int32) (dfl : Bool) (dcs : Nat → Int32) (frm : Nat → Int32) (grp : Nat → Int32)  {A : Nat → Prop} (hk : hk_ D cB cI s) (hA : ∀ q : Nat, s.heap.size ≤ q → A q) (x1 : Int32) (x2 : Int32) (x3 : Int32) (x4 : Int32) (x5 : Int32) (top : Int32) (bgn : Int32) (mst : Int32) (ovr : Bool) (hgh : Int64) (loo : Int64) (st : Nat → Int32) {K : Int32 → Int32 → Int32 → Int32 → Bool → Int64 → Int64 → (Nat → Int32) → Option (Bool × Int32 × Int32 × Int32 × Bool × Int64 × Int64 × (Nat → Int32))} (hKx : ∀ (y6 : Int32) (top' : Int32) (bgn' : Int32) (mst' : Int32) (ovr' : Bool) (hgh' : Int64) (loo' : Int64) (st' : Nat → Int32), V = K y6 top' bgn' mst' ovr' hgh' loo' st' → ∀ (H : Heap) (locs : List Loc), va_P D vwCl [(aM, .inr (11, [.int thr, .ref aMst, .int tpd, .ref aMdcs, .ref aMtot, .ref aMfrm, .ref aMsiz, .int frs, .int frt, .ref aMffr, .ref aMfsz, .int top', .int bgn', .int mst', .int (b2i ovr'), .int (b2i tgr), .int lvs, .ref aMlkd, .ref aMlat, .ref aMkkd, .ref aMkat, .ref aModr, .ref aMgrp, .int its, .ref aMikd, .ref aMiat, .long hgh', .long loo', .int (b2i dfl)])), (aMst, .inl (cI, 136400, .inl st')), (aMdcs, .inl (cI, 2, .inl dcs)), (aMfrm, .inl (cI, 400, .inl frm)), (aMgrp, .inl (cI, 200, .inl grp))] H → va_D A [(aM, .inr (11, [.int thr, .ref aMst, .int tpd, .ref aMdcs, .ref aMtot, .ref aMfrm, .ref aMsiz, .int frs, .int frt, .ref aMffr, .ref aMfsz, .int top', .int bgn', .int mst', .int (b2i ovr'), .int (b2i tgr), .int lvs, .ref aMlkd, .ref aMlat, .ref aMkkd, .ref aMkat, .ref aModr, .ref aMgrp, .int its, .ref aMikd, .ref aMiat, .long hgh', .long loo', .int (b2i dfl)])), (aMst, .inl (cI, 136400, .inl st')), (aMdcs, .inl (cI, 2, .inl dcs)), (aMfrm, .inl (cI, 400, .inl frm)), (aMgrp, .inl (cI, 200, .inl grp))] → va_S A s.heap H locs → ∀ ls : Array Slot, lv_has ls 9 [(0, .ref aM), (1, .int x1), (2, .int x2), (3, .int x3), (4, .int x4), (5, .int x5), (6, .int y6)] → W p l e ({ frames := 210, cells := 0, slots := 0, locals := 6291 }) s m args below meth c H locs 0 0 (MQ below (va_Qi (fun (r : Int32) (u : Int32 × Int32 × Int32 × Bool × Int64 × Int64 × (Nat → Int32)) => ∃ z9 : Bool, r = b2i z9 ∧ (z9, u) = V0) (mt_B D A (fun u => wd_MO_sum aM aMst aMdcs aMtot aMfrm aMsiz aMffr aMfsz aMlkd aMlat aMkkd aMkat aModr aMgrp aMikd aMiat cB cI thr tpd frs frt tgr lvs its dfl dcs frm grp u.1 u.2.1 u.2.2.1 u.2.2.2.1 u.2.2.2.2.1 u.2.2.2.2.2.1 u.2.2.2.2.2.2)) A) args s 0 0 A) (F0 m 62 ls [])) (hV : V = tw_MO_sum_r30 fu dfl dcs frm grp K x1 x2 x3 x4 x5 top bgn mst ovr hgh loo st) : ∀ (H : Heap) (locs : List Loc), va_P D vwCl [(aM, .inr (11, [.int thr, .ref aMst, .int tpd, .ref aMdcs, .ref aMtot, .ref aMfrm, .ref aMsiz, .int frs, .int frt, .ref aMffr, .ref aMfsz, .int top, .int bgn, .int mst, .int (b2i ovr), .int (b2i tgr), .int lvs, .ref aMlkd, .ref aMlat, .ref aMkkd, .ref aMkat, .ref aModr, .ref aMgrp, .int its, .ref aMikd, .ref aMiat, .long hgh, .long loo, .int (b2i dfl)])), (aMst, .inl (cI, 136400, .inl st)), (aMdcs, .inl (cI, 2, .inl dcs)), (aMfrm, .inl (cI, 400, .inl frm)), (aMgrp, .inl (cI, 200, .inl grp))] H → va_D A [(aM, .inr (11, [.int thr, .ref aMst, .int tpd, .ref aMdcs, .ref aMtot, .ref aMfrm, .ref aMsiz, .int frs, .int frt, .ref aMffr, .ref aMfsz, .int top, .int bgn, .int mst, .int (b2i ovr), .int (b2i tgr), .int lvs, .ref aMlkd, .ref aMlat, .ref aMkkd, .ref aMkat, .ref aModr, .ref aMgrp, .int its, .ref aMikd, .ref aMiat, .long hgh, .long loo, .int (b2i dfl)])), (aMst, .inl (cI, 136400, .inl st)), (aMdcs, .inl (cI, 2, .inl dcs)), (aMfrm, .inl (cI, 400, .inl frm)), (aMgrp, .inl (cI, 200, .inl grp))] → va_S A s.heap H locs → ∀ ls : Array Slot, lv_has ls 9 [(0, .ref aM), (1, .int x1), (2, .int x2), (3, .int x3), (4, .int x4), (5, .int x5)] → W p l e ({ frames := 210, cells := 0, slots := 0, locals := 6291 }) s m args below meth c H locs 0 0 (MQ below (va_Qi (fun (r : Int32) (u : Int32 × Int32 × Int32 × Bool × Int64 × Int64 × (Nat → Int32)) => ∃ z9 : Bool, r = b2i z9 ∧ (z9, u) = V0) (mt_B D A (fun u => wd_MO_sum aM aMst aMdcs aMtot aMfrm aMsiz aMffr aMfsz aMlkd aMlat aMkkd aMkat aModr aMgrp aMikd aMiat cB cI thr tpd frs frt tgr lvs its dfl dcs frm grp u.1 u.2.1 u.2.2.1 u.2.2.2.1 u.2.2.2.2.1 u.2.2.2.2.2.1 u.2.2.2.2.2.2)) A) args s 0 0 A) (F0 m 30 ls []) := by
  obtain ⟨hx, hb, hml, hr, hown, hlocks, hT⟩ := id C0
  have hK := hk.1
  have hN := hk.2.1
  intro H locs hP hD hS ls hl
  refine lv_aload_n hx hb d_MO_sum_30 rfl (lv_at hl 0 rfl) ?_
  refine va_get (D := D) (ci := 11) (v := .ref aMgrp) (C := R_MO) (T := T_MO) (N := 29) hx hb hT u_MO hown hK hP 0 rfl rfl 22 (by decide) (hT _ k_1065) (fun _ h9 => h9) rfl d_MO_sum_31 ?_
  refine lv_iload hx hb d_MO_sum_34 (lv_at hl 5 rfl) ?_
  by_cases c_2 : 0 ≤ x5 ∧ x5 < 200
  rotate_left
  · exact op_no hs (by rw [hV, tw_MO_sum_r30, if_neg c_2])
  refine va_iald hx hb hK hP 4 1 rfl rfl (in_pp c_2.1 c_2.2 rfl) d_MO_sum_36 ?_
  refine lv_iload_n hx hb d_MO_sum_37 rfl (lv_at hl 2 rfl) ?_
  refine lv_icmp_ne (tgt := 59) hx hb d_MO_sum_38 (by decide) (fun c_3 => ?_) (fun c_3 => ?_)
  · refine lv_iconst (v := 0) hx hb d_MO_sum_59 (by decide) ?_
    refine lv_istore (lv' := [(6, .int 0), (0, .ref aM), (1, .int x1), (2, .int x2), (3, .int x3), (4, .int x4), (5, .int x5)]) hx hb d_MO_sum_60 hl (by decide) rfl (fun ls hl => ?_)
    exact hKx 0 top bgn mst ovr hgh loo st (by rw [hV, tw_MO_sum_r30, if_pos c_2, if_neg c_3]) _ _ hP hD hS ls (lv_sub hl [1, 2, 3, 4, 5, 6, 0] rfl)
  · refine lv_aload_n hx hb d_MO_sum_41 rfl (lv_at hl 0 rfl) ?_
    refine lv_iload_n hx hb d_MO_sum_42 rfl (lv_at hl 1 rfl) ?_
    refine lv_aload_n hx hb d_MO_sum_43 rfl (lv_at hl 0 rfl) ?_
    refine va_get (D := D) (ci := 11) (v := .ref aMfrm) (C := R_MO) (T := T_MO) (N := 29) hx hb hT u_MO hown hK hP 0 rfl rfl 5 (by decide) (hT _ k_1048) (fun _ h9 => h9) rfl d_MO_sum_44 ?_
    refine lv_iload hx hb d_MO_sum_47 (lv_at hl 5 rfl) ?_
    by_cases c_4 : 0 ≤ x5 ∧ x5 < 400
    rotate_left
    · exact op_no hs (by rw [hV, tw_MO_sum_r30, if_pos c_2, if_pos c_3, if_neg c_4])
    refine va_iald hx hb hK hP 3 1 rfl rfl (in_pp c_2.1 c_4.2 rfl) d_MO_sum_49 ?_
    refine lv_ldcw (v := 124000) hx hb hown (hT _ k_1346) d_MO_sum_50 ?_
    rcases h_5 : tw_MO_evaluate fu top bgn mst ovr st x1 (frm x5.toNatClampNeg) 124000 with _ | w_5
    · exact op_no hs (by rw [hV, tw_MO_sum_r30, if_pos c_2, if_pos c_3, if_pos c_4, h_5, ob6_no])
    refine mt_Vi (As := [.int x1, .int (frm x5.toNatClampNeg), .int 124000]) (rest := []) (wr := [(aMdcs, .inl (cI, 2, .inl dcs)), (aMfrm, .inl (cI, 400, .inl frm)), (aMgrp, .inl (cI, 200, .inl grp))]) ⟨hx, hb, hml, hown, hT⟩ (c_MO_evaluate l D cB cI aM aMst aMdcs aMtot aMfrm aMsiz aMffr aMfsz aMlkd aMlat aMkkd aMkat aModr aMgrp aMikd aMiat fu thr tpd frs frt tgr lvs its hgh loo dfl _ top bgn mst ovr st x1 (frm x5.toNatClampNeg) 124000 w_5 h_5) (cwV 3 hT (gV_of k_1347 k_1349 kp_MO_evaluate k_12 kc_MO_evaluate) rfl rfl rfl hd_MO_evaluate ⟨Nat.le_of_ble_eq_true rfl, Nat.le_of_ble_eq_true rfl⟩) hk hP hD hS hA [0, 1] [2, 3, 4] rfl rfl rfl (by decide) (by decide) (by decide) (q0 := 0) rfl rfl rfl rfl hl.1 rfl (Nat.le_of_ble_eq_true rfl) d_MO_sum_53 ⟨Nat.zero_le _, Nat.zero_le _⟩ (fun r_5 u_5 H locs hw_5 hP hD hS => ?_)
    subst hw_5
    obtain ⟨top_5, bgn_5, mst_5, ovr_5, st_5⟩ := u_5
    have hP : va_P D vwCl [(aM, .inr (11, [.int thr, .ref aMst, .int tpd, .ref aMdcs, .ref aMtot, .ref aMfrm, .ref aMsiz, .int frs, .int frt, .ref aMffr, .ref aMfsz, .int top_5, .int bgn_5, .int mst_5, .int (b2i ovr_5), .int (b2i tgr), .int lvs, .ref aMlkd, .ref aMlat, .ref aMkkd, .ref aMkat, .ref aModr, .ref aMgrp, .int its, .ref aMikd, .ref aMiat, .long hgh, .long loo, .int (b2i dfl)])), (aMst, .inl (cI, 136400, .inl st_5)), (aMdcs, .inl (cI, 2, .inl dcs)), (aMfrm, .inl (cI, 400, .inl frm)), (aMgrp, .inl (cI, 200, .inl grp))] H := hP.sub [3, 4, 0, 1, 2] rfl
    have hD : va_D A [(aM, .inr (11, [.int thr, .ref aMst, .int tpd, .ref aMdcs, .ref aMtot, .ref aMfrm, .ref aMsiz, .int frs, .int frt, .ref aMffr, .ref aMfsz, .int top_5, .int bgn_5, .int mst_5, .int (b2i ovr_5), .int (b2i tgr), .int lvs, .ref aMlkd, .ref aMlat, .ref aMkkd, .ref aMkat, .ref aModr, .ref aMgrp, .int its, .ref aMikd, .ref aMiat, .long hgh, .long loo, .int (b2i dfl)])), (aMst, .inl (cI, 136400, .inl st_5)), (aMdcs, .inl (cI, 2, .inl dcs)), (aMfrm, .inl (cI, 400, .inl frm)), (aMgrp, .inl (cI, 200, .inl grp))] := hD.sub [3, 4, 0, 1, 2] (by decide) rfl
    refine lv_goto (tgt := 60) hx hb d_MO_sum_56 (by decide) ?_
    refine lv_istore (lv' := [(6, .int r_5), (0, .ref aM), (1, .int x1), (2, .int x2), (3, .int x3), (4, .int x4), (5, .int x5)]) hx hb d_MO_sum_60 hl (by decide) rfl (fun ls hl => ?_)
    exact hKx r_5 top_5 bgn_5 mst_5 ovr_5 hgh loo st_5 (by rw [hV, tw_MO_sum_r30, if_pos c_2, if_pos c_3, if_pos c_4, h_5, ob6_mk]) _ _ hP hD hS ls (lv_sub hl [1, 2, 3, 4, 5, 6, 0] rfl)
set_option maxHeartbeats 4000000 in
set_option maxRecDepth 100000 in
theorem l_MO_sum_h19 {p : Program} {e : Env} {s : State} {m : MethodId} {args : Array Value} {below : List Frame} {meth : Method} {c : Code} {V : Option (Bool × Int32 × Int32 × Int32 × Bool × Int64 × Int64 × (Nat → Int32))} {V0 : Bool × Int32 × Int32 × Int32 × Bool × Int64 × Int64 × (Nat → Int32)} (C0 : lc_C p s m meth c args b_MO_sum 9 (some .boolean) R_MO lw_g) (hs : V = some V0) (l : Launch) (D : va_G) (cB cI : ClassId) (aM aMst aMdcs aMtot aMfrm aMsiz aMffr aMfsz aMlkd aMlat aMkkd aMkat aModr aMgrp aMikd aMiat : Nat) (fu : Nat) (thr : Int32) (tpd : Int32) (frs : Int32) (frt : Int32) (tgr : Bool) (lvs : Int32) (its : Int32) (dfl : Bool) (dcs : Nat → Int32) (frm : Nat → Int32) (grp : Nat → Int32) {A : Nat → Prop} (hk : hk_ D cB cI s) (hA : ∀ q : Nat, s.heap.size ≤ q → A q) (p0 : Int32) (p1 : Int32) (p2 : Int32) (x4 : Int32) {K : Int32 → Int32 → Int32 → Int32 → Bool → Int64 → Int64 → (Nat → Int32) → Option (Bool × Int32 × Int32 × Int32 × Bool × Int64 × Int64 × (Nat → Int32))} (hKx : ∀ (x5 : Int32) (top : Int32) (bgn : Int32) (mst : Int32) (ovr : Bool) (hgh : Int64) (loo : Int64) (st : Nat → Int32), V = K x5 top bgn mst ovr hgh loo st → ∀ (H : Heap) (locs : List Loc), va_P D vwCl [(aM, .inr (11, [.int thr, .ref aMst, .int tpd, .ref aMdcs, .ref aMtot, .ref aMfrm, .ref aMsiz, .int frs, .int frt, .ref aMffr, .ref aMfsz, .int top, .int bgn, .int mst, .int (b2i ovr), .int (b2i tgr), .int lvs, .ref aMlkd, .ref aMlat, .ref aMkkd, .ref aMkat, .ref aModr, .ref aMgrp, .int its, .ref aMikd, .ref aMiat, .long hgh, .long loo, .int (b2i dfl)])), (aMst, .inl (cI, 136400, .inl st)), (aMdcs, .inl (cI, 2, .inl dcs)), (aMfrm, .inl (cI, 400, .inl frm)), (aMgrp, .inl (cI, 200, .inl grp))] H → va_D A [(aM, .inr (11, [.int thr, .ref aMst, .int tpd, .ref aMdcs, .ref aMtot, .ref aMfrm, .ref aMsiz, .int frs, .int frt, .ref aMffr, .ref aMfsz, .int top, .int bgn, .int mst, .int (b2i ovr), .int (b2i tgr), .int lvs, .ref aMlkd, .ref aMlat, .ref aMkkd, .ref aMkat, .ref aModr, .ref aMgrp, .int its, .ref aMikd, .ref aMiat, .long hgh, .long loo, .int (b2i dfl)])), (aMst, .inl (cI, 136400, .inl st)), (aMdcs, .inl (cI, 2, .inl dcs)), (aMfrm, .inl (cI, 400, .inl frm)), (aMgrp, .inl (cI, 200, .inl grp))] → va_S A s.heap H locs → ∀ ls : Array Slot, lv_has ls 9 [(0, .ref aM), (3, .int p2), (4, .int x4)] → W p l e ({ frames := 210, cells := 0, slots := 0, locals := 6291 }) s m args below meth c H locs 0 0 (MQ below (va_Qi (fun (r : Int32) (u : Int32 × Int32 × Int32 × Bool × Int64 × Int64 × (Nat → Int32)) => ∃ z9 : Bool, r = b2i z9 ∧ (z9, u) = V0) (mt_B D A (fun u => wd_MO_sum aM aMst aMdcs aMtot aMfrm aMsiz aMffr aMfsz aMlkd aMlat aMkkd aMkat aModr aMgrp aMikd aMiat cB cI thr tpd frs frt tgr lvs its dfl dcs frm grp u.1 u.2.1 u.2.2.1 u.2.2.2.1 u.2.2.2.2.1 u.2.2.2.2.2.1 u.2.2.2.2.2.2)) A) args s 0 0 A) (F0 m 123 ls [])) : ∀ (n : Nat) (x5 : Int32) (top : Int32) (bgn : Int32) (mst : Int32) (ovr : Bool) (hgh : Int64) (loo : Int64) (st : Nat → Int32), V = tw_MO_sum_h19 fu dfl dcs frm grp K p0 p1 p2 x4 n x5 top bgn mst ovr hgh loo st → ∀ (H : Heap) (locs : List Loc), va_P D vwCl [(aM, .inr (11, [.int thr, .ref aMst, .int tpd, .ref aMdcs, .ref aMtot, .ref aMfrm, .ref aMsiz, .int frs, .int frt, .ref aMffr, .ref aMfsz, .int top, .int bgn, .int mst, .int (b2i ovr), .int (b2i tgr), .int lvs, .ref aMlkd, .ref aMlat, .ref aMkkd, .ref aMkat, .ref aModr, .ref aMgrp, .int its, .ref aMikd, .ref aMiat, .long hgh, .long loo, .int (b2i dfl)])), (aMst, .inl (cI, 136400, .inl st)), (aMdcs, .inl (cI, 2, .inl dcs)), (aMfrm, .inl (cI, 400, .inl frm)), (aMgrp, .inl (cI, 200, .inl grp))] H → va_D A [(aM, .inr (11, [.int thr, .ref aMst, .int tpd, .ref aMdcs, .ref aMtot, .ref aMfrm, .ref aMsiz, .int frs, .int frt, .ref aMffr, .ref aMfsz, .int top, .int bgn, .int mst, .int (b2i ovr), .int (b2i tgr), .int lvs, .ref aMlkd, .ref aMlat, .ref aMkkd, .ref aMkat, .ref aModr, .ref aMgrp, .int its, .ref aMikd, .ref aMiat, .long hgh, .long loo, .int (b2i dfl)])), (aMst, .inl (cI, 136400, .inl st)), (aMdcs, .inl (cI, 2, .inl dcs)), (aMfrm, .inl (cI, 400, .inl frm)), (aMgrp, .inl (cI, 200, .inl grp))] → va_S A s.heap H locs → ∀ ls : Array Slot, lv_has ls 9 [(0, .ref aM), (1, .int p0), (2, .int p1), (3, .int p2), (4, .int x4), (5, .int x5)] → W p l e ({ frames := 210, cells := 0, slots := 0, locals := 6291 }) s m args below meth c H locs 0 0 (MQ below (va_Qi (fun (r : Int32) (u : Int32 × Int32 × Int32 × Bool × Int64 × Int64 × (Nat → Int32)) => ∃ z9 : Bool, r = b2i z9 ∧ (z9, u) = V0) (mt_B D A (fun u => wd_MO_sum aM aMst aMdcs aMtot aMfrm aMsiz aMffr aMfsz aMlkd aMlat aMkkd aMkat aModr aMgrp aMikd aMiat cB cI thr tpd frs frt tgr lvs its dfl dcs frm grp u.1 u.2.1 u.2.2.1 u.2.2.2.1 u.2.2.2.2.1 u.2.2.2.2.2.1 u.2.2.2.2.2.2)) A) args s 0 0 A) (F0 m 19 ls []) := by
  obtain ⟨hx, hb, hml, hr, hown, hlocks, hT⟩ := id C0
  have hK := hk.1
  have hN := hk.2.1
  intro n
  induction n with
  | zero =>
    intro x5 top bgn mst ovr hgh loo st hV
    exact op_no hs (hV.trans rfl)
  | succ n ih =>
    intro x5 top bgn mst ovr hgh loo st hV H locs hP hD hS ls hl
    refine lv_iload hx hb d_MO_sum_19 (lv_at hl 5 rfl) ?_
    refine lv_aload_n hx hb d_MO_sum_21 rfl (lv_at hl 0 rfl) ?_
    refine va_get (D := D) (ci := 11) (v := .ref aMdcs) (C := R_MO) (T := T_MO) (N := 29) hx hb hT u_MO hown hK hP 0 rfl rfl 3 (by decide) (hT _ k_1046) (fun _ h9 => h9) rfl d_MO_sum_22 ?_
    refine lv_iconst (v := 0) hx hb d_MO_sum_25 (by decide) ?_
    refine va_iald hx hb hK hP 2 1 rfl rfl (by unfold vp_in; decide) d_MO_sum_26 ?_
    refine lv_icmp_ge (tgt := 123) hx hb d_MO_sum_27 (by decide) (fun c_1 => ?_) (fun c_1 => ?_)
    · exact hKx x5 top bgn mst ovr hgh loo st (by rw [hV, tw_MO_sum_h19, if_pos c_1]) _ _ hP hD hS ls (lv_sub hl [0, 3, 4] rfl)
    · refine l_MO_sum_r30 C0 hs l D cB cI aM aMst aMdcs aMtot aMfrm aMsiz aMffr aMfsz aMlkd aMlat aMkkd aMkat aModr aMgrp aMikd aMiat fu thr tpd frs frt tgr lvs its dfl dcs frm grp hk hA p0 p1 p2 x4 x5 top bgn mst ovr hgh loo st (K := (fun (y6_6 : Int32) (top_6 : Int32) (bgn_6 : Int32) (mst_6 : Int32) (ovr_6 : Bool) (hgh_6 : Int64) (loo_6 : Int64) (st_6 : Nat → Int32) =>
          if y6_6 = 16 then
            ob1 (tw_MO_number fu st_6 y6_6 124000) (fun r_8 =>
              tw_MO_sum_h19 fu dfl dcs frm grp K p0 p1 p2 x4 n (x5 + 1) top_6 bgn_6 mst_6 ovr_6 (hgh_6 + (r_8 / 1000000000)) (loo_6 + (r_8 - r_8 / 1000000000 * 1000000000)) st_6)
          else
            if y6_6 = 18 then
              ob1 (tw_MO_number fu st_6 y6_6 124000) (fun r_10 =>
                tw_MO_sum_h19 fu dfl dcs frm grp K p0 p1 p2 x4 n (x5 + 1) top_6 bgn_6 mst_6 ovr_6 (hgh_6 + (r_10 / 1000000000)) (loo_6 + (r_10 - r_10 / 1000000000 * 1000000000)) st_6)
            else
              tw_MO_sum_h19 fu dfl dcs frm grp K p0 p1 p2 x4 n (x5 + 1) top_6 bgn_6 mst_6 ovr_6 hgh_6 loo_6 st_6)) ?_ (by rw [hV, tw_MO_sum_h19, if_neg c_1]) _ _ hP hD hS ls (lv_sub hl [0, 1, 2, 3, 4, 5] rfl)
      intro y6_6 top_6 bgn_6 mst_6 ovr_6 hgh_6 loo_6 st_6 hV_6 H locs hP hD hS ls hl
      refine lv_iload hx hb d_MO_sum_62 (lv_at hl 6 rfl) ?_
      refine lv_bipush (v := 16) hx hb d_MO_sum_64 (by decide) ?_
      refine lv_icmp_eq (tgt := 76) hx hb d_MO_sum_66 (by decide) (fun c_7 => ?_) (fun c_7 => ?_)
      · refine lv_aload_n hx hb d_MO_sum_76 rfl (lv_at hl 0 rfl) ?_
        refine lv_iload hx hb d_MO_sum_77 (lv_at hl 6 rfl) ?_
        refine lv_ldcw (v := 124000) hx hb hown (hT _ k_1346) d_MO_sum_79 ?_
        rcases h_8 : tw_MO_number fu st_6 y6_6 124000 with _ | r_8
        · exact op_no hs (by rw [hV_6, if_pos c_7, h_8, ob1_no])
        refine rd_Vl (val := r_8) (As := [.int y6_6, .int 124000]) (rest := []) ⟨hx, hb, hml, hown, hT⟩ (c_MO_number l D cB cI aM aMst aMdcs aMtot aMfrm aMsiz aMffr aMfsz aMlkd aMlat aMkkd aMkat aModr aMgrp aMikd aMiat fu thr tpd frs frt top_6 bgn_6 mst_6 ovr_6 tgr lvs its hgh_6 loo_6 dfl st_6 y6_6 124000 r_8 h_8) (cwV 2 hT (gV_of k_1277 k_1279 kp_MO_number k_12 kc_MO_number) rfl rfl rfl hd_MO_number ⟨Nat.le_of_ble_eq_true rfl, Nat.le_of_ble_eq_true rfl⟩) hk (hP.sub (ws' := [(aM, .inr (11, [.int thr, .ref aMst, .int tpd, .ref aMdcs, .ref aMtot, .ref aMfrm, .ref aMsiz, .int frs, .int frt, .ref aMffr, .ref aMfsz, .int top_6, .int bgn_6, .int mst_6, .int (b2i ovr_6), .int (b2i tgr), .int lvs, .ref aMlkd, .ref aMlat, .ref aMkkd, .ref aMkat, .ref aModr, .ref aMgrp, .int its, .ref aMikd, .ref aMiat, .long hgh_6, .long loo_6, .int (b2i dfl)])), (aMst, .inl (cI, 136400, .inl st_6))]) [0, 1] rfl) (q0 := 0) rfl rfl rfl rfl hl.1 rfl (Nat.le_of_ble_eq_true rfl) d_MO_sum_82 ⟨Nat.zero_le _, Nat.zero_le _⟩ ?_
        refine lv_lstore (lv' := [(7, .long r_8), (0, .ref aM), (1, .int p0), (2, .int p1), (3, .int p2), (4, .int x4), (5, .int x5), (6, .int y6_6)]) hx hb d_MO_sum_85 hl (by decide) rfl (fun ls hl => ?_)
        refine lv_aload_n hx hb d_MO_sum_87 rfl (lv_at hl 1 rfl) ?_
        refine lv_dup hx hb d_MO_sum_88 rfl ?_
        refine va_get (D := D) (ci := 11) (v := .long hgh_6) (C := R_MO) (T := T_MO) (N := 29) hx hb hT u_MO hown hK hP 0 rfl rfl 26 (by decide) (hT _ k_1069) (fun _ h9 => h9) rfl d_MO_sum_89 ?_
        refine lv_lload hx hb d_MO_sum_92 (lv_at hl 0 rfl) ?_
        refine lv_ldc2 (v := 1000000000) hx hb hown (hT _ k_1431) d_MO_sum_94 ?_
        refine lv_ldiv hx hb d_MO_sum_97 (by decide) ?_
        refine lv_ladd hx hb d_MO_sum_98 ?_
        refine va_put (D := D) (ci := 11) (v := .long (hgh_6 + (r_8 / 1000000000))) (ty := .long) (C := R_MO) (T := T_MO) (N := 29) hx hb hT u_MO ty_MO tyok_MO nm_MO hown hK hP hD hS 0 rfl rfl 26 (by decide) (hT _ k_1069) (fun _ h9 => h9) rfl (by decide +kernel) (rfl) (rfl) (Nat.le_of_ble_eq_true rfl) d_MO_sum_99 (fun H locs hP hD hS => ?_)
        have hP : va_P D vwCl [(aM, .inr (11, [.int thr, .ref aMst, .int tpd, .ref aMdcs, .ref aMtot, .ref aMfrm, .ref aMsiz, .int frs, .int frt, .ref aMffr, .ref aMfsz, .int top_6, .int bgn_6, .int mst_6, .int (b2i ovr_6), .int (b2i tgr), .int lvs, .ref aMlkd, .ref aMlat, .ref aMkkd, .ref aMkat, .ref aModr, .ref aMgrp, .int its, .ref aMikd, .ref aMiat, .long (hgh_6 + (r_8 / 1000000000)), .long loo_6, .int (b2i dfl)])), (aMst, .inl (cI, 136400, .inl st_6)), (aMdcs, .inl (cI, 2, .inl dcs)), (aMfrm, .inl (cI, 400, .inl frm)), (aMgrp, .inl (cI, 200, .inl grp))] H := hP
        have hD : va_D A [(aM, .inr (11, [.int thr, .ref aMst, .int tpd, .ref aMdcs, .ref aMtot, .ref aMfrm, .ref aMsiz, .int frs, .int frt, .ref aMffr, .ref aMfsz, .int top_6, .int bgn_6, .int mst_6, .int (b2i ovr_6), .int (b2i tgr), .int lvs, .ref aMlkd, .ref aMlat, .ref aMkkd, .ref aMkat, .ref aModr, .ref aMgrp, .int its, .ref aMikd, .ref aMiat, .long (hgh_6 + (r_8 / 1000000000)), .long loo_6, .int (b2i dfl)])), (aMst, .inl (cI, 136400, .inl st_6)), (aMdcs, .inl (cI, 2, .inl dcs)), (aMfrm, .inl (cI, 400, .inl frm)), (aMgrp, .inl (cI, 200, .inl grp))] := hD
        refine lv_aload_n hx hb d_MO_sum_102 rfl (lv_at hl 1 rfl) ?_
        refine lv_dup hx hb d_MO_sum_103 rfl ?_
        refine va_get (D := D) (ci := 11) (v := .long loo_6) (C := R_MO) (T := T_MO) (N := 29) hx hb hT u_MO hown hK hP 0 rfl rfl 27 (by decide) (hT _ k_1070) (fun _ h9 => h9) rfl d_MO_sum_104 ?_
        refine lv_lload hx hb d_MO_sum_107 (lv_at hl 0 rfl) ?_
        refine lv_ldc2 (v := 1000000000) hx hb hown (hT _ k_1431) d_MO_sum_109 ?_
        refine lv_lrem hx hb d_MO_sum_112 (by decide) ?_
        refine lv_ladd hx hb d_MO_sum_113 ?_
        refine va_put (D := D) (ci := 11) (v := .long (loo_6 + (r_8 - r_8 / 1000000000 * 1000000000))) (ty := .long) (C := R_MO) (T := T_MO) (N := 29) hx hb hT u_MO ty_MO tyok_MO nm_MO hown hK hP hD hS 0 rfl rfl 27 (by decide) (hT _ k_1070) (fun _ h9 => h9) rfl (by decide +kernel) (rfl) (rfl) (Nat.le_of_ble_eq_true rfl) d_MO_sum_114 (fun H locs hP hD hS => ?_)
        have hP : va_P D vwCl [(aM, .inr (11, [.int thr, .ref aMst, .int tpd, .ref aMdcs, .ref aMtot, .ref aMfrm, .ref aMsiz, .int frs, .int frt, .ref aMffr, .ref aMfsz, .int top_6, .int bgn_6, .int mst_6, .int (b2i ovr_6), .int (b2i tgr), .int lvs, .ref aMlkd, .ref aMlat, .ref aMkkd, .ref aMkat, .ref aModr, .ref aMgrp, .int its, .ref aMikd, .ref aMiat, .long (hgh_6 + (r_8 / 1000000000)), .long (loo_6 + (r_8 - r_8 / 1000000000 * 1000000000)), .int (b2i dfl)])), (aMst, .inl (cI, 136400, .inl st_6)), (aMdcs, .inl (cI, 2, .inl dcs)), (aMfrm, .inl (cI, 400, .inl frm)), (aMgrp, .inl (cI, 200, .inl grp))] H := hP
        have hD : va_D A [(aM, .inr (11, [.int thr, .ref aMst, .int tpd, .ref aMdcs, .ref aMtot, .ref aMfrm, .ref aMsiz, .int frs, .int frt, .ref aMffr, .ref aMfsz, .int top_6, .int bgn_6, .int mst_6, .int (b2i ovr_6), .int (b2i tgr), .int lvs, .ref aMlkd, .ref aMlat, .ref aMkkd, .ref aMkat, .ref aModr, .ref aMgrp, .int its, .ref aMikd, .ref aMiat, .long (hgh_6 + (r_8 / 1000000000)), .long (loo_6 + (r_8 - r_8 / 1000000000 * 1000000000)), .int (b2i dfl)])), (aMst, .inl (cI, 136400, .inl st_6)), (aMdcs, .inl (cI, 2, .inl dcs)), (aMfrm, .inl (cI, 400, .inl frm)), (aMgrp, .inl (cI, 200, .inl grp))] := hD
        refine lv_iinc (v := x5 + 1) (lv' := [(5, .int (x5 + 1)), (7, .long r_8), (0, .ref aM), (1, .int p0), (2, .int p1), (3, .int p2), (4, .int x4), (6, .int y6_6)]) hx hb d_MO_sum_117 hl (k := 6) rfl rfl (by decide) rfl (fun ls hl => ?_)
        refine lv_goto (tgt := 19) hx hb d_MO_sum_120 (by decide) ?_
        exact ih (x5 + 1) top_6 bgn_6 mst_6 ovr_6 (hgh_6 + (r_8 / 1000000000)) (loo_6 + (r_8 - r_8 / 1000000000 * 1000000000)) st_6 (by rw [hV_6, if_pos c_7, h_8, ob1_mk]) _ _ hP hD hS ls (lv_sub hl [2, 3, 4, 5, 6, 0] rfl)
      · refine lv_iload hx hb d_MO_sum_69 (lv_at hl 6 rfl) ?_
        refine lv_bipush (v := 18) hx hb d_MO_sum_71 (by decide) ?_
        refine lv_icmp_ne (tgt := 117) hx hb d_MO_sum_73 (by decide) (fun c_9 => ?_) (fun c_9 => ?_)
        · refine lv_iinc (v := x5 + 1) (lv' := [(5, .int (x5 + 1)), (0, .ref aM), (1, .int p0), (2, .int p1), (3, .int p2), (4, .int x4), (6, .int y6_6)]) hx hb d_MO_sum_117 hl (k := 5) rfl rfl (by decide) rfl (fun ls hl => ?_)
          refine lv_goto (tgt := 19) hx hb d_MO_sum_120 (by decide) ?_
          exact ih (x5 + 1) top_6 bgn_6 mst_6 ovr_6 hgh_6 loo_6 st_6 (by rw [hV_6, if_neg c_7, if_neg c_9]) _ _ hP hD hS ls (lv_sub hl [1, 2, 3, 4, 5, 0] rfl)
        · refine lv_aload_n hx hb d_MO_sum_76 rfl (lv_at hl 0 rfl) ?_
          refine lv_iload hx hb d_MO_sum_77 (lv_at hl 6 rfl) ?_
          refine lv_ldcw (v := 124000) hx hb hown (hT _ k_1346) d_MO_sum_79 ?_
          rcases h_10 : tw_MO_number fu st_6 y6_6 124000 with _ | r_10
          · exact op_no hs (by rw [hV_6, if_neg c_7, if_pos c_9, h_10, ob1_no])
          refine rd_Vl (val := r_10) (As := [.int y6_6, .int 124000]) (rest := []) ⟨hx, hb, hml, hown, hT⟩ (c_MO_number l D cB cI aM aMst aMdcs aMtot aMfrm aMsiz aMffr aMfsz aMlkd aMlat aMkkd aMkat aModr aMgrp aMikd aMiat fu thr tpd frs frt top_6 bgn_6 mst_6 ovr_6 tgr lvs its hgh_6 loo_6 dfl st_6 y6_6 124000 r_10 h_10) (cwV 2 hT (gV_of k_1277 k_1279 kp_MO_number k_12 kc_MO_number) rfl rfl rfl hd_MO_number ⟨Nat.le_of_ble_eq_true rfl, Nat.le_of_ble_eq_true rfl⟩) hk (hP.sub (ws' := [(aM, .inr (11, [.int thr, .ref aMst, .int tpd, .ref aMdcs, .ref aMtot, .ref aMfrm, .ref aMsiz, .int frs, .int frt, .ref aMffr, .ref aMfsz, .int top_6, .int bgn_6, .int mst_6, .int (b2i ovr_6), .int (b2i tgr), .int lvs, .ref aMlkd, .ref aMlat, .ref aMkkd, .ref aMkat, .ref aModr, .ref aMgrp, .int its, .ref aMikd, .ref aMiat, .long hgh_6, .long loo_6, .int (b2i dfl)])), (aMst, .inl (cI, 136400, .inl st_6))]) [0, 1] rfl) (q0 := 0) rfl rfl rfl rfl hl.1 rfl (Nat.le_of_ble_eq_true rfl) d_MO_sum_82 ⟨Nat.zero_le _, Nat.zero_le _⟩ ?_
          refine lv_lstore (lv' := [(7, .long r_10), (0, .ref aM), (1, .int p0), (2, .int p1), (3, .int p2), (4, .int x4), (5, .int x5), (6, .int y6_6)]) hx hb d_MO_sum_85 hl (by decide) rfl (fun ls hl => ?_)
          refine lv_aload_n hx hb d_MO_sum_87 rfl (lv_at hl 1 rfl) ?_
          refine lv_dup hx hb d_MO_sum_88 rfl ?_
          refine va_get (D := D) (ci := 11) (v := .long hgh_6) (C := R_MO) (T := T_MO) (N := 29) hx hb hT u_MO hown hK hP 0 rfl rfl 26 (by decide) (hT _ k_1069) (fun _ h9 => h9) rfl d_MO_sum_89 ?_
          refine lv_lload hx hb d_MO_sum_92 (lv_at hl 0 rfl) ?_
          refine lv_ldc2 (v := 1000000000) hx hb hown (hT _ k_1431) d_MO_sum_94 ?_
          refine lv_ldiv hx hb d_MO_sum_97 (by decide) ?_
          refine lv_ladd hx hb d_MO_sum_98 ?_
          refine va_put (D := D) (ci := 11) (v := .long (hgh_6 + (r_10 / 1000000000))) (ty := .long) (C := R_MO) (T := T_MO) (N := 29) hx hb hT u_MO ty_MO tyok_MO nm_MO hown hK hP hD hS 0 rfl rfl 26 (by decide) (hT _ k_1069) (fun _ h9 => h9) rfl (by decide +kernel) (rfl) (rfl) (Nat.le_of_ble_eq_true rfl) d_MO_sum_99 (fun H locs hP hD hS => ?_)
          have hP : va_P D vwCl [(aM, .inr (11, [.int thr, .ref aMst, .int tpd, .ref aMdcs, .ref aMtot, .ref aMfrm, .ref aMsiz, .int frs, .int frt, .ref aMffr, .ref aMfsz, .int top_6, .int bgn_6, .int mst_6, .int (b2i ovr_6), .int (b2i tgr), .int lvs, .ref aMlkd, .ref aMlat, .ref aMkkd, .ref aMkat, .ref aModr, .ref aMgrp, .int its, .ref aMikd, .ref aMiat, .long (hgh_6 + (r_10 / 1000000000)), .long loo_6, .int (b2i dfl)])), (aMst, .inl (cI, 136400, .inl st_6)), (aMdcs, .inl (cI, 2, .inl dcs)), (aMfrm, .inl (cI, 400, .inl frm)), (aMgrp, .inl (cI, 200, .inl grp))] H := hP
          have hD : va_D A [(aM, .inr (11, [.int thr, .ref aMst, .int tpd, .ref aMdcs, .ref aMtot, .ref aMfrm, .ref aMsiz, .int frs, .int frt, .ref aMffr, .ref aMfsz, .int top_6, .int bgn_6, .int mst_6, .int (b2i ovr_6), .int (b2i tgr), .int lvs, .ref aMlkd, .ref aMlat, .ref aMkkd, .ref aMkat, .ref aModr, .ref aMgrp, .int its, .ref aMikd, .ref aMiat, .long (hgh_6 + (r_10 / 1000000000)), .long loo_6, .int (b2i dfl)])), (aMst, .inl (cI, 136400, .inl st_6)), (aMdcs, .inl (cI, 2, .inl dcs)), (aMfrm, .inl (cI, 400, .inl frm)), (aMgrp, .inl (cI, 200, .inl grp))] := hD
          refine lv_aload_n hx hb d_MO_sum_102 rfl (lv_at hl 1 rfl) ?_
          refine lv_dup hx hb d_MO_sum_103 rfl ?_
          refine va_get (D := D) (ci := 11) (v := .long loo_6) (C := R_MO) (T := T_MO) (N := 29) hx hb hT u_MO hown hK hP 0 rfl rfl 27 (by decide) (hT _ k_1070) (fun _ h9 => h9) rfl d_MO_sum_104 ?_
          refine lv_lload hx hb d_MO_sum_107 (lv_at hl 0 rfl) ?_
          refine lv_ldc2 (v := 1000000000) hx hb hown (hT _ k_1431) d_MO_sum_109 ?_
          refine lv_lrem hx hb d_MO_sum_112 (by decide) ?_
          refine lv_ladd hx hb d_MO_sum_113 ?_
          refine va_put (D := D) (ci := 11) (v := .long (loo_6 + (r_10 - r_10 / 1000000000 * 1000000000))) (ty := .long) (C := R_MO) (T := T_MO) (N := 29) hx hb hT u_MO ty_MO tyok_MO nm_MO hown hK hP hD hS 0 rfl rfl 27 (by decide) (hT _ k_1070) (fun _ h9 => h9) rfl (by decide +kernel) (rfl) (rfl) (Nat.le_of_ble_eq_true rfl) d_MO_sum_114 (fun H locs hP hD hS => ?_)
          have hP : va_P D vwCl [(aM, .inr (11, [.int thr, .ref aMst, .int tpd, .ref aMdcs, .ref aMtot, .ref aMfrm, .ref aMsiz, .int frs, .int frt, .ref aMffr, .ref aMfsz, .int top_6, .int bgn_6, .int mst_6, .int (b2i ovr_6), .int (b2i tgr), .int lvs, .ref aMlkd, .ref aMlat, .ref aMkkd, .ref aMkat, .ref aModr, .ref aMgrp, .int its, .ref aMikd, .ref aMiat, .long (hgh_6 + (r_10 / 1000000000)), .long (loo_6 + (r_10 - r_10 / 1000000000 * 1000000000)), .int (b2i dfl)])), (aMst, .inl (cI, 136400, .inl st_6)), (aMdcs, .inl (cI, 2, .inl dcs)), (aMfrm, .inl (cI, 400, .inl frm)), (aMgrp, .inl (cI, 200, .inl grp))] H := hP
          have hD : va_D A [(aM, .inr (11, [.int thr, .ref aMst, .int tpd, .ref aMdcs, .ref aMtot, .ref aMfrm, .ref aMsiz, .int frs, .int frt, .ref aMffr, .ref aMfsz, .int top_6, .int bgn_6, .int mst_6, .int (b2i ovr_6), .int (b2i tgr), .int lvs, .ref aMlkd, .ref aMlat, .ref aMkkd, .ref aMkat, .ref aModr, .ref aMgrp, .int its, .ref aMikd, .ref aMiat, .long (hgh_6 + (r_10 / 1000000000)), .long (loo_6 + (r_10 - r_10 / 1000000000 * 1000000000)), .int (b2i dfl)])), (aMst, .inl (cI, 136400, .inl st_6)), (aMdcs, .inl (cI, 2, .inl dcs)), (aMfrm, .inl (cI, 400, .inl frm)), (aMgrp, .inl (cI, 200, .inl grp))] := hD
          refine lv_iinc (v := x5 + 1) (lv' := [(5, .int (x5 + 1)), (7, .long r_10), (0, .ref aM), (1, .int p0), (2, .int p1), (3, .int p2), (4, .int x4), (6, .int y6_6)]) hx hb d_MO_sum_117 hl (k := 6) rfl rfl (by decide) rfl (fun ls hl => ?_)
          refine lv_goto (tgt := 19) hx hb d_MO_sum_120 (by decide) ?_
          exact ih (x5 + 1) top_6 bgn_6 mst_6 ovr_6 (hgh_6 + (r_10 / 1000000000)) (loo_6 + (r_10 - r_10 / 1000000000 * 1000000000)) st_6 (by rw [hV_6, if_neg c_7, if_pos c_9, h_10, ob1_mk]) _ _ hP hD hS ls (lv_sub hl [2, 3, 4, 5, 6, 0] rfl)
set_option maxHeartbeats 4000000 in
set_option maxRecDepth 100000 in
theorem l_MO_sum_r159 {p : Program} {e : Env} {s : State} {m : MethodId} {args : Array Value} {below : List Frame} {meth : Method} {c : Code} {V : Option (Bool × Int32 × Int32 × Int32 × Bool × Int64 × Int64 × (Nat → Int32))} {V0 : Bool × Int32 × Int32 × Int32 × Bool × Int64 × Int64 × (Nat → Int32)} (C0 : lc_C p s m meth c args b_MO_sum 9 (some .boolean) R_MO lw_g) (hs : V = some V0) (l : Launch) (D : va_G) (cB cI : ClassId) (aM aMst aMdcs aMtot aMfrm aMsiz aMffr aMfsz aMlkd aMlat aMkkd aMkat aModr aMgrp aMikd aMiat : Nat) (fu : Nat) (thr : Int32) (tpd : Int32) (frs : Int32) (frt : Int32) (tgr : Bool) (lvs : Int32) (its : Int32) (dfl : Bool) (dcs : Nat → Int32) (frm : Nat → Int32) (grp : Nat → Int32)  {A : Nat → Prop} (hk : hk_ D cB cI s) (hA : ∀ q : Nat, s.heap.size ≤ q → A q) (top : Int32) (bgn : Int32) (mst : Int32) (ovr : Bool) (hgh : Int64) (loo : Int64) (st : Nat → Int32) {K : Int32 → Int32 → Int32 → Bool → Int64 → Int64 → (Nat → Int32) → Option (Bool × Int32 × Int32 × Int32 × Bool × Int64 × Int64 × (Nat → Int32))} (hKx : ∀ (top' : Int32) (bgn' : Int32) (mst' : Int32) (ovr' : Bool) (hgh' : Int64) (loo' : Int64) (st' : Nat → Int32), V = K top' bgn' mst' ovr' hgh' loo' st' → ∀ (H : Heap) (locs : List Loc), va_P D vwCl [(aM, .inr (11, [.int thr, .ref aMst, .int tpd, .ref aMdcs, .ref aMtot, .ref aMfrm, .ref aMsiz, .int frs, .int frt, .ref aMffr, .ref aMfsz, .int top', .int bgn', .int mst', .int (b2i ovr'), .int (b2i tgr), .int lvs, .ref aMlkd, .ref aMlat, .ref aMkkd, .ref aMkat, .ref aModr, .ref aMgrp, .int its, .ref aMikd, .ref aMiat, .long hgh', .long loo', .int (b2i dfl)])), (aMst, .inl (cI, 136400, .inl st')), (aMdcs, .inl (cI, 2, .inl dcs)), (aMfrm, .inl (cI, 400, .inl frm)), (aMgrp, .inl (cI, 200, .inl grp))] H → va_D A [(aM, .inr (11, [.int thr, .ref aMst, .int tpd, .ref aMdcs, .ref aMtot, .ref aMfrm, .ref aMsiz, .int frs, .int frt, .ref aMffr, .ref aMfsz, .int top', .int bgn', .int mst', .int (b2i ovr'), .int (b2i tgr), .int lvs, .ref aMlkd, .ref aMlat, .ref aMkkd, .ref aMkat, .ref aModr, .ref aMgrp, .int its, .ref aMikd, .ref aMiat, .long hgh', .long loo', .int (b2i dfl)])), (aMst, .inl (cI, 136400, .inl st')), (aMdcs, .inl (cI, 2, .inl dcs)), (aMfrm, .inl (cI, 400, .inl frm)), (aMgrp, .inl (cI, 200, .inl grp))] → va_S A s.heap H locs → ∀ ls : Array Slot, lv_has ls 9 [(0, .ref aM)] → W p l e ({ frames := 210, cells := 0, slots := 0, locals := 6291 }) s m args below meth c H locs 0 0 (MQ below (va_Qi (fun (r : Int32) (u : Int32 × Int32 × Int32 × Bool × Int64 × Int64 × (Nat → Int32)) => ∃ z9 : Bool, r = b2i z9 ∧ (z9, u) = V0) (mt_B D A (fun u => wd_MO_sum aM aMst aMdcs aMtot aMfrm aMsiz aMffr aMfsz aMlkd aMlat aMkkd aMkat aModr aMgrp aMikd aMiat cB cI thr tpd frs frt tgr lvs its dfl dcs frm grp u.1 u.2.1 u.2.2.1 u.2.2.2.1 u.2.2.2.2.1 u.2.2.2.2.2.1 u.2.2.2.2.2.2)) A) args s 0 0 A) (F0 m 242 ls [])) (hV : V = tw_MO_sum_r159 fu dfl dcs frm grp K top bgn mst ovr hgh loo st) : ∀ (H : Heap) (locs : List Loc), va_P D vwCl [(aM, .inr (11, [.int thr, .ref aMst, .int tpd, .ref aMdcs, .ref aMtot, .ref aMfrm, .ref aMsiz, .int frs, .int frt, .ref aMffr, .ref aMfsz, .int top, .int bgn, .int mst, .int (b2i ovr), .int (b2i tgr), .int lvs, .ref aMlkd, .ref aMlat, .ref aMkkd, .ref aMkat, .ref aModr, .ref aMgrp, .int its, .ref aMikd, .ref aMiat, .long hgh, .long loo, .int (b2i dfl)])), (aMst, .inl (cI, 136400, .inl st)), (aMdcs, .inl (cI, 2, .inl dcs)), (aMfrm, .inl (cI, 400, .inl frm)), (aMgrp, .inl (cI, 200, .inl grp))] H → va_D A [(aM, .inr (11, [.int thr, .ref aMst, .int tpd, .ref aMdcs, .ref aMtot, .ref aMfrm, .ref aMsiz, .int frs, .int frt, .ref aMffr, .ref aMfsz, .int top, .int bgn, .int mst, .int (b2i ovr), .int (b2i tgr), .int lvs, .ref aMlkd, .ref aMlat, .ref aMkkd, .ref aMkat, .ref aModr, .ref aMgrp, .int its, .ref aMikd, .ref aMiat, .long hgh, .long loo, .int (b2i dfl)])), (aMst, .inl (cI, 136400, .inl st)), (aMdcs, .inl (cI, 2, .inl dcs)), (aMfrm, .inl (cI, 400, .inl frm)), (aMgrp, .inl (cI, 200, .inl grp))] → va_S A s.heap H locs → ∀ ls : Array Slot, lv_has ls 9 [(0, .ref aM)] → W p l e ({ frames := 210, cells := 0, slots := 0, locals := 6291 }) s m args below meth c H locs 0 0 (MQ below (va_Qi (fun (r : Int32) (u : Int32 × Int32 × Int32 × Bool × Int64 × Int64 × (Nat → Int32)) => ∃ z9 : Bool, r = b2i z9 ∧ (z9, u) = V0) (mt_B D A (fun u => wd_MO_sum aM aMst aMdcs aMtot aMfrm aMsiz aMffr aMfsz aMlkd aMlat aMkkd aMkat aModr aMgrp aMikd aMiat cB cI thr tpd frs frt tgr lvs its dfl dcs frm grp u.1 u.2.1 u.2.2.1 u.2.2.2.1 u.2.2.2.2.1 u.2.2.2.2.2.1 u.2.2.2.2.2.2)) A) args s 0 0 A) (F0 m 159 ls []) := by
  obtain ⟨hx, hb, hml, hr, hown, hlocks, hT⟩ := id C0
  have hK := hk.1
  have hN := hk.2.1
  intro H locs hP hD hS ls hl
  refine lv_aload_n hx hb d_MO_sum_159 rfl (lv_at hl 0 rfl) ?_
  refine va_get (D := D) (ci := 11) (v := .long hgh) (C := R_MO) (T := T_MO) (N := 29) hx hb hT u_MO hown hK hP 0 rfl rfl 26 (by decide) (hT _ k_1069) (fun _ h9 => h9) rfl d_MO_sum_160 ?_
  refine lv_lconst (v := 0) hx hb d_MO_sum_163 (by decide) ?_
  refine W.lcmp hx hb d_MO_sum_164 ?_
  refine lv_if_le (tgt := 202) hx hb d_MO_sum_165 (by decide) (fun c_13 => ?_) (fun c_13 => ?_)
  · refine lv_aload_n hx hb d_MO_sum_202 rfl (lv_at hl 0 rfl) ?_
    refine va_get (D := D) (ci := 11) (v := .long hgh) (C := R_MO) (T := T_MO) (N := 29) hx hb hT u_MO hown hK hP 0 rfl rfl 26 (by decide) (hT _ k_1069) (fun _ h9 => h9) rfl d_MO_sum_203 ?_
    refine lv_lconst (v := 0) hx hb d_MO_sum_206 (by decide) ?_
    refine W.lcmp hx hb d_MO_sum_207 ?_
    refine lv_if_ge (tgt := 242) hx hb d_MO_sum_208 (by decide) (fun c_14 => ?_) (fun c_14 => ?_)
    · exact hKx top bgn mst ovr hgh loo st (by rw [hV, tw_MO_sum_r159, if_pos c_13, if_pos c_14]) _ _ hP hD hS ls (lv_sub hl [0] rfl)
    · refine lv_aload_n hx hb d_MO_sum_211 rfl (lv_at hl 0 rfl) ?_
      refine va_get (D := D) (ci := 11) (v := .long loo) (C := R_MO) (T := T_MO) (N := 29) hx hb hT u_MO hown hK hP 0 rfl rfl 27 (by decide) (hT _ k_1070) (fun _ h9 => h9) rfl d_MO_sum_212 ?_
      refine lv_lconst (v := 0) hx hb d_MO_sum_215 (by decide) ?_
      refine W.lcmp hx hb d_MO_sum_216 ?_
      refine lv_if_le (tgt := 242) hx hb d_MO_sum_217 (by decide) (fun c_15 => ?_) (fun c_15 => ?_)
      · exact hKx top bgn mst ovr hgh loo st (by rw [hV, tw_MO_sum_r159, if_pos c_13, if_neg c_14, if_pos c_15]) _ _ hP hD hS ls (lv_sub hl [0] rfl)
      · refine lv_aload_n hx hb d_MO_sum_220 rfl (lv_at hl 0 rfl) ?_
        refine lv_dup hx hb d_MO_sum_221 rfl ?_
        refine va_get (D := D) (ci := 11) (v := .long hgh) (C := R_MO) (T := T_MO) (N := 29) hx hb hT u_MO hown hK hP 0 rfl rfl 26 (by decide) (hT _ k_1069) (fun _ h9 => h9) rfl d_MO_sum_222 ?_
        refine lv_lconst (v := 1) hx hb d_MO_sum_225 (by decide) ?_
        refine lv_ladd hx hb d_MO_sum_226 ?_
        refine va_put (D := D) (ci := 11) (v := .long (hgh + 1)) (ty := .long) (C := R_MO) (T := T_MO) (N := 29) hx hb hT u_MO ty_MO tyok_MO nm_MO hown hK hP hD hS 0 rfl rfl 26 (by decide) (hT _ k_1069) (fun _ h9 => h9) rfl (by decide +kernel) (rfl) (rfl) (Nat.le_of_ble_eq_true rfl) d_MO_sum_227 (fun H locs hP hD hS => ?_)
        have hP : va_P D vwCl [(aM, .inr (11, [.int thr, .ref aMst, .int tpd, .ref aMdcs, .ref aMtot, .ref aMfrm, .ref aMsiz, .int frs, .int frt, .ref aMffr, .ref aMfsz, .int top, .int bgn, .int mst, .int (b2i ovr), .int (b2i tgr), .int lvs, .ref aMlkd, .ref aMlat, .ref aMkkd, .ref aMkat, .ref aModr, .ref aMgrp, .int its, .ref aMikd, .ref aMiat, .long (hgh + 1), .long loo, .int (b2i dfl)])), (aMst, .inl (cI, 136400, .inl st)), (aMdcs, .inl (cI, 2, .inl dcs)), (aMfrm, .inl (cI, 400, .inl frm)), (aMgrp, .inl (cI, 200, .inl grp))] H := hP
        have hD : va_D A [(aM, .inr (11, [.int thr, .ref aMst, .int tpd, .ref aMdcs, .ref aMtot, .ref aMfrm, .ref aMsiz, .int frs, .int frt, .ref aMffr, .ref aMfsz, .int top, .int bgn, .int mst, .int (b2i ovr), .int (b2i tgr), .int lvs, .ref aMlkd, .ref aMlat, .ref aMkkd, .ref aMkat, .ref aModr, .ref aMgrp, .int its, .ref aMikd, .ref aMiat, .long (hgh + 1), .long loo, .int (b2i dfl)])), (aMst, .inl (cI, 136400, .inl st)), (aMdcs, .inl (cI, 2, .inl dcs)), (aMfrm, .inl (cI, 400, .inl frm)), (aMgrp, .inl (cI, 200, .inl grp))] := hD
        refine lv_aload_n hx hb d_MO_sum_230 rfl (lv_at hl 0 rfl) ?_
        refine lv_dup hx hb d_MO_sum_231 rfl ?_
        refine va_get (D := D) (ci := 11) (v := .long loo) (C := R_MO) (T := T_MO) (N := 29) hx hb hT u_MO hown hK hP 0 rfl rfl 27 (by decide) (hT _ k_1070) (fun _ h9 => h9) rfl d_MO_sum_232 ?_
        refine lv_ldc2 (v := 1000000000) hx hb hown (hT _ k_1431) d_MO_sum_235 ?_
        refine lv_lsub hx hb d_MO_sum_238 ?_
        refine va_put (D := D) (ci := 11) (v := .long (loo - 1000000000)) (ty := .long) (C := R_MO) (T := T_MO) (N := 29) hx hb hT u_MO ty_MO tyok_MO nm_MO hown hK hP hD hS 0 rfl rfl 27 (by decide) (hT _ k_1070) (fun _ h9 => h9) rfl (by decide +kernel) (rfl) (rfl) (Nat.le_of_ble_eq_true rfl) d_MO_sum_239 (fun H locs hP hD hS => ?_)
        have hP : va_P D vwCl [(aM, .inr (11, [.int thr, .ref aMst, .int tpd, .ref aMdcs, .ref aMtot, .ref aMfrm, .ref aMsiz, .int frs, .int frt, .ref aMffr, .ref aMfsz, .int top, .int bgn, .int mst, .int (b2i ovr), .int (b2i tgr), .int lvs, .ref aMlkd, .ref aMlat, .ref aMkkd, .ref aMkat, .ref aModr, .ref aMgrp, .int its, .ref aMikd, .ref aMiat, .long (hgh + 1), .long (loo - 1000000000), .int (b2i dfl)])), (aMst, .inl (cI, 136400, .inl st)), (aMdcs, .inl (cI, 2, .inl dcs)), (aMfrm, .inl (cI, 400, .inl frm)), (aMgrp, .inl (cI, 200, .inl grp))] H := hP
        have hD : va_D A [(aM, .inr (11, [.int thr, .ref aMst, .int tpd, .ref aMdcs, .ref aMtot, .ref aMfrm, .ref aMsiz, .int frs, .int frt, .ref aMffr, .ref aMfsz, .int top, .int bgn, .int mst, .int (b2i ovr), .int (b2i tgr), .int lvs, .ref aMlkd, .ref aMlat, .ref aMkkd, .ref aMkat, .ref aModr, .ref aMgrp, .int its, .ref aMikd, .ref aMiat, .long (hgh + 1), .long (loo - 1000000000), .int (b2i dfl)])), (aMst, .inl (cI, 136400, .inl st)), (aMdcs, .inl (cI, 2, .inl dcs)), (aMfrm, .inl (cI, 400, .inl frm)), (aMgrp, .inl (cI, 200, .inl grp))] := hD
        exact hKx top bgn mst ovr (hgh + 1) (loo - 1000000000) st (by rw [hV, tw_MO_sum_r159, if_pos c_13, if_neg c_14, if_neg c_15]) _ _ hP hD hS ls (lv_sub hl [0] rfl)
  · refine lv_aload_n hx hb d_MO_sum_168 rfl (lv_at hl 0 rfl) ?_
    refine va_get (D := D) (ci := 11) (v := .long loo) (C := R_MO) (T := T_MO) (N := 29) hx hb hT u_MO hown hK hP 0 rfl rfl 27 (by decide) (hT _ k_1070) (fun _ h9 => h9) rfl d_MO_sum_169 ?_
    refine lv_lconst (v := 0) hx hb d_MO_sum_172 (by decide) ?_
    refine W.lcmp hx hb d_MO_sum_173 ?_
    refine lv_if_ge (tgt := 202) hx hb d_MO_sum_174 (by decide) (fun c_16 => ?_) (fun c_16 => ?_)
    · refine lv_aload_n hx hb d_MO_sum_202 rfl (lv_at hl 0 rfl) ?_
      refine va_get (D := D) (ci := 11) (v := .long hgh) (C := R_MO) (T := T_MO) (N := 29) hx hb hT u_MO hown hK hP 0 rfl rfl 26 (by decide) (hT _ k_1069) (fun _ h9 => h9) rfl d_MO_sum_203 ?_
      refine lv_lconst (v := 0) hx hb d_MO_sum_206 (by decide) ?_
      refine W.lcmp hx hb d_MO_sum_207 ?_
      refine lv_if_ge (tgt := 242) hx hb d_MO_sum_208 (by decide) (fun c_17 => ?_) (fun c_17 => ?_)
      · exact hKx top bgn mst ovr hgh loo st (by rw [hV, tw_MO_sum_r159, if_neg c_13, if_pos c_16, if_pos c_17]) _ _ hP hD hS ls (lv_sub hl [0] rfl)
      · refine lv_aload_n hx hb d_MO_sum_211 rfl (lv_at hl 0 rfl) ?_
        refine va_get (D := D) (ci := 11) (v := .long loo) (C := R_MO) (T := T_MO) (N := 29) hx hb hT u_MO hown hK hP 0 rfl rfl 27 (by decide) (hT _ k_1070) (fun _ h9 => h9) rfl d_MO_sum_212 ?_
        refine lv_lconst (v := 0) hx hb d_MO_sum_215 (by decide) ?_
        refine W.lcmp hx hb d_MO_sum_216 ?_
        refine lv_if_le (tgt := 242) hx hb d_MO_sum_217 (by decide) (fun c_18 => ?_) (fun c_18 => ?_)
        · exact hKx top bgn mst ovr hgh loo st (by rw [hV, tw_MO_sum_r159, if_neg c_13, if_pos c_16, if_neg c_17, if_pos c_18]) _ _ hP hD hS ls (lv_sub hl [0] rfl)
        · refine lv_aload_n hx hb d_MO_sum_220 rfl (lv_at hl 0 rfl) ?_
          refine lv_dup hx hb d_MO_sum_221 rfl ?_
          refine va_get (D := D) (ci := 11) (v := .long hgh) (C := R_MO) (T := T_MO) (N := 29) hx hb hT u_MO hown hK hP 0 rfl rfl 26 (by decide) (hT _ k_1069) (fun _ h9 => h9) rfl d_MO_sum_222 ?_
          refine lv_lconst (v := 1) hx hb d_MO_sum_225 (by decide) ?_
          refine lv_ladd hx hb d_MO_sum_226 ?_
          refine va_put (D := D) (ci := 11) (v := .long (hgh + 1)) (ty := .long) (C := R_MO) (T := T_MO) (N := 29) hx hb hT u_MO ty_MO tyok_MO nm_MO hown hK hP hD hS 0 rfl rfl 26 (by decide) (hT _ k_1069) (fun _ h9 => h9) rfl (by decide +kernel) (rfl) (rfl) (Nat.le_of_ble_eq_true rfl) d_MO_sum_227 (fun H locs hP hD hS => ?_)
          have hP : va_P D vwCl [(aM, .inr (11, [.int thr, .ref aMst, .int tpd, .ref aMdcs, .ref aMtot, .ref aMfrm, .ref aMsiz, .int frs, .int frt, .ref aMffr, .ref aMfsz, .int top, .int bgn, .int mst, .int (b2i ovr), .int (b2i tgr), .int lvs, .ref aMlkd, .ref aMlat, .ref aMkkd, .ref aMkat, .ref aModr, .ref aMgrp, .int its, .ref aMikd, .ref aMiat, .long (hgh + 1), .long loo, .int (b2i dfl)])), (aMst, .inl (cI, 136400, .inl st)), (aMdcs, .inl (cI, 2, .inl dcs)), (aMfrm, .inl (cI, 400, .inl frm)), (aMgrp, .inl (cI, 200, .inl grp))] H := hP
          have hD : va_D A [(aM, .inr (11, [.int thr, .ref aMst, .int tpd, .ref aMdcs, .ref aMtot, .ref aMfrm, .ref aMsiz, .int frs, .int frt, .ref aMffr, .ref aMfsz, .int top, .int bgn, .int mst, .int (b2i ovr), .int (b2i tgr), .int lvs, .ref aMlkd, .ref aMlat, .ref aMkkd, .ref aMkat, .ref aModr, .ref aMgrp, .int its, .ref aMikd, .ref aMiat, .long (hgh + 1), .long loo, .int (b2i dfl)])), (aMst, .inl (cI, 136400, .inl st)), (aMdcs, .inl (cI, 2, .inl dcs)), (aMfrm, .inl (cI, 400, .inl frm)), (aMgrp, .inl (cI, 200, .inl grp))] := hD
          refine lv_aload_n hx hb d_MO_sum_230 rfl (lv_at hl 0 rfl) ?_
          refine lv_dup hx hb d_MO_sum_231 rfl ?_
          refine va_get (D := D) (ci := 11) (v := .long loo) (C := R_MO) (T := T_MO) (N := 29) hx hb hT u_MO hown hK hP 0 rfl rfl 27 (by decide) (hT _ k_1070) (fun _ h9 => h9) rfl d_MO_sum_232 ?_
          refine lv_ldc2 (v := 1000000000) hx hb hown (hT _ k_1431) d_MO_sum_235 ?_
          refine lv_lsub hx hb d_MO_sum_238 ?_
          refine va_put (D := D) (ci := 11) (v := .long (loo - 1000000000)) (ty := .long) (C := R_MO) (T := T_MO) (N := 29) hx hb hT u_MO ty_MO tyok_MO nm_MO hown hK hP hD hS 0 rfl rfl 27 (by decide) (hT _ k_1070) (fun _ h9 => h9) rfl (by decide +kernel) (rfl) (rfl) (Nat.le_of_ble_eq_true rfl) d_MO_sum_239 (fun H locs hP hD hS => ?_)
          have hP : va_P D vwCl [(aM, .inr (11, [.int thr, .ref aMst, .int tpd, .ref aMdcs, .ref aMtot, .ref aMfrm, .ref aMsiz, .int frs, .int frt, .ref aMffr, .ref aMfsz, .int top, .int bgn, .int mst, .int (b2i ovr), .int (b2i tgr), .int lvs, .ref aMlkd, .ref aMlat, .ref aMkkd, .ref aMkat, .ref aModr, .ref aMgrp, .int its, .ref aMikd, .ref aMiat, .long (hgh + 1), .long (loo - 1000000000), .int (b2i dfl)])), (aMst, .inl (cI, 136400, .inl st)), (aMdcs, .inl (cI, 2, .inl dcs)), (aMfrm, .inl (cI, 400, .inl frm)), (aMgrp, .inl (cI, 200, .inl grp))] H := hP
          have hD : va_D A [(aM, .inr (11, [.int thr, .ref aMst, .int tpd, .ref aMdcs, .ref aMtot, .ref aMfrm, .ref aMsiz, .int frs, .int frt, .ref aMffr, .ref aMfsz, .int top, .int bgn, .int mst, .int (b2i ovr), .int (b2i tgr), .int lvs, .ref aMlkd, .ref aMlat, .ref aMkkd, .ref aMkat, .ref aModr, .ref aMgrp, .int its, .ref aMikd, .ref aMiat, .long (hgh + 1), .long (loo - 1000000000), .int (b2i dfl)])), (aMst, .inl (cI, 136400, .inl st)), (aMdcs, .inl (cI, 2, .inl dcs)), (aMfrm, .inl (cI, 400, .inl frm)), (aMgrp, .inl (cI, 200, .inl grp))] := hD
          exact hKx top bgn mst ovr (hgh + 1) (loo - 1000000000) st (by rw [hV, tw_MO_sum_r159, if_neg c_13, if_pos c_16, if_neg c_17, if_neg c_18]) _ _ hP hD hS ls (lv_sub hl [0] rfl)
    · refine lv_aload_n hx hb d_MO_sum_177 rfl (lv_at hl 0 rfl) ?_
      refine lv_dup hx hb d_MO_sum_178 rfl ?_
      refine va_get (D := D) (ci := 11) (v := .long hgh) (C := R_MO) (T := T_MO) (N := 29) hx hb hT u_MO hown hK hP 0 rfl rfl 26 (by decide) (hT _ k_1069) (fun _ h9 => h9) rfl d_MO_sum_179 ?_
      refine lv_lconst (v := 1) hx hb d_MO_sum_182 (by decide) ?_
      refine lv_lsub hx hb d_MO_sum_183 ?_
      refine va_put (D := D) (ci := 11) (v := .long (hgh - 1)) (ty := .long) (C := R_MO) (T := T_MO) (N := 29) hx hb hT u_MO ty_MO tyok_MO nm_MO hown hK hP hD hS 0 rfl rfl 26 (by decide) (hT _ k_1069) (fun _ h9 => h9) rfl (by decide +kernel) (rfl) (rfl) (Nat.le_of_ble_eq_true rfl) d_MO_sum_184 (fun H locs hP hD hS => ?_)
      have hP : va_P D vwCl [(aM, .inr (11, [.int thr, .ref aMst, .int tpd, .ref aMdcs, .ref aMtot, .ref aMfrm, .ref aMsiz, .int frs, .int frt, .ref aMffr, .ref aMfsz, .int top, .int bgn, .int mst, .int (b2i ovr), .int (b2i tgr), .int lvs, .ref aMlkd, .ref aMlat, .ref aMkkd, .ref aMkat, .ref aModr, .ref aMgrp, .int its, .ref aMikd, .ref aMiat, .long (hgh - 1), .long loo, .int (b2i dfl)])), (aMst, .inl (cI, 136400, .inl st)), (aMdcs, .inl (cI, 2, .inl dcs)), (aMfrm, .inl (cI, 400, .inl frm)), (aMgrp, .inl (cI, 200, .inl grp))] H := hP
      have hD : va_D A [(aM, .inr (11, [.int thr, .ref aMst, .int tpd, .ref aMdcs, .ref aMtot, .ref aMfrm, .ref aMsiz, .int frs, .int frt, .ref aMffr, .ref aMfsz, .int top, .int bgn, .int mst, .int (b2i ovr), .int (b2i tgr), .int lvs, .ref aMlkd, .ref aMlat, .ref aMkkd, .ref aMkat, .ref aModr, .ref aMgrp, .int its, .ref aMikd, .ref aMiat, .long (hgh - 1), .long loo, .int (b2i dfl)])), (aMst, .inl (cI, 136400, .inl st)), (aMdcs, .inl (cI, 2, .inl dcs)), (aMfrm, .inl (cI, 400, .inl frm)), (aMgrp, .inl (cI, 200, .inl grp))] := hD
      refine lv_aload_n hx hb d_MO_sum_187 rfl (lv_at hl 0 rfl) ?_
      refine lv_dup hx hb d_MO_sum_188 rfl ?_
      refine va_get (D := D) (ci := 11) (v := .long loo) (C := R_MO) (T := T_MO) (N := 29) hx hb hT u_MO hown hK hP 0 rfl rfl 27 (by decide) (hT _ k_1070) (fun _ h9 => h9) rfl d_MO_sum_189 ?_
      refine lv_ldc2 (v := 1000000000) hx hb hown (hT _ k_1431) d_MO_sum_192 ?_
      refine lv_ladd hx hb d_MO_sum_195 ?_
      refine va_put (D := D) (ci := 11) (v := .long (loo + 1000000000)) (ty := .long) (C := R_MO) (T := T_MO) (N := 29) hx hb hT u_MO ty_MO tyok_MO nm_MO hown hK hP hD hS 0 rfl rfl 27 (by decide) (hT _ k_1070) (fun _ h9 => h9) rfl (by decide +kernel) (rfl) (rfl) (Nat.le_of_ble_eq_true rfl) d_MO_sum_196 (fun H locs hP hD hS => ?_)
      have hP : va_P D vwCl [(aM, .inr (11, [.int thr, .ref aMst, .int tpd, .ref aMdcs, .ref aMtot, .ref aMfrm, .ref aMsiz, .int frs, .int frt, .ref aMffr, .ref aMfsz, .int top, .int bgn, .int mst, .int (b2i ovr), .int (b2i tgr), .int lvs, .ref aMlkd, .ref aMlat, .ref aMkkd, .ref aMkat, .ref aModr, .ref aMgrp, .int its, .ref aMikd, .ref aMiat, .long (hgh - 1), .long (loo + 1000000000), .int (b2i dfl)])), (aMst, .inl (cI, 136400, .inl st)), (aMdcs, .inl (cI, 2, .inl dcs)), (aMfrm, .inl (cI, 400, .inl frm)), (aMgrp, .inl (cI, 200, .inl grp))] H := hP
      have hD : va_D A [(aM, .inr (11, [.int thr, .ref aMst, .int tpd, .ref aMdcs, .ref aMtot, .ref aMfrm, .ref aMsiz, .int frs, .int frt, .ref aMffr, .ref aMfsz, .int top, .int bgn, .int mst, .int (b2i ovr), .int (b2i tgr), .int lvs, .ref aMlkd, .ref aMlat, .ref aMkkd, .ref aMkat, .ref aModr, .ref aMgrp, .int its, .ref aMikd, .ref aMiat, .long (hgh - 1), .long (loo + 1000000000), .int (b2i dfl)])), (aMst, .inl (cI, 136400, .inl st)), (aMdcs, .inl (cI, 2, .inl dcs)), (aMfrm, .inl (cI, 400, .inl frm)), (aMgrp, .inl (cI, 200, .inl grp))] := hD
      refine lv_goto (tgt := 242) hx hb d_MO_sum_199 (by decide) ?_
      exact hKx top bgn mst ovr (hgh - 1) (loo + 1000000000) st (by rw [hV, tw_MO_sum_r159, if_neg c_13, if_neg c_16]) _ _ hP hD hS ls (lv_sub hl [0] rfl)
set_option maxHeartbeats 4000000 in
set_option maxRecDepth 100000 in
theorem c_MO_sum (l : Launch) (D : va_G) (cB cI : ClassId) (aM aMst aMdcs aMtot aMfrm aMsiz aMffr aMfsz aMlkd aMlat aMkkd aMkat aModr aMgrp aMikd aMiat : Nat) (fu : Nat) (thr : Int32) (tpd : Int32) (frs : Int32) (frt : Int32) (tgr : Bool) (lvs : Int32) (its : Int32) (dfl : Bool) (dcs : Nat → Int32) (frm : Nat → Int32) (grp : Nat → Int32) (sz : Nat) (top : Int32) (bgn : Int32) (mst : Int32) (ovr : Bool) (hgh : Int64) (loo : Int64) (st : Nat → Int32) (p0 : Int32) (p1 : Int32) (p2 : Int32) (V0 : Bool × Int32 × Int32 × Int32 × Bool × Int64 × Int64 × (Nat → Int32)) (hs : tw_MO_sum fu dfl dcs frm grp top bgn mst ovr hgh loo st p0 p1 p2 = some V0) : Met l y_MO_sum mw_MO_sum { frames := 210, cells := 0, slots := 0, locals := 6291 } (va_Pc [.ref aM, .int p0, .int p1, .int p2] (mt_P D cB cI (wd_MO_sum aM aMst aMdcs aMtot aMfrm aMsiz aMffr aMfsz aMlkd aMlat aMkkd aMkat aModr aMgrp aMikd aMiat cB cI thr tpd frs frt tgr lvs its dfl dcs frm grp top bgn mst ovr hgh loo st) sz)) (va_Qi (fun (r : Int32) (u : Int32 × Int32 × Int32 × Bool × Int64 × Int64 × (Nat → Int32)) => ∃ z9 : Bool, r = b2i z9 ∧ (z9, u) = V0) (mt_B D (va_A (wd_MO_sum aM aMst aMdcs aMtot aMfrm aMsiz aMffr aMfsz aMlkd aMlat aMkkd aMkat aModr aMgrp aMikd aMiat cB cI thr tpd frs frt tgr lvs its dfl dcs frm grp top bgn mst ovr hgh loo st) sz) (fun u => wd_MO_sum aM aMst aMdcs aMtot aMfrm aMsiz aMffr aMfsz aMlkd aMlat aMkkd aMkat aModr aMgrp aMikd aMiat cB cI thr tpd frs frt tgr lvs its dfl dcs frm grp u.1 u.2.1 u.2.2.1 u.2.2.2.1 u.2.2.2.2.1 u.2.2.2.2.2.1 u.2.2.2.2.2.2)) (va_A (wd_MO_sum aM aMst aMdcs aMtot aMfrm aMsiz aMffr aMfsz aMlkd aMlat aMkkd aMkat aModr aMgrp aMikd aMiat cB cI thr tpd frs frt tgr lvs its dfl dcs frm grp top bgn mst ovr hgh loo st) sz)) 0 0 (va_A (wd_MO_sum aM aMst aMdcs aMtot aMfrm aMsiz aMffr aMfsz aMlkd aMlat aMkkd aMkat aModr aMgrp aMikd aMiat cB cI thr tpd frs frt tgr lvs its dfl dcs frm grp top bgn mst ovr hgh loo st) sz) := by
  refine Met.ofW (cc := b_MO_sum) (maxL := 9) (ret := (some .boolean)) (by decide) rfl ?_
  intro p e s m args below meth c s₁ B0 hml hv
  obtain ⟨rfl, hsz, hP, hk, hD0⟩ := hv
  have hK := hk.1
  have hN := hk.2.1
  have hx := B0.exec
  have hb := B0.bytes
  have hr := B0.returns
  have hT : ∀ w ∈ lw_g, w.before _ s = true := fun w h => atoms_spec (ws := mw_MO_sum) B0.pre w (List.mem_cons_of_mem _ h)
  have hown : s.vm.findClass R_MO = some m.cls := findClass_of_methodNamed B0.named
  have hlocks := B0.notSynchronized
  subst hsz
  have hD := hD0.self (sz := s.heap.size)
  generalize hAe : va_A [(aM, .inr (11, [.int thr, .ref aMst, .int tpd, .ref aMdcs, .ref aMtot, .ref aMfrm, .ref aMsiz, .int frs, .int frt, .ref aMffr, .ref aMfsz, .int top, .int bgn, .int mst, .int (b2i ovr), .int (b2i tgr), .int lvs, .ref aMlkd, .ref aMlat, .ref aMkkd, .ref aMkat, .ref aModr, .ref aMgrp, .int its, .ref aMikd, .ref aMiat, .long hgh, .long loo, .int (b2i dfl)])), (aMst, .inl (cI, 136400, .inl st)), (aMdcs, .inl (cI, 2, .inl dcs)), (aMfrm, .inl (cI, 400, .inl frm)), (aMgrp, .inl (cI, 200, .inl grp))] s.heap.size = A at hD ⊢
  have hA : ∀ q : Nat, s.heap.size ≤ q → A q := fun q h => by rw [← hAe]; exact Or.inr h
  have hS : va_S A s.heap s.heap [] := va_S.rf
  have hl := lv_entry ([.ref aM, .int p0, .int p1, .int p2]) (n := 9) (Nat.le_of_ble_eq_true rfl)
  rw [lg_entry_eq]
  generalize (lg_sl ([.ref aM, .int p0, .int p1, .int p2]) ++ List.replicate (9 - (lg_sl ([.ref aM, .int p0, .int p1, .int p2])).length) Slot.unset).toArray = ls at hl ⊢
  have hl : lv_has ls 9 [(0, .ref aM), (1, .int p0), (2, .int p1), (3, .int p2)] := hl
  have C0 : lc_C p s m meth c _ b_MO_sum 9 (some .boolean) R_MO lw_g := ⟨hx, hb, hml, hr, hown, hlocks, hT⟩
  refine lv_aload_n hx hb d_MO_sum_0 rfl (lv_at hl 0 rfl) ?_
  refine va_get (D := D) (ci := 11) (v := .int top) (C := R_MO) (T := T_MO) (N := 29) hx hb hT u_MO hown hK hP 0 rfl rfl 11 (by decide) (hT _ k_1054) (fun _ h9 => h9) rfl d_MO_sum_1 ?_
  refine lv_istore (lv' := [(4, .int top), (0, .ref aM), (1, .int p0), (2, .int p1), (3, .int p2)]) hx hb d_MO_sum_4 hl (by decide) rfl (fun ls hl => ?_)
  refine lv_aload_n hx hb d_MO_sum_6 rfl (lv_at hl 1 rfl) ?_
  refine lv_lconst (v := 0) hx hb d_MO_sum_7 (by decide) ?_
  refine va_put (D := D) (ci := 11) (v := .long 0) (ty := .long) (C := R_MO) (T := T_MO) (N := 29) hx hb hT u_MO ty_MO tyok_MO nm_MO hown hK hP hD hS 0 rfl rfl 26 (by decide) (hT _ k_1069) (fun _ h9 => h9) rfl (by decide +kernel) (rfl) (rfl) (Nat.le_of_ble_eq_true rfl) d_MO_sum_8 (fun H locs hP hD hS => ?_)
  have hP : va_P D vwCl [(aM, .inr (11, [.int thr, .ref aMst, .int tpd, .ref aMdcs, .ref aMtot, .ref aMfrm, .ref aMsiz, .int frs, .int frt, .ref aMffr, .ref aMfsz, .int top, .int bgn, .int mst, .int (b2i ovr), .int (b2i tgr), .int lvs, .ref aMlkd, .ref aMlat, .ref aMkkd, .ref aMkat, .ref aModr, .ref aMgrp, .int its, .ref aMikd, .ref aMiat, .long 0, .long loo, .int (b2i dfl)])), (aMst, .inl (cI, 136400, .inl st)), (aMdcs, .inl (cI, 2, .inl dcs)), (aMfrm, .inl (cI, 400, .inl frm)), (aMgrp, .inl (cI, 200, .inl grp))] H := hP
  have hD : va_D A [(aM, .inr (11, [.int thr, .ref aMst, .int tpd, .ref aMdcs, .ref aMtot, .ref aMfrm, .ref aMsiz, .int frs, .int frt, .ref aMffr, .ref aMfsz, .int top, .int bgn, .int mst, .int (b2i ovr), .int (b2i tgr), .int lvs, .ref aMlkd, .ref aMlat, .ref aMkkd, .ref aMkat, .ref aModr, .ref aMgrp, .int its, .ref aMikd, .ref aMiat, .long 0, .long loo, .int (b2i dfl)])), (aMst, .inl (cI, 136400, .inl st)), (aMdcs, .inl (cI, 2, .inl dcs)), (aMfrm, .inl (cI, 400, .inl frm)), (aMgrp, .inl (cI, 200, .inl grp))] := hD
  refine lv_aload_n hx hb d_MO_sum_11 rfl (lv_at hl 1 rfl) ?_
  refine lv_lconst (v := 0) hx hb d_MO_sum_12 (by decide) ?_
  refine va_put (D := D) (ci := 11) (v := .long 0) (ty := .long) (C := R_MO) (T := T_MO) (N := 29) hx hb hT u_MO ty_MO tyok_MO nm_MO hown hK hP hD hS 0 rfl rfl 27 (by decide) (hT _ k_1070) (fun _ h9 => h9) rfl (by decide +kernel) (rfl) (rfl) (Nat.le_of_ble_eq_true rfl) d_MO_sum_13 (fun H locs hP hD hS => ?_)
  have hP : va_P D vwCl [(aM, .inr (11, [.int thr, .ref aMst, .int tpd, .ref aMdcs, .ref aMtot, .ref aMfrm, .ref aMsiz, .int frs, .int frt, .ref aMffr, .ref aMfsz, .int top, .int bgn, .int mst, .int (b2i ovr), .int (b2i tgr), .int lvs, .ref aMlkd, .ref aMlat, .ref aMkkd, .ref aMkat, .ref aModr, .ref aMgrp, .int its, .ref aMikd, .ref aMiat, .long 0, .long 0, .int (b2i dfl)])), (aMst, .inl (cI, 136400, .inl st)), (aMdcs, .inl (cI, 2, .inl dcs)), (aMfrm, .inl (cI, 400, .inl frm)), (aMgrp, .inl (cI, 200, .inl grp))] H := hP
  have hD : va_D A [(aM, .inr (11, [.int thr, .ref aMst, .int tpd, .ref aMdcs, .ref aMtot, .ref aMfrm, .ref aMsiz, .int frs, .int frt, .ref aMffr, .ref aMfsz, .int top, .int bgn, .int mst, .int (b2i ovr), .int (b2i tgr), .int lvs, .ref aMlkd, .ref aMlat, .ref aMkkd, .ref aMkat, .ref aModr, .ref aMgrp, .int its, .ref aMikd, .ref aMiat, .long 0, .long 0, .int (b2i dfl)])), (aMst, .inl (cI, 136400, .inl st)), (aMdcs, .inl (cI, 2, .inl dcs)), (aMfrm, .inl (cI, 400, .inl frm)), (aMgrp, .inl (cI, 200, .inl grp))] := hD
  refine lv_iconst (v := 0) hx hb d_MO_sum_16 (by decide) ?_
  refine lv_istore (lv' := [(5, .int 0), (4, .int top), (0, .ref aM), (1, .int p0), (2, .int p1), (3, .int p2)]) hx hb d_MO_sum_17 hl (by decide) rfl (fun ls hl => ?_)
  refine l_MO_sum_h19 C0 hs l D cB cI aM aMst aMdcs aMtot aMfrm aMsiz aMffr aMfsz aMlkd aMlat aMkkd aMkat aModr aMgrp aMikd aMiat fu thr tpd frs frt tgr lvs its dfl dcs frm grp hk hA p0 p1 p2 top  (K := (fun (x5_11 : Int32) (top_11 : Int32) (bgn_11 : Int32) (mst_11 : Int32) (ovr_11 : Bool) (hgh_11 : Int64) (loo_11 : Int64) (st_11 : Nat → Int32) =>
      ob4 (tw_MO_resume fu dfl top_11 bgn_11 mst_11 ovr_11 p2 top) (fun top_12 bgn_12 mst_12 ovr_12 =>
        tw_MO_sum_r159 fu dfl dcs frm grp (fun (top_19 : Int32) (bgn_19 : Int32) (mst_19 : Int32) (ovr_19 : Bool) (hgh_19 : Int64) (loo_19 : Int64) (st_19 : Nat → Int32) =>
      if 0 ≤ (lg_cmp hgh_19 9223372036) then
        if (lg_cmp hgh_19 9223372036) = 0 then
          if (lg_cmp loo_19 854775807) ≤ 0 then
            some (true, top_19, bgn_19, mst_19, ovr_19, hgh_19, loo_19, st_19)
          else
            if (lg_cmp hgh_19 (-9223372036)) = 0 then
              if (lg_cmp loo_19 (-854775808)) < 0 then
                some (false, top_19, bgn_19, mst_19, ovr_19, hgh_19, loo_19, st_19)
              else
                some (true, top_19, bgn_19, mst_19, ovr_19, hgh_19, loo_19, st_19)
            else
              some (false, top_19, bgn_19, mst_19, ovr_19, hgh_19, loo_19, st_19)
        else
          if (lg_cmp hgh_19 (-9223372036)) = 0 then
            if (lg_cmp loo_19 (-854775808)) < 0 then
              some (false, top_19, bgn_19, mst_19, ovr_19, hgh_19, loo_19, st_19)
            else
              some (true, top_19, bgn_19, mst_19, ovr_19, hgh_19, loo_19, st_19)
          else
            some (false, top_19, bgn_19, mst_19, ovr_19, hgh_19, loo_19, st_19)
      else
        if 0 < (lg_cmp hgh_19 (-9223372036)) then
          some (true, top_19, bgn_19, mst_19, ovr_19, hgh_19, loo_19, st_19)
        else
          if (lg_cmp hgh_19 9223372036) = 0 then
            if (lg_cmp loo_19 854775807) ≤ 0 then
              some (true, top_19, bgn_19, mst_19, ovr_19, hgh_19, loo_19, st_19)
            else
              if (lg_cmp hgh_19 (-9223372036)) = 0 then
                if (lg_cmp loo_19 (-854775808)) < 0 then
                  some (false, top_19, bgn_19, mst_19, ovr_19, hgh_19, loo_19, st_19)
                else
                  some (true, top_19, bgn_19, mst_19, ovr_19, hgh_19, loo_19, st_19)
              else
                some (false, top_19, bgn_19, mst_19, ovr_19, hgh_19, loo_19, st_19)
          else
            if (lg_cmp hgh_19 (-9223372036)) = 0 then
              if (lg_cmp loo_19 (-854775808)) < 0 then
                some (false, top_19, bgn_19, mst_19, ovr_19, hgh_19, loo_19, st_19)
              else
                some (true, top_19, bgn_19, mst_19, ovr_19, hgh_19, loo_19, st_19)
            else
              some (false, top_19, bgn_19, mst_19, ovr_19, hgh_19, loo_19, st_19)) top_12 bgn_12 mst_12 ovr_12 (hgh_11 + (loo_11 / 1000000000)) (loo_11 - loo_11 / 1000000000 * 1000000000) st_11))) ?_ fu 0 top bgn mst ovr 0 0 st  (by rw [tw_MO_sum]) _ _ hP hD hS ls (lv_sub hl [2, 3, 4, 5, 1, 0] rfl)
  intro x5_11 top_11 bgn_11 mst_11 ovr_11 hgh_11 loo_11 st_11 hV_11 H locs hP hD hS ls hl
  refine lv_aload_n hx hb d_MO_sum_123 rfl (lv_at hl 0 rfl) ?_
  refine lv_iload_n hx hb d_MO_sum_124 rfl (lv_at hl 1 rfl) ?_
  refine lv_iload hx hb d_MO_sum_125 (lv_at hl 2 rfl) ?_
  rcases h_12 : tw_MO_resume fu dfl top_11 bgn_11 mst_11 ovr_11 p2 top with _ | w_12
  · exact op_no hs (by rw [hV_11, h_12, ob4_no])
  refine mt_Vv (As := [.int p2, .int top]) (rest := []) (wr := [(aMst, .inl (cI, 136400, .inl st_11)), (aMdcs, .inl (cI, 2, .inl dcs)), (aMfrm, .inl (cI, 400, .inl frm)), (aMgrp, .inl (cI, 200, .inl grp))]) ⟨hx, hb, hml, hown, hT⟩ (c_MO_resume l D cB cI aM aMst aMdcs aMtot aMfrm aMsiz aMffr aMfsz aMlkd aMlat aMkkd aMkat aModr aMgrp aMikd aMiat fu thr tpd frs frt tgr lvs its hgh_11 loo_11 dfl _ top_11 bgn_11 mst_11 ovr_11 p2 top w_12 h_12) (cwV 2 hT (gV_of k_1419 k_1421 kp_MO_resume k_12 kc_MO_resume) rfl rfl rfl hd_MO_resume ⟨Nat.le_of_ble_eq_true rfl, Nat.le_of_ble_eq_true rfl⟩) hk hP hD hS hA [0] [1, 2, 3, 4] rfl rfl rfl (by decide) (by decide) (by decide) (q0 := 0) rfl rfl rfl rfl hl.1 rfl (Nat.le_of_ble_eq_true rfl) d_MO_sum_127 ⟨Nat.zero_le _, Nat.zero_le _⟩ (fun u_12 H locs hw_12 hP hD hS => ?_)
  subst hw_12
  obtain ⟨top_12, bgn_12, mst_12, ovr_12⟩ := u_12
  have hP : va_P D vwCl [(aM, .inr (11, [.int thr, .ref aMst, .int tpd, .ref aMdcs, .ref aMtot, .ref aMfrm, .ref aMsiz, .int frs, .int frt, .ref aMffr, .ref aMfsz, .int top_12, .int bgn_12, .int mst_12, .int (b2i ovr_12), .int (b2i tgr), .int lvs, .ref aMlkd, .ref aMlat, .ref aMkkd, .ref aMkat, .ref aModr, .ref aMgrp, .int its, .ref aMikd, .ref aMiat, .long hgh_11, .long loo_11, .int (b2i dfl)])), (aMst, .inl (cI, 136400, .inl st_11)), (aMdcs, .inl (cI, 2, .inl dcs)), (aMfrm, .inl (cI, 400, .inl frm)), (aMgrp, .inl (cI, 200, .inl grp))] H := hP.sub [4, 0, 1, 2, 3] rfl
  have hD : va_D A [(aM, .inr (11, [.int thr, .ref aMst, .int tpd, .ref aMdcs, .ref aMtot, .ref aMfrm, .ref aMsiz, .int frs, .int frt, .ref aMffr, .ref aMfsz, .int top_12, .int bgn_12, .int mst_12, .int (b2i ovr_12), .int (b2i tgr), .int lvs, .ref aMlkd, .ref aMlat, .ref aMkkd, .ref aMkat, .ref aModr, .ref aMgrp, .int its, .ref aMikd, .ref aMiat, .long hgh_11, .long loo_11, .int (b2i dfl)])), (aMst, .inl (cI, 136400, .inl st_11)), (aMdcs, .inl (cI, 2, .inl dcs)), (aMfrm, .inl (cI, 400, .inl frm)), (aMgrp, .inl (cI, 200, .inl grp))] := hD.sub [4, 0, 1, 2, 3] (by decide) rfl
  refine lv_aload_n hx hb d_MO_sum_130 rfl (lv_at hl 0 rfl) ?_
  refine lv_dup hx hb d_MO_sum_131 rfl ?_
  refine va_get (D := D) (ci := 11) (v := .long hgh_11) (C := R_MO) (T := T_MO) (N := 29) hx hb hT u_MO hown hK hP 0 rfl rfl 26 (by decide) (hT _ k_1069) (fun _ h9 => h9) rfl d_MO_sum_132 ?_
  refine lv_aload_n hx hb d_MO_sum_135 rfl (lv_at hl 0 rfl) ?_
  refine va_get (D := D) (ci := 11) (v := .long loo_11) (C := R_MO) (T := T_MO) (N := 29) hx hb hT u_MO hown hK hP 0 rfl rfl 27 (by decide) (hT _ k_1070) (fun _ h9 => h9) rfl d_MO_sum_136 ?_
  refine lv_ldc2 (v := 1000000000) hx hb hown (hT _ k_1431) d_MO_sum_139 ?_
  refine lv_ldiv hx hb d_MO_sum_142 (by decide) ?_
  refine lv_ladd hx hb d_MO_sum_143 ?_
  refine va_put (D := D) (ci := 11) (v := .long (hgh_11 + (loo_11 / 1000000000))) (ty := .long) (C := R_MO) (T := T_MO) (N := 29) hx hb hT u_MO ty_MO tyok_MO nm_MO hown hK hP hD hS 0 rfl rfl 26 (by decide) (hT _ k_1069) (fun _ h9 => h9) rfl (by decide +kernel) (rfl) (rfl) (Nat.le_of_ble_eq_true rfl) d_MO_sum_144 (fun H locs hP hD hS => ?_)
  have hP : va_P D vwCl [(aM, .inr (11, [.int thr, .ref aMst, .int tpd, .ref aMdcs, .ref aMtot, .ref aMfrm, .ref aMsiz, .int frs, .int frt, .ref aMffr, .ref aMfsz, .int top_12, .int bgn_12, .int mst_12, .int (b2i ovr_12), .int (b2i tgr), .int lvs, .ref aMlkd, .ref aMlat, .ref aMkkd, .ref aMkat, .ref aModr, .ref aMgrp, .int its, .ref aMikd, .ref aMiat, .long (hgh_11 + (loo_11 / 1000000000)), .long loo_11, .int (b2i dfl)])), (aMst, .inl (cI, 136400, .inl st_11)), (aMdcs, .inl (cI, 2, .inl dcs)), (aMfrm, .inl (cI, 400, .inl frm)), (aMgrp, .inl (cI, 200, .inl grp))] H := hP
  have hD : va_D A [(aM, .inr (11, [.int thr, .ref aMst, .int tpd, .ref aMdcs, .ref aMtot, .ref aMfrm, .ref aMsiz, .int frs, .int frt, .ref aMffr, .ref aMfsz, .int top_12, .int bgn_12, .int mst_12, .int (b2i ovr_12), .int (b2i tgr), .int lvs, .ref aMlkd, .ref aMlat, .ref aMkkd, .ref aMkat, .ref aModr, .ref aMgrp, .int its, .ref aMikd, .ref aMiat, .long (hgh_11 + (loo_11 / 1000000000)), .long loo_11, .int (b2i dfl)])), (aMst, .inl (cI, 136400, .inl st_11)), (aMdcs, .inl (cI, 2, .inl dcs)), (aMfrm, .inl (cI, 400, .inl frm)), (aMgrp, .inl (cI, 200, .inl grp))] := hD
  refine lv_aload_n hx hb d_MO_sum_147 rfl (lv_at hl 0 rfl) ?_
  refine lv_aload_n hx hb d_MO_sum_148 rfl (lv_at hl 0 rfl) ?_
  refine va_get (D := D) (ci := 11) (v := .long loo_11) (C := R_MO) (T := T_MO) (N := 29) hx hb hT u_MO hown hK hP 0 rfl rfl 27 (by decide) (hT _ k_1070) (fun _ h9 => h9) rfl d_MO_sum_149 ?_
  refine lv_ldc2 (v := 1000000000) hx hb hown (hT _ k_1431) d_MO_sum_152 ?_
  refine lv_lrem hx hb d_MO_sum_155 (by decide) ?_
  refine va_put (D := D) (ci := 11) (v := .long (loo_11 - loo_11 / 1000000000 * 1000000000)) (ty := .long) (C := R_MO) (T := T_MO) (N := 29) hx hb hT u_MO ty_MO tyok_MO nm_MO hown hK hP hD hS 0 rfl rfl 27 (by decide) (hT _ k_1070) (fun _ h9 => h9) rfl (by decide +kernel) (rfl) (rfl) (Nat.le_of_ble_eq_true rfl) d_MO_sum_156 (fun H locs hP hD hS => ?_)
  have hP : va_P D vwCl [(aM, .inr (11, [.int thr, .ref aMst, .int tpd, .ref aMdcs, .ref aMtot, .ref aMfrm, .ref aMsiz, .int frs, .int frt, .ref aMffr, .ref aMfsz, .int top_12, .int bgn_12, .int mst_12, .int (b2i ovr_12), .int (b2i tgr), .int lvs, .ref aMlkd, .ref aMlat, .ref aMkkd, .ref aMkat, .ref aModr, .ref aMgrp, .int its, .ref aMikd, .ref aMiat, .long (hgh_11 + (loo_11 / 1000000000)), .long (loo_11 - loo_11 / 1000000000 * 1000000000), .int (b2i dfl)])), (aMst, .inl (cI, 136400, .inl st_11)), (aMdcs, .inl (cI, 2, .inl dcs)), (aMfrm, .inl (cI, 400, .inl frm)), (aMgrp, .inl (cI, 200, .inl grp))] H := hP
  have hD : va_D A [(aM, .inr (11, [.int thr, .ref aMst, .int tpd, .ref aMdcs, .ref aMtot, .ref aMfrm, .ref aMsiz, .int frs, .int frt, .ref aMffr, .ref aMfsz, .int top_12, .int bgn_12, .int mst_12, .int (b2i ovr_12), .int (b2i tgr), .int lvs, .ref aMlkd, .ref aMlat, .ref aMkkd, .ref aMkat, .ref aModr, .ref aMgrp, .int its, .ref aMikd, .ref aMiat, .long (hgh_11 + (loo_11 / 1000000000)), .long (loo_11 - loo_11 / 1000000000 * 1000000000), .int (b2i dfl)])), (aMst, .inl (cI, 136400, .inl st_11)), (aMdcs, .inl (cI, 2, .inl dcs)), (aMfrm, .inl (cI, 400, .inl frm)), (aMgrp, .inl (cI, 200, .inl grp))] := hD
  refine l_MO_sum_r159 C0 hs l D cB cI aM aMst aMdcs aMtot aMfrm aMsiz aMffr aMfsz aMlkd aMlat aMkkd aMkat aModr aMgrp aMikd aMiat fu thr tpd frs frt tgr lvs its dfl dcs frm grp hk hA top_12 bgn_12 mst_12 ovr_12 (hgh_11 + (loo_11 / 1000000000)) (loo_11 - loo_11 / 1000000000 * 1000000000) st_11 (K := (fun (top_19 : Int32) (bgn_19 : Int32) (mst_19 : Int32) (ovr_19 : Bool) (hgh_19 : Int64) (loo_19 : Int64) (st_19 : Nat → Int32) =>
      if 0 ≤ (lg_cmp hgh_19 9223372036) then
        if (lg_cmp hgh_19 9223372036) = 0 then
          if (lg_cmp loo_19 854775807) ≤ 0 then
            some (true, top_19, bgn_19, mst_19, ovr_19, hgh_19, loo_19, st_19)
          else
            if (lg_cmp hgh_19 (-9223372036)) = 0 then
              if (lg_cmp loo_19 (-854775808)) < 0 then
                some (false, top_19, bgn_19, mst_19, ovr_19, hgh_19, loo_19, st_19)
              else
                some (true, top_19, bgn_19, mst_19, ovr_19, hgh_19, loo_19, st_19)
            else
              some (false, top_19, bgn_19, mst_19, ovr_19, hgh_19, loo_19, st_19)
        else
          if (lg_cmp hgh_19 (-9223372036)) = 0 then
            if (lg_cmp loo_19 (-854775808)) < 0 then
              some (false, top_19, bgn_19, mst_19, ovr_19, hgh_19, loo_19, st_19)
            else
              some (true, top_19, bgn_19, mst_19, ovr_19, hgh_19, loo_19, st_19)
          else
            some (false, top_19, bgn_19, mst_19, ovr_19, hgh_19, loo_19, st_19)
      else
        if 0 < (lg_cmp hgh_19 (-9223372036)) then
          some (true, top_19, bgn_19, mst_19, ovr_19, hgh_19, loo_19, st_19)
        else
          if (lg_cmp hgh_19 9223372036) = 0 then
            if (lg_cmp loo_19 854775807) ≤ 0 then
              some (true, top_19, bgn_19, mst_19, ovr_19, hgh_19, loo_19, st_19)
            else
              if (lg_cmp hgh_19 (-9223372036)) = 0 then
                if (lg_cmp loo_19 (-854775808)) < 0 then
                  some (false, top_19, bgn_19, mst_19, ovr_19, hgh_19, loo_19, st_19)
                else
                  some (true, top_19, bgn_19, mst_19, ovr_19, hgh_19, loo_19, st_19)
              else
                some (false, top_19, bgn_19, mst_19, ovr_19, hgh_19, loo_19, st_19)
          else
            if (lg_cmp hgh_19 (-9223372036)) = 0 then
              if (lg_cmp loo_19 (-854775808)) < 0 then
                some (false, top_19, bgn_19, mst_19, ovr_19, hgh_19, loo_19, st_19)
              else
                some (true, top_19, bgn_19, mst_19, ovr_19, hgh_19, loo_19, st_19)
            else
              some (false, top_19, bgn_19, mst_19, ovr_19, hgh_19, loo_19, st_19))) ?_ (by rw [hV_11, h_12, ob4_mk]) _ _ hP hD hS ls (lv_sub hl [0] rfl)
  intro top_19 bgn_19 mst_19 ovr_19 hgh_19 loo_19 st_19 hV_19 H locs hP hD hS ls hl
  refine lv_aload_n hx hb d_MO_sum_242 rfl (lv_at hl 0 rfl) ?_
  refine va_get (D := D) (ci := 11) (v := .long hgh_19) (C := R_MO) (T := T_MO) (N := 29) hx hb hT u_MO hown hK hP 0 rfl rfl 26 (by decide) (hT _ k_1069) (fun _ h9 => h9) rfl d_MO_sum_243 ?_
  refine lv_ldc2 (v := 9223372036) hx hb hown (hT _ k_1432) d_MO_sum_246 ?_
  refine W.lcmp hx hb d_MO_sum_249 ?_
  refine lv_if_ge (tgt := 264) hx hb d_MO_sum_250 (by decide) (fun c_20 => ?_) (fun c_20 => ?_)
  · refine lv_aload_n hx hb d_MO_sum_264 rfl (lv_at hl 0 rfl) ?_
    refine va_get (D := D) (ci := 11) (v := .long hgh_19) (C := R_MO) (T := T_MO) (N := 29) hx hb hT u_MO hown hK hP 0 rfl rfl 26 (by decide) (hT _ k_1069) (fun _ h9 => h9) rfl d_MO_sum_265 ?_
    refine lv_ldc2 (v := 9223372036) hx hb hown (hT _ k_1432) d_MO_sum_268 ?_
    refine W.lcmp hx hb d_MO_sum_271 ?_
    refine lv_if_ne (tgt := 286) hx hb d_MO_sum_272 (by decide) (fun c_21 => ?_) (fun c_21 => ?_)
    · refine lv_aload_n hx hb d_MO_sum_286 rfl (lv_at hl 0 rfl) ?_
      refine va_get (D := D) (ci := 11) (v := .long hgh_19) (C := R_MO) (T := T_MO) (N := 29) hx hb hT u_MO hown hK hP 0 rfl rfl 26 (by decide) (hT _ k_1069) (fun _ h9 => h9) rfl d_MO_sum_287 ?_
      refine lv_ldc2 (v := (-9223372036)) hx hb hown (hT _ k_1433) d_MO_sum_290 ?_
      refine W.lcmp hx hb d_MO_sum_293 ?_
      refine lv_if_ne (tgt := 312) hx hb d_MO_sum_294 (by decide) (fun c_22 => ?_) (fun c_22 => ?_)
      · refine lv_iconst (v := 0) hx hb d_MO_sum_312 (by decide) ?_
        exact W.zret (v := 0) (ty := .boolean) hx hb hr (rfl) (fun t ht hW => ⟨⟨0, (top_19, bgn_19, mst_19, ovr_19, hgh_19, loo_19, st_19), rfl, ⟨false, rfl, (op_eq hs (by rw [hV_19, if_pos c_20, if_neg c_21, if_neg c_22]))⟩, by rw [ht]; exact hP, hD⟩, hS.F ht⟩) hS.2.2 d_MO_sum_313
      · refine lv_aload_n hx hb d_MO_sum_297 rfl (lv_at hl 0 rfl) ?_
        refine va_get (D := D) (ci := 11) (v := .long loo_19) (C := R_MO) (T := T_MO) (N := 29) hx hb hT u_MO hown hK hP 0 rfl rfl 27 (by decide) (hT _ k_1070) (fun _ h9 => h9) rfl d_MO_sum_298 ?_
        refine lv_ldc2 (v := (-854775808)) hx hb hown (hT _ k_1435) d_MO_sum_301 ?_
        refine W.lcmp hx hb d_MO_sum_304 ?_
        refine lv_if_lt (tgt := 312) hx hb d_MO_sum_305 (by decide) (fun c_23 => ?_) (fun c_23 => ?_)
        · refine lv_iconst (v := 0) hx hb d_MO_sum_312 (by decide) ?_
          exact W.zret (v := 0) (ty := .boolean) hx hb hr (rfl) (fun t ht hW => ⟨⟨0, (top_19, bgn_19, mst_19, ovr_19, hgh_19, loo_19, st_19), rfl, ⟨false, rfl, (op_eq hs (by rw [hV_19, if_pos c_20, if_neg c_21, if_pos c_22, if_pos c_23]))⟩, by rw [ht]; exact hP, hD⟩, hS.F ht⟩) hS.2.2 d_MO_sum_313
        · refine lv_iconst (v := 1) hx hb d_MO_sum_308 (by decide) ?_
          refine lv_goto (tgt := 313) hx hb d_MO_sum_309 (by decide) ?_
          exact W.zret (v := 1) (ty := .boolean) hx hb hr (rfl) (fun t ht hW => ⟨⟨1, (top_19, bgn_19, mst_19, ovr_19, hgh_19, loo_19, st_19), rfl, ⟨true, rfl, (op_eq hs (by rw [hV_19, if_pos c_20, if_neg c_21, if_pos c_22, if_neg c_23]))⟩, by rw [ht]; exact hP, hD⟩, hS.F ht⟩) hS.2.2 d_MO_sum_313
    · refine lv_aload_n hx hb d_MO_sum_275 rfl (lv_at hl 0 rfl) ?_
      refine va_get (D := D) (ci := 11) (v := .long loo_19) (C := R_MO) (T := T_MO) (N := 29) hx hb hT u_MO hown hK hP 0 rfl rfl 27 (by decide) (hT _ k_1070) (fun _ h9 => h9) rfl d_MO_sum_276 ?_
      refine lv_ldc2 (v := 854775807) hx hb hown (hT _ k_1434) d_MO_sum_279 ?_
      refine W.lcmp hx hb d_MO_sum_282 ?_
      refine lv_if_le (tgt := 308) hx hb d_MO_sum_283 (by decide) (fun c_24 => ?_) (fun c_24 => ?_)
      · refine lv_iconst (v := 1) hx hb d_MO_sum_308 (by decide) ?_
        refine lv_goto (tgt := 313) hx hb d_MO_sum_309 (by decide) ?_
        exact W.zret (v := 1) (ty := .boolean) hx hb hr (rfl) (fun t ht hW => ⟨⟨1, (top_19, bgn_19, mst_19, ovr_19, hgh_19, loo_19, st_19), rfl, ⟨true, rfl, (op_eq hs (by rw [hV_19, if_pos c_20, if_pos c_21, if_pos c_24]))⟩, by rw [ht]; exact hP, hD⟩, hS.F ht⟩) hS.2.2 d_MO_sum_313
      · refine lv_aload_n hx hb d_MO_sum_286 rfl (lv_at hl 0 rfl) ?_
        refine va_get (D := D) (ci := 11) (v := .long hgh_19) (C := R_MO) (T := T_MO) (N := 29) hx hb hT u_MO hown hK hP 0 rfl rfl 26 (by decide) (hT _ k_1069) (fun _ h9 => h9) rfl d_MO_sum_287 ?_
        refine lv_ldc2 (v := (-9223372036)) hx hb hown (hT _ k_1433) d_MO_sum_290 ?_
        refine W.lcmp hx hb d_MO_sum_293 ?_
        refine lv_if_ne (tgt := 312) hx hb d_MO_sum_294 (by decide) (fun c_25 => ?_) (fun c_25 => ?_)
        · refine lv_iconst (v := 0) hx hb d_MO_sum_312 (by decide) ?_
          exact W.zret (v := 0) (ty := .boolean) hx hb hr (rfl) (fun t ht hW => ⟨⟨0, (top_19, bgn_19, mst_19, ovr_19, hgh_19, loo_19, st_19), rfl, ⟨false, rfl, (op_eq hs (by rw [hV_19, if_pos c_20, if_pos c_21, if_neg c_24, if_neg c_25]))⟩, by rw [ht]; exact hP, hD⟩, hS.F ht⟩) hS.2.2 d_MO_sum_313
        · refine lv_aload_n hx hb d_MO_sum_297 rfl (lv_at hl 0 rfl) ?_
          refine va_get (D := D) (ci := 11) (v := .long loo_19) (C := R_MO) (T := T_MO) (N := 29) hx hb hT u_MO hown hK hP 0 rfl rfl 27 (by decide) (hT _ k_1070) (fun _ h9 => h9) rfl d_MO_sum_298 ?_
          refine lv_ldc2 (v := (-854775808)) hx hb hown (hT _ k_1435) d_MO_sum_301 ?_
          refine W.lcmp hx hb d_MO_sum_304 ?_
          refine lv_if_lt (tgt := 312) hx hb d_MO_sum_305 (by decide) (fun c_26 => ?_) (fun c_26 => ?_)
          · refine lv_iconst (v := 0) hx hb d_MO_sum_312 (by decide) ?_
            exact W.zret (v := 0) (ty := .boolean) hx hb hr (rfl) (fun t ht hW => ⟨⟨0, (top_19, bgn_19, mst_19, ovr_19, hgh_19, loo_19, st_19), rfl, ⟨false, rfl, (op_eq hs (by rw [hV_19, if_pos c_20, if_pos c_21, if_neg c_24, if_pos c_25, if_pos c_26]))⟩, by rw [ht]; exact hP, hD⟩, hS.F ht⟩) hS.2.2 d_MO_sum_313
          · refine lv_iconst (v := 1) hx hb d_MO_sum_308 (by decide) ?_
            refine lv_goto (tgt := 313) hx hb d_MO_sum_309 (by decide) ?_
            exact W.zret (v := 1) (ty := .boolean) hx hb hr (rfl) (fun t ht hW => ⟨⟨1, (top_19, bgn_19, mst_19, ovr_19, hgh_19, loo_19, st_19), rfl, ⟨true, rfl, (op_eq hs (by rw [hV_19, if_pos c_20, if_pos c_21, if_neg c_24, if_pos c_25, if_neg c_26]))⟩, by rw [ht]; exact hP, hD⟩, hS.F ht⟩) hS.2.2 d_MO_sum_313
  · refine lv_aload_n hx hb d_MO_sum_253 rfl (lv_at hl 0 rfl) ?_
    refine va_get (D := D) (ci := 11) (v := .long hgh_19) (C := R_MO) (T := T_MO) (N := 29) hx hb hT u_MO hown hK hP 0 rfl rfl 26 (by decide) (hT _ k_1069) (fun _ h9 => h9) rfl d_MO_sum_254 ?_
    refine lv_ldc2 (v := (-9223372036)) hx hb hown (hT _ k_1433) d_MO_sum_257 ?_
    refine W.lcmp hx hb d_MO_sum_260 ?_
    refine lv_if_gt (tgt := 308) hx hb d_MO_sum_261 (by decide) (fun c_27 => ?_) (fun c_27 => ?_)
    · refine lv_iconst (v := 1) hx hb d_MO_sum_308 (by decide) ?_
      refine lv_goto (tgt := 313) hx hb d_MO_sum_309 (by decide) ?_
      exact W.zret (v := 1) (ty := .boolean) hx hb hr (rfl) (fun t ht hW => ⟨⟨1, (top_19, bgn_19, mst_19, ovr_19, hgh_19, loo_19, st_19), rfl, ⟨true, rfl, (op_eq hs (by rw [hV_19, if_neg c_20, if_pos c_27]))⟩, by rw [ht]; exact hP, hD⟩, hS.F ht⟩) hS.2.2 d_MO_sum_313
    · refine lv_aload_n hx hb d_MO_sum_264 rfl (lv_at hl 0 rfl) ?_
      refine va_get (D := D) (ci := 11) (v := .long hgh_19) (C := R_MO) (T := T_MO) (N := 29) hx hb hT u_MO hown hK hP 0 rfl rfl 26 (by decide) (hT _ k_1069) (fun _ h9 => h9) rfl d_MO_sum_265 ?_
      refine lv_ldc2 (v := 9223372036) hx hb hown (hT _ k_1432) d_MO_sum_268 ?_
      refine W.lcmp hx hb d_MO_sum_271 ?_
      refine lv_if_ne (tgt := 286) hx hb d_MO_sum_272 (by decide) (fun c_28 => ?_) (fun c_28 => ?_)
      · refine lv_aload_n hx hb d_MO_sum_286 rfl (lv_at hl 0 rfl) ?_
        refine va_get (D := D) (ci := 11) (v := .long hgh_19) (C := R_MO) (T := T_MO) (N := 29) hx hb hT u_MO hown hK hP 0 rfl rfl 26 (by decide) (hT _ k_1069) (fun _ h9 => h9) rfl d_MO_sum_287 ?_
        refine lv_ldc2 (v := (-9223372036)) hx hb hown (hT _ k_1433) d_MO_sum_290 ?_
        refine W.lcmp hx hb d_MO_sum_293 ?_
        refine lv_if_ne (tgt := 312) hx hb d_MO_sum_294 (by decide) (fun c_29 => ?_) (fun c_29 => ?_)
        · refine lv_iconst (v := 0) hx hb d_MO_sum_312 (by decide) ?_
          exact W.zret (v := 0) (ty := .boolean) hx hb hr (rfl) (fun t ht hW => ⟨⟨0, (top_19, bgn_19, mst_19, ovr_19, hgh_19, loo_19, st_19), rfl, ⟨false, rfl, (op_eq hs (by rw [hV_19, if_neg c_20, if_neg c_27, if_neg c_28, if_neg c_29]))⟩, by rw [ht]; exact hP, hD⟩, hS.F ht⟩) hS.2.2 d_MO_sum_313
        · refine lv_aload_n hx hb d_MO_sum_297 rfl (lv_at hl 0 rfl) ?_
          refine va_get (D := D) (ci := 11) (v := .long loo_19) (C := R_MO) (T := T_MO) (N := 29) hx hb hT u_MO hown hK hP 0 rfl rfl 27 (by decide) (hT _ k_1070) (fun _ h9 => h9) rfl d_MO_sum_298 ?_
          refine lv_ldc2 (v := (-854775808)) hx hb hown (hT _ k_1435) d_MO_sum_301 ?_
          refine W.lcmp hx hb d_MO_sum_304 ?_
          refine lv_if_lt (tgt := 312) hx hb d_MO_sum_305 (by decide) (fun c_30 => ?_) (fun c_30 => ?_)
          · refine lv_iconst (v := 0) hx hb d_MO_sum_312 (by decide) ?_
            exact W.zret (v := 0) (ty := .boolean) hx hb hr (rfl) (fun t ht hW => ⟨⟨0, (top_19, bgn_19, mst_19, ovr_19, hgh_19, loo_19, st_19), rfl, ⟨false, rfl, (op_eq hs (by rw [hV_19, if_neg c_20, if_neg c_27, if_neg c_28, if_pos c_29, if_pos c_30]))⟩, by rw [ht]; exact hP, hD⟩, hS.F ht⟩) hS.2.2 d_MO_sum_313
          · refine lv_iconst (v := 1) hx hb d_MO_sum_308 (by decide) ?_
            refine lv_goto (tgt := 313) hx hb d_MO_sum_309 (by decide) ?_
            exact W.zret (v := 1) (ty := .boolean) hx hb hr (rfl) (fun t ht hW => ⟨⟨1, (top_19, bgn_19, mst_19, ovr_19, hgh_19, loo_19, st_19), rfl, ⟨true, rfl, (op_eq hs (by rw [hV_19, if_neg c_20, if_neg c_27, if_neg c_28, if_pos c_29, if_neg c_30]))⟩, by rw [ht]; exact hP, hD⟩, hS.F ht⟩) hS.2.2 d_MO_sum_313
      · refine lv_aload_n hx hb d_MO_sum_275 rfl (lv_at hl 0 rfl) ?_
        refine va_get (D := D) (ci := 11) (v := .long loo_19) (C := R_MO) (T := T_MO) (N := 29) hx hb hT u_MO hown hK hP 0 rfl rfl 27 (by decide) (hT _ k_1070) (fun _ h9 => h9) rfl d_MO_sum_276 ?_
        refine lv_ldc2 (v := 854775807) hx hb hown (hT _ k_1434) d_MO_sum_279 ?_
        refine W.lcmp hx hb d_MO_sum_282 ?_
        refine lv_if_le (tgt := 308) hx hb d_MO_sum_283 (by decide) (fun c_31 => ?_) (fun c_31 => ?_)
        · refine lv_iconst (v := 1) hx hb d_MO_sum_308 (by decide) ?_
          refine lv_goto (tgt := 313) hx hb d_MO_sum_309 (by decide) ?_
          exact W.zret (v := 1) (ty := .boolean) hx hb hr (rfl) (fun t ht hW => ⟨⟨1, (top_19, bgn_19, mst_19, ovr_19, hgh_19, loo_19, st_19), rfl, ⟨true, rfl, (op_eq hs (by rw [hV_19, if_neg c_20, if_neg c_27, if_pos c_28, if_pos c_31]))⟩, by rw [ht]; exact hP, hD⟩, hS.F ht⟩) hS.2.2 d_MO_sum_313
        · refine lv_aload_n hx hb d_MO_sum_286 rfl (lv_at hl 0 rfl) ?_
          refine va_get (D := D) (ci := 11) (v := .long hgh_19) (C := R_MO) (T := T_MO) (N := 29) hx hb hT u_MO hown hK hP 0 rfl rfl 26 (by decide) (hT _ k_1069) (fun _ h9 => h9) rfl d_MO_sum_287 ?_
          refine lv_ldc2 (v := (-9223372036)) hx hb hown (hT _ k_1433) d_MO_sum_290 ?_
          refine W.lcmp hx hb d_MO_sum_293 ?_
          refine lv_if_ne (tgt := 312) hx hb d_MO_sum_294 (by decide) (fun c_32 => ?_) (fun c_32 => ?_)
          · refine lv_iconst (v := 0) hx hb d_MO_sum_312 (by decide) ?_
            exact W.zret (v := 0) (ty := .boolean) hx hb hr (rfl) (fun t ht hW => ⟨⟨0, (top_19, bgn_19, mst_19, ovr_19, hgh_19, loo_19, st_19), rfl, ⟨false, rfl, (op_eq hs (by rw [hV_19, if_neg c_20, if_neg c_27, if_pos c_28, if_neg c_31, if_neg c_32]))⟩, by rw [ht]; exact hP, hD⟩, hS.F ht⟩) hS.2.2 d_MO_sum_313
          · refine lv_aload_n hx hb d_MO_sum_297 rfl (lv_at hl 0 rfl) ?_
            refine va_get (D := D) (ci := 11) (v := .long loo_19) (C := R_MO) (T := T_MO) (N := 29) hx hb hT u_MO hown hK hP 0 rfl rfl 27 (by decide) (hT _ k_1070) (fun _ h9 => h9) rfl d_MO_sum_298 ?_
            refine lv_ldc2 (v := (-854775808)) hx hb hown (hT _ k_1435) d_MO_sum_301 ?_
            refine W.lcmp hx hb d_MO_sum_304 ?_
            refine lv_if_lt (tgt := 312) hx hb d_MO_sum_305 (by decide) (fun c_33 => ?_) (fun c_33 => ?_)
            · refine lv_iconst (v := 0) hx hb d_MO_sum_312 (by decide) ?_
              exact W.zret (v := 0) (ty := .boolean) hx hb hr (rfl) (fun t ht hW => ⟨⟨0, (top_19, bgn_19, mst_19, ovr_19, hgh_19, loo_19, st_19), rfl, ⟨false, rfl, (op_eq hs (by rw [hV_19, if_neg c_20, if_neg c_27, if_pos c_28, if_neg c_31, if_pos c_32, if_pos c_33]))⟩, by rw [ht]; exact hP, hD⟩, hS.F ht⟩) hS.2.2 d_MO_sum_313
            · refine lv_iconst (v := 1) hx hb d_MO_sum_308 (by decide) ?_
              refine lv_goto (tgt := 313) hx hb d_MO_sum_309 (by decide) ?_
              exact W.zret (v := 1) (ty := .boolean) hx hb hr (rfl) (fun t ht hW => ⟨⟨1, (top_19, bgn_19, mst_19, ovr_19, hgh_19, loo_19, st_19), rfl, ⟨true, rfl, (op_eq hs (by rw [hV_19, if_neg c_20, if_neg c_27, if_pos c_28, if_neg c_31, if_pos c_32, if_neg c_33]))⟩, by rw [ht]; exact hP, hD⟩, hS.F ht⟩) hS.2.2 d_MO_sum_313
