/-! printed by wip/gen -/
theorem k_16 : (Jvm.Cond.initialized "java/lang/String") ∈ lw_g := lw_gm (List.mem_append_right _ (List.mem_of_getElem? (i := 16) (by decide +kernel))) rfl
theorem k_17 : (Jvm.Cond.initialized "java/lang/StringLatin1") ∈ lw_g := lw_gm (List.mem_append_right _ (List.mem_of_getElem? (i := 17) (by decide +kernel))) rfl
theorem k_18 : (Jvm.Cond.initialized "jdk/internal/util/Preconditions") ∈ lw_g := lw_gm (List.mem_append_right _ (List.mem_of_getElem? (i := 18) (by decide +kernel))) rfl
theorem k_496 : (Jvm.Cond.methodLink "java/lang/String" (335 : Nat) ({ cls := "java/lang/String", name := "coder", desc := "()B" } : Jvm.MethodName)) ∈ lw_g := lw_gm (List.mem_append_right _ (List.mem_of_getElem? (i := 496) (by decide +kernel))) rfl
theorem k_497 : (Jvm.Cond.instanceMethod ({ cls := "java/lang/String", name := "coder", desc := "()B" } : Jvm.MethodName)) ∈ lw_g := lw_gm (List.mem_append_right _ (List.mem_of_getElem? (i := 497) (by decide +kernel))) rfl
theorem k_498 : (Jvm.Cond.selects "java/lang/String" ({ cls := "java/lang/String", name := "coder", desc := "()B" } : Jvm.MethodName) ({ cls := "java/lang/String", name := "coder", desc := "()B" } : Jvm.MethodName)) ∈ lw_g := lw_gm (List.mem_append_right _ (List.mem_of_getElem? (i := 498) (by decide +kernel))) rfl
theorem k_500 : (Jvm.Cond.fieldLink "java/lang/String" (38 : Nat) "java/lang/String" "COMPACT_STRINGS" "Z") ∈ lw_g := lw_gm (List.mem_append_right _ (List.mem_of_getElem? (i := 500) (by decide +kernel))) rfl
theorem k_506 : (Jvm.Cond.methodLink "java/lang/String" (492 : Nat) ({ cls := "java/lang/String", name := "isLatin1", desc := "()Z" } : Jvm.MethodName)) ∈ lw_g := lw_gm (List.mem_append_right _ (List.mem_of_getElem? (i := 506) (by decide +kernel))) rfl
theorem k_507 : (Jvm.Cond.instanceMethod ({ cls := "java/lang/String", name := "isLatin1", desc := "()Z" } : Jvm.MethodName)) ∈ lw_g := lw_gm (List.mem_append_right _ (List.mem_of_getElem? (i := 507) (by decide +kernel))) rfl
theorem k_508 : (Jvm.Cond.selects "java/lang/String" ({ cls := "java/lang/String", name := "isLatin1", desc := "()Z" } : Jvm.MethodName) ({ cls := "java/lang/String", name := "isLatin1", desc := "()Z" } : Jvm.MethodName)) ∈ lw_g := lw_gm (List.mem_append_right _ (List.mem_of_getElem? (i := 508) (by decide +kernel))) rfl
theorem k_510 : (Jvm.Cond.methodLink "java/lang/String" (495 : Nat) ({ cls := "java/lang/StringLatin1", name := "charAt", desc := "([BI)C" } : Jvm.MethodName)) ∈ lw_g := lw_gm (List.mem_append_right _ (List.mem_of_getElem? (i := 510) (by decide +kernel))) rfl
theorem k_511 : (Jvm.Cond.static ({ cls := "java/lang/StringLatin1", name := "charAt", desc := "([BI)C" } : Jvm.MethodName)) ∈ lw_g := lw_gm (List.mem_append_right _ (List.mem_of_getElem? (i := 511) (by decide +kernel))) rfl
theorem k_513 : (Jvm.Cond.methodLink "java/lang/StringLatin1" (9 : Nat) ({ cls := "java/lang/String", name := "checkIndex", desc := "(II)V" } : Jvm.MethodName)) ∈ lw_g := lw_gm (List.mem_append_right _ (List.mem_of_getElem? (i := 513) (by decide +kernel))) rfl
theorem k_514 : (Jvm.Cond.static ({ cls := "java/lang/String", name := "checkIndex", desc := "(II)V" } : Jvm.MethodName)) ∈ lw_g := lw_gm (List.mem_append_right _ (List.mem_of_getElem? (i := 514) (by decide +kernel))) rfl
theorem k_516 : (Jvm.Cond.fieldLink "java/lang/String" (1053 : Nat) "jdk/internal/util/Preconditions" "SIOOBE_FORMATTER" "Ljava/util/function/BiFunction;") ∈ lw_g := lw_gm (List.mem_append_right _ (List.mem_of_getElem? (i := 516) (by decide +kernel))) rfl
theorem k_518 : (Jvm.Cond.methodLink "java/lang/String" (1059 : Nat) ({ cls := "jdk/internal/util/Preconditions", name := "checkIndex", desc := "(IILjava/util/function/BiFunction;)I" } : Jvm.MethodName)) ∈ lw_g := lw_gm (List.mem_append_right _ (List.mem_of_getElem? (i := 518) (by decide +kernel))) rfl
theorem k_519 : (Jvm.Cond.static ({ cls := "jdk/internal/util/Preconditions", name := "checkIndex", desc := "(IILjava/util/function/BiFunction;)I" } : Jvm.MethodName)) ∈ lw_g := lw_gm (List.mem_append_right _ (List.mem_of_getElem? (i := 519) (by decide +kernel))) rfl
theorem k_1504 : (Jvm.Cond.fieldLink "java/lang/String" (9 : Nat) "java/lang/String" "value" "[B") ∈ lw_g := lw_gm (List.mem_append_right _ (List.mem_of_getElem? (i := 1504) (by decide +kernel))) rfl
theorem k_1505 : (Jvm.Cond.fieldLink "java/lang/String" (15 : Nat) "java/lang/String" "coder" "B") ∈ lw_g := lw_gm (List.mem_append_right _ (List.mem_of_getElem? (i := 1505) (by decide +kernel))) rfl
/-! texts: the constants, and what String does with them (bytes of the JDK methods as the Statement has them) -/
def sTab : List (String × Nat × String) := [("PipelineBelt", 156, "$project"), ("PipelineBelt", 162, "$unwind"), ("PipelineBelt", 164, "$group"), ("PipelineBelt", 166, "$sort"), ("PipelineBelt", 168, "$skip"), ("PipelineBelt", 170, "$limit"), ("PipelineBelt", 172, "$lookup"), ("PipelineBelt$Grouper", 92, "by"), ("PipelineBelt$Grouper", 113, "$count"), ("PipelineBelt$Grouper", 115, "$sum"), ("PipelineBelt$Grouper", 117, "$min"), ("PipelineBelt$Grouper", 119, "$max"), ("PipelineBelt$Grouper", 121, "$first"), ("PipelineBelt$Grouper", 123, "$last"), ("PipelineBelt$Grouper", 125, "$push"), ("PipelineBelt$Grouper", 127, "$addToSet"), ("PipelineBelt$Finder", 60, "here"), ("PipelineBelt$Finder", 66, "there"), ("PipelineBelt$Finder", 68, "as")]
theorem sLen_lt : ∀ i, i < 19 → sLen.getD i 0 < 100 := by decide +kernel
/-- the texts, their addresses at places 101 and 102 of D, all below the place 100; the two statics that String asks -/
def sk_ (D : va_G) (U : State) (H : Heap) : Prop := vk_S 19 sLen sByt (D.2 101) (D.2 102) (fun q => D.2 100 0 ≤ q) U H ∧ (∀ (i : Nat) (q : String × Nat × String), sTab[i]? = some q → vk_R q.1 q.2.1 q.2.2 (D.2 101 i) U) ∧ va_Z "java/lang/String" "COMPACT_STRINGS" "Z" (.int 1) (fun q => D.2 100 0 ≤ q) U H ∧ va_Zq "jdk/internal/util/Preconditions" "SIOOBE_FORMATTER" "Ljava/util/function/BiFunction;" (fun q => D.2 100 0 ≤ q) U H
theorem sk_.warm {D : va_G} {s U : State} {H : Heap} (hW : s.WarmedH U.vm) (h : sk_ D s H) : sk_ D U H := ⟨vk_S.moved hW.alike h.1, fun i q e => (h.2.1 i q e).warm hW, va_Z.moved hW.alike h.2.2.1, va_Zq.moved hW.alike h.2.2.2⟩
theorem sk_.calling {D : va_G} {U : State} {H : Heap} {g : JFrame} {mk : MethodId} {a : Array Value} (h : sk_ D U H) : sk_ D (U.calling g mk a) H := ⟨vk_S.moved (u := U) (U := U.calling g mk a) (Vm.Alike.refl U.vm) h.1, fun i q e => (h.2.1 i q e).same rfl, va_Z.moved (u := U) (U := U.calling g mk a) (Vm.Alike.refl U.vm) h.2.2.1, va_Zq.moved (u := U) (U := U.calling g mk a) (Vm.Alike.refl U.vm) h.2.2.2⟩
theorem sk_.at {D : va_G} {s : State} {H : Heap} {A : Nat → Prop} {locs : List Loc} (h : sk_ D s s.heap) (hS : va_S A s.heap H locs) (hA : ∀ q, A q → D.2 100 0 ≤ q) : sk_ D s H := by
  have hq : ∀ a : Nat, a < s.heap.size → ¬ (fun q => D.2 100 0 ≤ q) a → H[a]? = s.heap[a]? := fun a h1 h2 => hS.2.1 a h1 (fun z => h2 (hA a z))
  exact ⟨h.1.kept hq, h.2.1, h.2.2.1.kept hq, h.2.2.2.kept hq⟩
section RS
variable {p : Program} {l : Launch} {e : Env} {R : Room} {s : State} {m : MethodId} {args : Array Value} {below : List Frame} {meth : Method} {c : Code} {H : Heap} {locs : List Loc} {cells slots : Nat} {Q : State → Prop}
variable {y : MethodName} {bytes cc : ByteArray} {maxL nL n index : Nat} {ret : Option FieldType} {ws : List Cond} {rm : Room} {Ts : List Cond} {own C : String} {b : Addr} {As rest st0 : List Value} {pc : Nat} {ls : Array Slot} {D : va_G}
theorem rs_V {val : Int32} (S : CallFix p m c cc nL s args Ts own) (hM : Met l y ws rm (va_Pc (.ref b :: As) (fun U => sk_ D U U.heap)) (vp_Si (fun r => r = val)) 0 0 (fun _ => False)) (cw : CallW R s args own C index y bytes maxL ret ws rm 0 0 n)
    (hz : sk_ D s H) (hrc : ∃ cell : Cell, H[b]? = some cell ∧ cell.vm.isStatics = false ∧ s.vm.findClass C = some cell.cls) (hn : As.length = n) (hsz : ls.size = nL) (hst : st0 = As.reverse ++ .ref b :: rest) (hcat : (rest.map fun v => v.category).sum ≤ 8) (hdg : decode cc pc = .ok (.invokevirtual index, 3)) (hf : cells ≤ R.cells ∧ slots ≤ R.slots)
    (kk : W p l e R s m args below meth c H locs cells slots Q (F0 m (pc + 3) ls (.int val :: rest))) : W p l e R s m args below meth c H locs cells slots Q (F0 m pc ls st0) := by
  refine vp_callSi (va_runV S hM cw ⟨fun a U g mk q => ⟨q.1, q.2.calling⟩, hrc, fun U hU hW => ⟨rfl, by show sk_ D U U.heap; rw [hU]; exact hz.warm hW⟩⟩ rfl hn hsz hst (lv_room hcat) hdg hf).run (fun r hr => ?_)
  subst hr
  exact kk
theorem rs_S {val : Int32} (S : CallFix p m c cc nL s args Ts own) (hM : Met l y ws rm (va_Pc As (fun U => sk_ D U U.heap)) (vp_Si (fun r => r = val)) 0 0 (fun _ => False)) (cw : CallB R s args own index y bytes maxL ret ws rm 0 0 n ∧ (Cond.static y).before args s = true)
    (hz : sk_ D s H) (hn : As.length = n) (hsz : ls.size = nL) (hst : st0 = As.reverse ++ rest) (hcat : (rest.map fun v => v.category).sum ≤ 8) (hdg : decode cc pc = .ok (.invokestatic index, 3)) (hf : cells ≤ R.cells ∧ slots ≤ R.slots)
    (kk : W p l e R s m args below meth c H locs cells slots Q (F0 m (pc + 3) ls (.int val :: rest))) : W p l e R s m args below meth c H locs cells slots Q (F0 m pc ls st0) := by
  refine vp_callSi (va_runS S hM cw ⟨fun a U g mk q => ⟨q.1, q.2.calling⟩, fun U hU hW => ⟨rfl, by show sk_ D U U.heap; rw [hU]; exact hz.warm hW⟩⟩ rfl hn hsz hst (lv_room hcat) hdg hf).run (fun r hr => ?_)
  subst hr
  exact kk
theorem rs_Sv (S : CallFix p m c cc nL s args Ts own) (hM : Met l y ws rm (va_Pc As (fun U => sk_ D U U.heap)) (va_Sv (fun _ => True)) 0 0 (fun _ => False)) (cw : CallB R s args own index y bytes maxL ret ws rm 0 0 n ∧ (Cond.static y).before args s = true)
    (hz : sk_ D s H) (hn : As.length = n) (hsz : ls.size = nL) (hst : st0 = As.reverse ++ rest) (hcat : (rest.map fun v => v.category).sum ≤ 8) (hdg : decode cc pc = .ok (.invokestatic index, 3)) (hf : cells ≤ R.cells ∧ slots ≤ R.slots)
    (kk : W p l e R s m args below meth c H locs cells slots Q (F0 m (pc + 3) ls rest)) : W p l e R s m args below meth c H locs cells slots Q (F0 m pc ls st0) :=
  va_csv (va_runS S hM cw ⟨fun a U g mk q => ⟨q.1, q.2.calling⟩, fun U hU hW => ⟨rfl, by show sk_ D U U.heap; rw [hU]; exact hz.warm hW⟩⟩ rfl hn hsz hst (lv_room hcat) hdg hf).run (fun _ => kk)
end RS
def R_JS : String := "java/lang/String"
def R_JT : String := "java/lang/StringLatin1"
def R_JP : String := "jdk/internal/util/Preconditions"
abbrev b_JS_length : ByteArray := prog_17_method_54_code
def y_JS_length : MethodName := ⟨R_JS, "length", "()I"⟩
theorem kc_JS_length : Cond.code y_JS_length b_JS_length 1 (some .int) ∈ lw_g := lw_gm (List.mem_append_right _ (List.mem_of_getElem? (i := 495) (by decide +kernel))) rfl
abbrev mw_JS_length : List Cond := Cond.code y_JS_length b_JS_length 1 (some .int) :: lw_g
theorem hd_JS_length : y_JS_length.cls = R_JS ∧ y_JS_length.cls ≠ "java/lang/invoke/MethodHandle" ∧ y_JS_length.cls ≠ "java/lang/invoke/VarHandle" ∧ (parseMethodDescriptor y_JS_length.desc).map (fun d => d.parameters.length) = some 0 := by decide +kernel
abbrev b_JS_coder : ByteArray := prog_17_method_152_code
def y_JS_coder : MethodName := ⟨R_JS, "coder", "()B"⟩
theorem kc_JS_coder : Cond.code y_JS_coder b_JS_coder 1 (some .byte) ∈ lw_g := lw_gm (List.mem_append_right _ (List.mem_of_getElem? (i := 499) (by decide +kernel))) rfl
abbrev mw_JS_coder : List Cond := Cond.code y_JS_coder b_JS_coder 1 (some .byte) :: lw_g
theorem hd_JS_coder : y_JS_coder.cls = R_JS ∧ y_JS_coder.cls ≠ "java/lang/invoke/MethodHandle" ∧ y_JS_coder.cls ≠ "java/lang/invoke/VarHandle" ∧ (parseMethodDescriptor y_JS_coder.desc).map (fun d => d.parameters.length) = some 0 := by decide +kernel
abbrev b_JS_charAt : ByteArray := prog_17_method_56_code
def y_JS_charAt : MethodName := ⟨R_JS, "charAt", "(I)C"⟩
theorem kc_JS_charAt : Cond.code y_JS_charAt b_JS_charAt 2 (some .char) ∈ lw_g := lw_gm (List.mem_append_right _ (List.mem_of_getElem? (i := 505) (by decide +kernel))) rfl
abbrev mw_JS_charAt : List Cond := Cond.code y_JS_charAt b_JS_charAt 2 (some .char) :: lw_g
theorem hd_JS_charAt : y_JS_charAt.cls = R_JS ∧ y_JS_charAt.cls ≠ "java/lang/invoke/MethodHandle" ∧ y_JS_charAt.cls ≠ "java/lang/invoke/VarHandle" ∧ (parseMethodDescriptor y_JS_charAt.desc).map (fun d => d.parameters.length) = some 1 := by decide +kernel
abbrev b_JS_isLatin1 : ByteArray := prog_17_method_154_code
def y_JS_isLatin1 : MethodName := ⟨R_JS, "isLatin1", "()Z"⟩
theorem kc_JS_isLatin1 : Cond.code y_JS_isLatin1 b_JS_isLatin1 1 (some .boolean) ∈ lw_g := lw_gm (List.mem_append_right _ (List.mem_of_getElem? (i := 509) (by decide +kernel))) rfl
abbrev mw_JS_isLatin1 : List Cond := Cond.code y_JS_isLatin1 b_JS_isLatin1 1 (some .boolean) :: lw_g
theorem hd_JS_isLatin1 : y_JS_isLatin1.cls = R_JS ∧ y_JS_isLatin1.cls ≠ "java/lang/invoke/MethodHandle" ∧ y_JS_isLatin1.cls ≠ "java/lang/invoke/VarHandle" ∧ (parseMethodDescriptor y_JS_isLatin1.desc).map (fun d => d.parameters.length) = some 0 := by decide +kernel
abbrev b_JT_charAt : ByteArray := prog_18_method_2_code
def y_JT_charAt : MethodName := ⟨R_JT, "charAt", "([BI)C"⟩
theorem kc_JT_charAt : Cond.code y_JT_charAt b_JT_charAt 2 (some .char) ∈ lw_g := lw_gm (List.mem_append_right _ (List.mem_of_getElem? (i := 512) (by decide +kernel))) rfl
abbrev mw_JT_charAt : List Cond := Cond.code y_JT_charAt b_JT_charAt 2 (some .char) :: lw_g
theorem hd_JT_charAt : y_JT_charAt.cls ≠ "java/lang/invoke/MethodHandle" ∧ y_JT_charAt.cls ≠ "java/lang/invoke/VarHandle" ∧ (parseMethodDescriptor y_JT_charAt.desc).map (fun d => d.parameters.length) = some 2 := by decide +kernel
abbrev b_JS_checkIndex : ByteArray := prog_17_method_155_code
def y_JS_checkIndex : MethodName := ⟨R_JS, "checkIndex", "(II)V"⟩
theorem kc_JS_checkIndex : Cond.code y_JS_checkIndex b_JS_checkIndex 2 none ∈ lw_g := lw_gm (List.mem_append_right _ (List.mem_of_getElem? (i := 515) (by decide +kernel))) rfl
abbrev mw_JS_checkIndex : List Cond := Cond.code y_JS_checkIndex b_JS_checkIndex 2 none :: lw_g
theorem hd_JS_checkIndex : y_JS_checkIndex.cls ≠ "java/lang/invoke/MethodHandle" ∧ y_JS_checkIndex.cls ≠ "java/lang/invoke/VarHandle" ∧ (parseMethodDescriptor y_JS_checkIndex.desc).map (fun d => d.parameters.length) = some 2 := by decide +kernel
abbrev b_JP_checkIndex : ByteArray := prog_22_method_11_code
def y_JP_checkIndex : MethodName := ⟨R_JP, "checkIndex", "(IILjava/util/function/BiFunction;)I"⟩
theorem kc_JP_checkIndex : Cond.code y_JP_checkIndex b_JP_checkIndex 3 (some .int) ∈ lw_g := lw_gm (List.mem_append_right _ (List.mem_of_getElem? (i := 520) (by decide +kernel))) rfl
abbrev mw_JP_checkIndex : List Cond := Cond.code y_JP_checkIndex b_JP_checkIndex 3 (some .int) :: lw_g
theorem hd_JP_checkIndex : y_JP_checkIndex.cls ≠ "java/lang/invoke/MethodHandle" ∧ y_JP_checkIndex.cls ≠ "java/lang/invoke/VarHandle" ∧ (parseMethodDescriptor y_JP_checkIndex.desc).map (fun d => d.parameters.length) = some 3 := by decide +kernel
theorem d_JS_length_0 : decode b_JS_length 0 = .ok (.aload_n 0, 1) := by decide +kernel
theorem d_JS_length_1 : decode b_JS_length 1 = .ok (.getfield 9, 3) := by decide +kernel
theorem d_JS_length_4 : decode b_JS_length 4 = .ok (.arraylength, 1) := by decide +kernel
theorem d_JS_length_5 : decode b_JS_length 5 = .ok (.aload_n 0, 1) := by decide +kernel
theorem d_JS_length_6 : decode b_JS_length 6 = .ok (.invokevirtual 335, 3) := by decide +kernel
theorem d_JS_length_9 : decode b_JS_length 9 = .ok (.ishr, 1) := by decide +kernel
theorem d_JS_length_10 : decode b_JS_length 10 = .ok (.ireturn, 1) := by decide +kernel
theorem d_JS_coder_0 : decode b_JS_coder 0 = .ok (.getstatic 38, 3) := by decide +kernel
theorem d_JS_coder_3 : decode b_JS_coder 3 = .ok (.ifCond .eq 10, 3) := by decide +kernel
theorem d_JS_coder_6 : decode b_JS_coder 6 = .ok (.aload_n 0, 1) := by decide +kernel
theorem d_JS_coder_7 : decode b_JS_coder 7 = .ok (.getfield 15, 3) := by decide +kernel
theorem d_JS_coder_10 : decode b_JS_coder 10 = .ok (.goto 4, 3) := by decide +kernel
theorem d_JS_coder_14 : decode b_JS_coder 14 = .ok (.ireturn, 1) := by decide +kernel
theorem d_JS_isLatin1_0 : decode b_JS_isLatin1 0 = .ok (.getstatic 38, 3) := by decide +kernel
theorem d_JS_isLatin1_3 : decode b_JS_isLatin1 3 = .ok (.ifCond .eq 14, 3) := by decide +kernel
theorem d_JS_isLatin1_6 : decode b_JS_isLatin1 6 = .ok (.aload_n 0, 1) := by decide +kernel
theorem d_JS_isLatin1_7 : decode b_JS_isLatin1 7 = .ok (.getfield 15, 3) := by decide +kernel
theorem d_JS_isLatin1_10 : decode b_JS_isLatin1 10 = .ok (.ifCond .ne 7, 3) := by decide +kernel
theorem d_JS_isLatin1_13 : decode b_JS_isLatin1 13 = .ok (.iconst 1, 1) := by decide +kernel
theorem d_JS_isLatin1_14 : decode b_JS_isLatin1 14 = .ok (.goto 4, 3) := by decide +kernel
theorem d_JS_isLatin1_18 : decode b_JS_isLatin1 18 = .ok (.ireturn, 1) := by decide +kernel
theorem d_JS_charAt_0 : decode b_JS_charAt 0 = .ok (.aload_n 0, 1) := by decide +kernel
theorem d_JS_charAt_1 : decode b_JS_charAt 1 = .ok (.invokevirtual 492, 3) := by decide +kernel
theorem d_JS_charAt_4 : decode b_JS_charAt 4 = .ok (.ifCond .eq 12, 3) := by decide +kernel
theorem d_JS_charAt_7 : decode b_JS_charAt 7 = .ok (.aload_n 0, 1) := by decide +kernel
theorem d_JS_charAt_8 : decode b_JS_charAt 8 = .ok (.getfield 9, 3) := by decide +kernel
theorem d_JS_charAt_11 : decode b_JS_charAt 11 = .ok (.iload_n 1, 1) := by decide +kernel
theorem d_JS_charAt_12 : decode b_JS_charAt 12 = .ok (.invokestatic 495, 3) := by decide +kernel
theorem d_JS_charAt_15 : decode b_JS_charAt 15 = .ok (.ireturn, 1) := by decide +kernel
theorem d_JT_charAt_0 : decode b_JT_charAt 0 = .ok (.iload_n 1, 1) := by decide +kernel
theorem d_JT_charAt_1 : decode b_JT_charAt 1 = .ok (.aload_n 0, 1) := by decide +kernel
theorem d_JT_charAt_2 : decode b_JT_charAt 2 = .ok (.arraylength, 1) := by decide +kernel
theorem d_JT_charAt_3 : decode b_JT_charAt 3 = .ok (.invokestatic 9, 3) := by decide +kernel
theorem d_JT_charAt_6 : decode b_JT_charAt 6 = .ok (.aload_n 0, 1) := by decide +kernel
theorem d_JT_charAt_7 : decode b_JT_charAt 7 = .ok (.iload_n 1, 1) := by decide +kernel
theorem d_JT_charAt_8 : decode b_JT_charAt 8 = .ok (.baload, 1) := by decide +kernel
theorem d_JT_charAt_9 : decode b_JT_charAt 9 = .ok (.sipush 255, 3) := by decide +kernel
theorem d_JT_charAt_12 : decode b_JT_charAt 12 = .ok (.iand, 1) := by decide +kernel
theorem d_JT_charAt_13 : decode b_JT_charAt 13 = .ok (.i2c, 1) := by decide +kernel
theorem d_JT_charAt_14 : decode b_JT_charAt 14 = .ok (.ireturn, 1) := by decide +kernel
theorem d_JS_checkIndex_0 : decode b_JS_checkIndex 0 = .ok (.iload_n 0, 1) := by decide +kernel
theorem d_JS_checkIndex_1 : decode b_JS_checkIndex 1 = .ok (.iload_n 1, 1) := by decide +kernel
theorem d_JS_checkIndex_2 : decode b_JS_checkIndex 2 = .ok (.getstatic 1053, 3) := by decide +kernel
theorem d_JS_checkIndex_5 : decode b_JS_checkIndex 5 = .ok (.invokestatic 1059, 3) := by decide +kernel
theorem d_JS_checkIndex_8 : decode b_JS_checkIndex 8 = .ok (.pop, 1) := by decide +kernel
theorem d_JS_checkIndex_9 : decode b_JS_checkIndex 9 = .ok (.return_, 1) := by decide +kernel
theorem d_JP_checkIndex_0 : decode b_JP_checkIndex 0 = .ok (.iload_n 0, 1) := by decide +kernel
theorem d_JP_checkIndex_1 : decode b_JP_checkIndex 1 = .ok (.ifCond .lt 8, 3) := by decide +kernel
theorem d_JP_checkIndex_4 : decode b_JP_checkIndex 4 = .ok (.iload_n 0, 1) := by decide +kernel
theorem d_JP_checkIndex_5 : decode b_JP_checkIndex 5 = .ok (.iload_n 1, 1) := by decide +kernel
theorem d_JP_checkIndex_6 : decode b_JP_checkIndex 6 = .ok (.if_icmp .lt 10, 3) := by decide +kernel
theorem d_JP_checkIndex_16 : decode b_JP_checkIndex 16 = .ok (.iload_n 0, 1) := by decide +kernel
theorem d_JP_checkIndex_17 : decode b_JP_checkIndex 17 = .ok (.ireturn, 1) := by decide +kernel
/-- the char of a text -/
theorem vp_lt {k : Int32} {n : Nat} (h : vp_in k n) (hn : n < 100) : ¬ k < 0 ∧ k < nI n := by
  rw [vp_in_iff] at h
  refine ⟨fun q => ?_, ?_⟩
  · have := i_lt.mp q
    have z : (0 : Int32).toInt = 0 := rfl
    omega
  · rw [i_lt, nI_toInt (by omega)]
    exact h.2
set_option maxHeartbeats 4000000 in
set_option maxRecDepth 100000 in
theorem c_JS_coder (l : Launch) (D : va_G) (i : Nat) (hi : i < 19) : Met l y_JS_coder mw_JS_coder { frames := 0, cells := 0, slots := 0, locals := 0 } (va_Pc [.ref (D.2 101 i)] (fun U => sk_ D U U.heap)) (vp_Si (fun r => r = 0)) 0 0 (fun _ => False) := by
  refine Met.ofW (cc := b_JS_coder) (maxL := 1) (ret := (some .byte)) (by decide) rfl ?_
  intro p e s m args below meth c s₁ B0 hml hv
  obtain ⟨rfl, hz⟩ := hv
  have hx := B0.exec
  have hb := B0.bytes
  have hr := B0.returns
  have hT : ∀ w ∈ lw_g, w.before _ s = true := fun w h => atoms_spec (ws := mw_JS_coder) B0.pre w (List.mem_cons_of_mem _ h)
  have hown : s.vm.findClass R_JS = some m.cls := findClass_of_methodNamed B0.named
  have hlocks := B0.notSynchronized
  have hl := lv_entry ([.ref (D.2 101 i)]) (n := 1) (Nat.le_of_ble_eq_true rfl)
  rw [lg_entry_eq]
  generalize (lg_sl ([.ref (D.2 101 i)]) ++ List.replicate (1 - (lg_sl ([.ref (D.2 101 i)])).length) Slot.unset).toArray = ls at hl ⊢
  have hl : lv_has ls 1 [(0, .ref (D.2 101 i))] := hl
  refine va_gets hx hb hz.2.2.1 va_S.rf hown (hT _ k_500) (fun _ h => h) d_JS_coder_0 ?_
  refine lv_if_eq (tgt := 13) hx hb d_JS_coder_3 (by decide) (fun c_1 => absurd c_1 (by decide)) (fun c_1 => ?_)
  refine lv_aload_n hx hb d_JS_coder_6 rfl (lv_at hl 0 rfl) ?_
  refine vk_getf hx hb (hz.1.1 i hi).2.1 va_S.rf hown (hT _ k_1505) (fun _ h => h) d_JS_coder_7 ?_
  refine lv_goto (tgt := 14) hx hb d_JS_coder_10 (by decide) ?_
  exact W.zret (v := 0) (ty := .byte) hx hb hr rfl (fun t ht hW => ⟨0, rfl, rfl, ht⟩) (fun _ h => by cases h) d_JS_coder_14
set_option maxHeartbeats 4000000 in
set_option maxRecDepth 100000 in
theorem c_JS_isLatin1 (l : Launch) (D : va_G) (i : Nat) (hi : i < 19) : Met l y_JS_isLatin1 mw_JS_isLatin1 { frames := 0, cells := 0, slots := 0, locals := 0 } (va_Pc [.ref (D.2 101 i)] (fun U => sk_ D U U.heap)) (vp_Si (fun r => r = 1)) 0 0 (fun _ => False) := by
  refine Met.ofW (cc := b_JS_isLatin1) (maxL := 1) (ret := (some .boolean)) (by decide) rfl ?_
  intro p e s m args below meth c s₁ B0 hml hv
  obtain ⟨rfl, hz⟩ := hv
  have hx := B0.exec
  have hb := B0.bytes
  have hr := B0.returns
  have hT : ∀ w ∈ lw_g, w.before _ s = true := fun w h => atoms_spec (ws := mw_JS_isLatin1) B0.pre w (List.mem_cons_of_mem _ h)
  have hown : s.vm.findClass R_JS = some m.cls := findClass_of_methodNamed B0.named
  have hlocks := B0.notSynchronized
  have hl := lv_entry ([.ref (D.2 101 i)]) (n := 1) (Nat.le_of_ble_eq_true rfl)
  rw [lg_entry_eq]
  generalize (lg_sl ([.ref (D.2 101 i)]) ++ List.replicate (1 - (lg_sl ([.ref (D.2 101 i)])).length) Slot.unset).toArray = ls at hl ⊢
  have hl : lv_has ls 1 [(0, .ref (D.2 101 i))] := hl
  refine va_gets hx hb hz.2.2.1 va_S.rf hown (hT _ k_500) (fun _ h => h) d_JS_isLatin1_0 ?_
  refine lv_if_eq (tgt := 17) hx hb d_JS_isLatin1_3 (by decide) (fun c_1 => absurd c_1 (by decide)) (fun c_1 => ?_)
  refine lv_aload_n hx hb d_JS_isLatin1_6 rfl (lv_at hl 0 rfl) ?_
  refine vk_getf hx hb (hz.1.1 i hi).2.1 va_S.rf hown (hT _ k_1505) (fun _ h => h) d_JS_isLatin1_7 ?_
  refine lv_if_ne (tgt := 17) hx hb d_JS_isLatin1_10 (by decide) (fun c_2 => absurd rfl c_2) (fun c_2 => ?_)
  refine lv_iconst (v := 1) hx hb d_JS_isLatin1_13 (by decide) ?_
  refine lv_goto (tgt := 18) hx hb d_JS_isLatin1_14 (by decide) ?_
  exact W.zret (v := 1) (ty := .boolean) hx hb hr rfl (fun t ht hW => ⟨1, rfl, rfl, ht⟩) (fun _ h => by cases h) d_JS_isLatin1_18
set_option maxHeartbeats 4000000 in
set_option maxRecDepth 100000 in
theorem c_JS_length (l : Launch) (D : va_G) (i : Nat) (hi : i < 19) : Met l y_JS_length mw_JS_length { frames := 1, cells := 0, slots := 0, locals := 20 } (va_Pc [.ref (D.2 101 i)] (fun U => sk_ D U U.heap)) (vp_Si (fun r => r = nI (sLen.getD i 0))) 0 0 (fun _ => False) := by
  refine Met.ofW (cc := b_JS_length) (maxL := 1) (ret := (some .int)) (by decide) rfl ?_
  intro p e s m args below meth c s₁ B0 hml hv
  obtain ⟨rfl, hz⟩ := hv
  have hx := B0.exec
  have hb := B0.bytes
  have hr := B0.returns
  have hT : ∀ w ∈ lw_g, w.before _ s = true := fun w h => atoms_spec (ws := mw_JS_length) B0.pre w (List.mem_cons_of_mem _ h)
  have hown : s.vm.findClass R_JS = some m.cls := findClass_of_methodNamed B0.named
  have hlocks := B0.notSynchronized
  have hl := lv_entry ([.ref (D.2 101 i)]) (n := 1) (Nat.le_of_ble_eq_true rfl)
  rw [lg_entry_eq]
  generalize (lg_sl ([.ref (D.2 101 i)]) ++ List.replicate (1 - (lg_sl ([.ref (D.2 101 i)])).length) Slot.unset).toArray = ls at hl ⊢
  have hl : lv_has ls 1 [(0, .ref (D.2 101 i))] := hl
  refine lv_aload_n hx hb d_JS_length_0 rfl (lv_at hl 0 rfl) ?_
  refine vk_getf hx hb (hz.1.1 i hi).2.2.1 va_S.rf hown (hT _ k_1504) (fun _ h => h) d_JS_length_1 ?_
  refine va_tlen (v := nI (sLen.getD i 0)) hx hb (hz.1.1 i hi).2.2.2 va_S.rf rfl d_JS_length_4 ?_
  refine lv_aload_n hx hb d_JS_length_5 rfl (lv_at hl 0 rfl) ?_
  refine rs_V (val := 0) (As := []) (rest := [.int (nI (sLen.getD i 0))]) ⟨hx, hb, hml, hown, hT⟩ (c_JS_coder l D i hi) (cwV 0 hT (gV_of k_496 k_497 k_498 k_16 kc_JS_coder) rfl rfl rfl hd_JS_coder ⟨Nat.le_of_ble_eq_true rfl, Nat.le_of_ble_eq_true rfl⟩) hz (vk_recv hz.1 hi va_S.rf) rfl hl.1 rfl (Nat.le_of_ble_eq_true rfl) d_JS_length_6 ⟨Nat.zero_le _, Nat.zero_le _⟩ ?_
  refine lv_ishr hx hb d_JS_length_9 ?_
  exact W.iret (v := nI (sLen.getD i 0) >>> ((0 : Int32) &&& 31)) hx hb hr (fun t ht hW => ⟨_, rfl, sb_shr0 _, ht⟩) (fun _ h => by cases h) d_JS_length_10
set_option maxHeartbeats 4000000 in
set_option maxRecDepth 100000 in
theorem c_JP_checkIndex_n (l : Launch) (D : va_G) (p0 p1 : Int32) (hv0 : ¬ p0 < 0) (hv1 : p0 < p1) : Met l y_JP_checkIndex mw_JP_checkIndex { frames := 0, cells := 0, slots := 0, locals := 0 } (va_Pc [.int p0, .int p1, .null] (fun U => sk_ D U U.heap)) (vp_Si (fun r => r = p0)) 0 0 (fun _ => False) := by
  refine Met.ofW (cc := b_JP_checkIndex) (maxL := 3) (ret := (some .int)) (by decide) rfl ?_
  intro p e s m args below meth c s₁ B0 hml hv
  obtain ⟨rfl, hz⟩ := hv
  have hx := B0.exec
  have hb := B0.bytes
  have hr := B0.returns
  have hT : ∀ w ∈ lw_g, w.before _ s = true := fun w h => atoms_spec (ws := mw_JP_checkIndex) B0.pre w (List.mem_cons_of_mem _ h)
  have hown : s.vm.findClass R_JP = some m.cls := findClass_of_methodNamed B0.named
  have hlocks := B0.notSynchronized
  have hl := lv_entry ([.int p0, .int p1, .null]) (n := 3) (Nat.le_of_ble_eq_true rfl)
  rw [lg_entry_eq]
  generalize (lg_sl ([.int p0, .int p1, .null]) ++ List.replicate (3 - (lg_sl ([.int p0, .int p1, .null])).length) Slot.unset).toArray = ls at hl ⊢
  have hl : lv_has ls 3 [(0, .int p0), (1, .int p1), (2, .null)] := hl
  refine lv_iload_n hx hb d_JP_checkIndex_0 rfl (lv_at hl 0 rfl) ?_
  refine lv_if_lt (tgt := 9) hx hb d_JP_checkIndex_1 (by decide) (fun c_1 => absurd c_1 hv0) (fun c_1 => ?_)
  refine lv_iload_n hx hb d_JP_checkIndex_4 rfl (lv_at hl 0 rfl) ?_
  refine lv_iload_n hx hb d_JP_checkIndex_5 rfl (lv_at hl 1 rfl) ?_
  refine lv_icmp_lt (tgt := 16) hx hb d_JP_checkIndex_6 (by decide) (fun c_2 => ?_) (fun c_2 => absurd hv1 c_2)
  refine lv_iload_n hx hb d_JP_checkIndex_16 rfl (lv_at hl 0 rfl) ?_
  exact W.iret (v := p0) hx hb hr (fun t ht hW => ⟨p0, rfl, rfl, ht⟩) (fun _ h => by cases h) d_JP_checkIndex_17
set_option maxHeartbeats 4000000 in
set_option maxRecDepth 100000 in
theorem c_JP_checkIndex_r (l : Launch) (D : va_G) (p0 p1 : Int32) (t : Nat) (hv0 : ¬ p0 < 0) (hv1 : p0 < p1) : Met l y_JP_checkIndex mw_JP_checkIndex { frames := 0, cells := 0, slots := 0, locals := 0 } (va_Pc [.int p0, .int p1, .ref t] (fun U => sk_ D U U.heap)) (vp_Si (fun r => r = p0)) 0 0 (fun _ => False) := by
  refine Met.ofW (cc := b_JP_checkIndex) (maxL := 3) (ret := (some .int)) (by decide) rfl ?_
  intro p e s m args below meth c s₁ B0 hml hv
  obtain ⟨rfl, hz⟩ := hv
  have hx := B0.exec
  have hb := B0.bytes
  have hr := B0.returns
  have hT : ∀ w ∈ lw_g, w.before _ s = true := fun w h => atoms_spec (ws := mw_JP_checkIndex) B0.pre w (List.mem_cons_of_mem _ h)
  have hown : s.vm.findClass R_JP = some m.cls := findClass_of_methodNamed B0.named
  have hlocks := B0.notSynchronized
  have hl := lv_entry ([.int p0, .int p1, .ref t]) (n := 3) (Nat.le_of_ble_eq_true rfl)
  rw [lg_entry_eq]
  generalize (lg_sl ([.int p0, .int p1, .ref t]) ++ List.replicate (3 - (lg_sl ([.int p0, .int p1, .ref t])).length) Slot.unset).toArray = ls at hl ⊢
  have hl : lv_has ls 3 [(0, .int p0), (1, .int p1), (2, .ref t)] := hl
  refine lv_iload_n hx hb d_JP_checkIndex_0 rfl (lv_at hl 0 rfl) ?_
  refine lv_if_lt (tgt := 9) hx hb d_JP_checkIndex_1 (by decide) (fun c_1 => absurd c_1 hv0) (fun c_1 => ?_)
  refine lv_iload_n hx hb d_JP_checkIndex_4 rfl (lv_at hl 0 rfl) ?_
  refine lv_iload_n hx hb d_JP_checkIndex_5 rfl (lv_at hl 1 rfl) ?_
  refine lv_icmp_lt (tgt := 16) hx hb d_JP_checkIndex_6 (by decide) (fun c_2 => ?_) (fun c_2 => absurd hv1 c_2)
  refine lv_iload_n hx hb d_JP_checkIndex_16 rfl (lv_at hl 0 rfl) ?_
  exact W.iret (v := p0) hx hb hr (fun t ht hW => ⟨p0, rfl, rfl, ht⟩) (fun _ h => by cases h) d_JP_checkIndex_17
set_option maxHeartbeats 4000000 in
set_option maxRecDepth 100000 in
theorem c_JS_checkIndex (l : Launch) (D : va_G) (p0 p1 : Int32) (hv0 : ¬ p0 < 0) (hv1 : p0 < p1) : Met l y_JS_checkIndex mw_JS_checkIndex { frames := 1, cells := 0, slots := 0, locals := 22 } (va_Pc [.int p0, .int p1] (fun U => sk_ D U U.heap)) (va_Sv (fun _ => True)) 0 0 (fun _ => False) := by
  refine Met.ofW (cc := b_JS_checkIndex) (maxL := 2) (ret := none) (by decide) rfl ?_
  intro p e s m args below meth c s₁ B0 hml hv
  obtain ⟨rfl, hz⟩ := hv
  have hx := B0.exec
  have hb := B0.bytes
  have hr := B0.returns
  have hT : ∀ w ∈ lw_g, w.before _ s = true := fun w h => atoms_spec (ws := mw_JS_checkIndex) B0.pre w (List.mem_cons_of_mem _ h)
  have hown : s.vm.findClass R_JS = some m.cls := findClass_of_methodNamed B0.named
  have hlocks := B0.notSynchronized
  have hl := lv_entry ([.int p0, .int p1]) (n := 2) (Nat.le_of_ble_eq_true rfl)
  rw [lg_entry_eq]
  generalize (lg_sl ([.int p0, .int p1]) ++ List.replicate (2 - (lg_sl ([.int p0, .int p1])).length) Slot.unset).toArray = ls at hl ⊢
  have hl : lv_has ls 2 [(0, .int p0), (1, .int p1)] := hl
  refine lv_iload_n hx hb d_JS_checkIndex_0 rfl (lv_at hl 0 rfl) ?_
  refine lv_iload_n hx hb d_JS_checkIndex_1 rfl (lv_at hl 1 rfl) ?_
  rcases hz.2.2.2 with hq | ⟨t, hq⟩
  · refine va_gets hx hb hq va_S.rf hown (hT _ k_516) (fun _ h => h) d_JS_checkIndex_2 ?_
    refine rs_S (val := p0) (As := [.int p0, .int p1, .null]) (rest := []) ⟨hx, hb, hml, hown, hT⟩ (c_JP_checkIndex_n l D p0 p1 hv0 hv1) (va_cwS 3 hT (gS_of k_518 k_519 k_18 kc_JP_checkIndex) rfl rfl rfl hd_JP_checkIndex ⟨Nat.le_of_ble_eq_true rfl, Nat.le_of_ble_eq_true rfl⟩) hz rfl hl.1 rfl (Nat.le_of_ble_eq_true rfl) d_JS_checkIndex_5 ⟨Nat.zero_le _, Nat.zero_le _⟩ ?_
    refine lv_pop hx hb d_JS_checkIndex_8 rfl ?_
    exact W.vret hx hb hr (fun t ht hW => ⟨rfl, trivial, ht⟩) (fun _ h => by cases h) d_JS_checkIndex_9
  · refine va_gets hx hb hq va_S.rf hown (hT _ k_516) (fun _ h => h) d_JS_checkIndex_2 ?_
    refine rs_S (val := p0) (As := [.int p0, .int p1, .ref t]) (rest := []) ⟨hx, hb, hml, hown, hT⟩ (c_JP_checkIndex_r l D p0 p1 t hv0 hv1) (va_cwS 3 hT (gS_of k_518 k_519 k_18 kc_JP_checkIndex) rfl rfl rfl hd_JP_checkIndex ⟨Nat.le_of_ble_eq_true rfl, Nat.le_of_ble_eq_true rfl⟩) hz rfl hl.1 rfl (Nat.le_of_ble_eq_true rfl) d_JS_checkIndex_5 ⟨Nat.zero_le _, Nat.zero_le _⟩ ?_
    refine lv_pop hx hb d_JS_checkIndex_8 rfl ?_
    exact W.vret hx hb hr (fun t ht hW => ⟨rfl, trivial, ht⟩) (fun _ h => by cases h) d_JS_checkIndex_9
set_option maxHeartbeats 4000000 in
set_option maxRecDepth 100000 in
theorem c_JT_charAt (l : Launch) (D : va_G) (i : Nat) (hi : i < 19) (k : Int32) (hk : vp_in k (sLen.getD i 0)) : Met l y_JT_charAt mw_JT_charAt { frames := 2, cells := 0, slots := 0, locals := 44 } (va_Pc [.ref (D.2 102 i), .int k] (fun U => sk_ D U U.heap)) (vp_Si (fun r => r = sch i k)) 0 0 (fun _ => False) := by
  refine Met.ofW (cc := b_JT_charAt) (maxL := 2) (ret := (some .char)) (by decide) rfl ?_
  intro p e s m args below meth c s₁ B0 hml hv
  obtain ⟨rfl, hz⟩ := hv
  have hx := B0.exec
  have hb := B0.bytes
  have hr := B0.returns
  have hT : ∀ w ∈ lw_g, w.before _ s = true := fun w h => atoms_spec (ws := mw_JT_charAt) B0.pre w (List.mem_cons_of_mem _ h)
  have hown : s.vm.findClass R_JT = some m.cls := findClass_of_methodNamed B0.named
  have hlocks := B0.notSynchronized
  have hl := lv_entry ([.ref (D.2 102 i), .int k]) (n := 2) (Nat.le_of_ble_eq_true rfl)
  rw [lg_entry_eq]
  generalize (lg_sl ([.ref (D.2 102 i), .int k]) ++ List.replicate (2 - (lg_sl ([.ref (D.2 102 i), .int k])).length) Slot.unset).toArray = ls at hl ⊢
  have hl : lv_has ls 2 [(0, .ref (D.2 102 i)), (1, .int k)] := hl
  obtain ⟨h0, h1⟩ := vp_lt hk (sLen_lt i hi)
  refine lv_iload_n hx hb d_JT_charAt_0 rfl (lv_at hl 1 rfl) ?_
  refine lv_aload_n hx hb d_JT_charAt_1 rfl (lv_at hl 0 rfl) ?_
  refine va_tlen (v := nI (sLen.getD i 0)) hx hb (hz.1.1 i hi).2.2.2 va_S.rf rfl d_JT_charAt_2 ?_
  refine rs_Sv (As := [.int k, .int (nI (sLen.getD i 0))]) (rest := []) ⟨hx, hb, hml, hown, hT⟩ (c_JS_checkIndex l D k (nI (sLen.getD i 0)) h0 h1) (va_cwS 2 hT (gS_of k_513 k_514 k_16 kc_JS_checkIndex) rfl rfl rfl hd_JS_checkIndex ⟨Nat.le_of_ble_eq_true rfl, Nat.le_of_ble_eq_true rfl⟩) hz rfl hl.1 rfl (Nat.le_of_ble_eq_true rfl) d_JT_charAt_3 ⟨Nat.zero_le _, Nat.zero_le _⟩ ?_
  refine lv_aload_n hx hb d_JT_charAt_6 rfl (lv_at hl 0 rfl) ?_
  refine lv_iload_n hx hb d_JT_charAt_7 rfl (lv_at hl 1 rfl) ?_
  refine va_tb (v := .int ((sByt.getD i []).getD k.toNatClampNeg 0)) hx hb (hz.1.1 i hi).2.2.2 va_S.rf hk rfl d_JT_charAt_8 ?_
  refine lv_sipush (v := 255) hx hb d_JT_charAt_9 (by decide) ?_
  refine lv_iand hx hb d_JT_charAt_12 ?_
  refine lv_i2c (v := sch i k) hx hb d_JT_charAt_13 rfl ?_
  exact W.zret (v := sch i k) (ty := .char) hx hb hr (pk_nc _) (fun t ht hW => ⟨_, rfl, rfl, ht⟩) (fun _ h => by cases h) d_JT_charAt_14
set_option maxHeartbeats 4000000 in
set_option maxRecDepth 100000 in
theorem c_JS_charAt (l : Launch) (D : va_G) (i : Nat) (hi : i < 19) (k : Int32) (hk : vp_in k (sLen.getD i 0)) : Met l y_JS_charAt mw_JS_charAt { frames := 3, cells := 0, slots := 0, locals := 66 } (va_Pc [.ref (D.2 101 i), .int k] (fun U => sk_ D U U.heap)) (vp_Si (fun r => r = sch i k)) 0 0 (fun _ => False) := by
  refine Met.ofW (cc := b_JS_charAt) (maxL := 2) (ret := (some .char)) (by decide) rfl ?_
  intro p e s m args below meth c s₁ B0 hml hv
  obtain ⟨rfl, hz⟩ := hv
  have hx := B0.exec
  have hb := B0.bytes
  have hr := B0.returns
  have hT : ∀ w ∈ lw_g, w.before _ s = true := fun w h => atoms_spec (ws := mw_JS_charAt) B0.pre w (List.mem_cons_of_mem _ h)
  have hown : s.vm.findClass R_JS = some m.cls := findClass_of_methodNamed B0.named
  have hlocks := B0.notSynchronized
  have hl := lv_entry ([.ref (D.2 101 i), .int k]) (n := 2) (Nat.le_of_ble_eq_true rfl)
  rw [lg_entry_eq]
  generalize (lg_sl ([.ref (D.2 101 i), .int k]) ++ List.replicate (2 - (lg_sl ([.ref (D.2 101 i), .int k])).length) Slot.unset).toArray = ls at hl ⊢
  have hl : lv_has ls 2 [(0, .ref (D.2 101 i)), (1, .int k)] := hl
  refine lv_aload_n hx hb d_JS_charAt_0 rfl (lv_at hl 0 rfl) ?_
  refine rs_V (val := 1) (As := []) (rest := []) ⟨hx, hb, hml, hown, hT⟩ (c_JS_isLatin1 l D i hi) (cwV 0 hT (gV_of k_506 k_507 k_508 k_16 kc_JS_isLatin1) rfl rfl rfl hd_JS_isLatin1 ⟨Nat.le_of_ble_eq_true rfl, Nat.le_of_ble_eq_true rfl⟩) hz (vk_recv hz.1 hi va_S.rf) rfl hl.1 rfl (Nat.le_of_ble_eq_true rfl) d_JS_charAt_1 ⟨Nat.zero_le _, Nat.zero_le _⟩ ?_
  refine lv_if_eq (tgt := 16) hx hb d_JS_charAt_4 (by decide) (fun c_1 => absurd c_1 (by decide)) (fun c_1 => ?_)
  refine lv_aload_n hx hb d_JS_charAt_7 rfl (lv_at hl 0 rfl) ?_
  refine vk_getf hx hb (hz.1.1 i hi).2.2.1 va_S.rf hown (hT _ k_1504) (fun _ h => h) d_JS_charAt_8 ?_
  refine lv_iload_n hx hb d_JS_charAt_11 rfl (lv_at hl 1 rfl) ?_
  refine rs_S (val := sch i k) (As := [.ref (D.2 102 i), .int k]) (rest := []) ⟨hx, hb, hml, hown, hT⟩ (c_JT_charAt l D i hi k hk) (va_cwS 2 hT (gS_of k_510 k_511 k_17 kc_JT_charAt) rfl rfl rfl hd_JT_charAt ⟨Nat.le_of_ble_eq_true rfl, Nat.le_of_ble_eq_true rfl⟩) hz rfl hl.1 rfl (Nat.le_of_ble_eq_true rfl) d_JS_charAt_12 ⟨Nat.zero_le _, Nat.zero_le _⟩ ?_
  exact W.zret (v := sch i k) (ty := .char) hx hb hr (pk_nc _) (fun t ht hW => ⟨_, rfl, rfl, ht⟩) (fun _ h => by cases h) d_JS_charAt_15
