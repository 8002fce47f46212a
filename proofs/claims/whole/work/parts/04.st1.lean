/-! printed by wip/gen -/
theorem k_37 : (Jvm.Cond.fieldLink "PipelineBelt$Store" (10 : Nat) "PipelineBelt$Store" "bytes" "[B") ∈ lw_g := lw_gm (List.mem_append_right _ (List.mem_of_getElem? (i := 37) (by decide +kernel))) rfl
abbrev b_ST_ref : ByteArray := prog_10_method_2_code
def y_ST_ref : MethodName := ⟨R_ST, "ref", "(II)I"⟩
theorem kc_ST_ref : Cond.code y_ST_ref b_ST_ref 2 (some .int) ∈ lw_g := lw_gm (List.mem_append_right _ (List.mem_of_getElem? (i := 478) (by decide +kernel))) rfl
abbrev mw_ST_ref : List Cond := Cond.code y_ST_ref b_ST_ref 2 (some .int) :: lw_g
theorem hd_ST_ref : y_ST_ref.cls ≠ "java/lang/invoke/MethodHandle" ∧ y_ST_ref.cls ≠ "java/lang/invoke/VarHandle" ∧ (parseMethodDescriptor y_ST_ref.desc).map (fun d => d.parameters.length) = some 2 := by decide +kernel
theorem d_ST_ref_0 : decode b_ST_ref 0 = .ok (.iload_n 1, 1) := by decide +kernel
theorem d_ST_ref_1 : decode b_ST_ref 1 = .ok (.iconst 5, 1) := by decide +kernel
theorem d_ST_ref_2 : decode b_ST_ref 2 = .ok (.ishl, 1) := by decide +kernel
theorem d_ST_ref_3 : decode b_ST_ref 3 = .ok (.iload_n 0, 1) := by decide +kernel
theorem d_ST_ref_4 : decode b_ST_ref 4 = .ok (.ior, 1) := by decide +kernel
theorem d_ST_ref_5 : decode b_ST_ref 5 = .ok (.ireturn, 1) := by decide +kernel
abbrev b_ST_kindOf : ByteArray := prog_10_method_3_code
def y_ST_kindOf : MethodName := ⟨R_ST, "kindOf", "(I)I"⟩
theorem kc_ST_kindOf : Cond.code y_ST_kindOf b_ST_kindOf 1 (some .int) ∈ lw_g := lw_gm (List.mem_append_right _ (List.mem_of_getElem? (i := 556) (by decide +kernel))) rfl
abbrev mw_ST_kindOf : List Cond := Cond.code y_ST_kindOf b_ST_kindOf 1 (some .int) :: lw_g
theorem hd_ST_kindOf : y_ST_kindOf.cls ≠ "java/lang/invoke/MethodHandle" ∧ y_ST_kindOf.cls ≠ "java/lang/invoke/VarHandle" ∧ (parseMethodDescriptor y_ST_kindOf.desc).map (fun d => d.parameters.length) = some 1 := by decide +kernel
theorem d_ST_kindOf_0 : decode b_ST_kindOf 0 = .ok (.iload_n 0, 1) := by decide +kernel
theorem d_ST_kindOf_1 : decode b_ST_kindOf 1 = .ok (.bipush 31, 2) := by decide +kernel
theorem d_ST_kindOf_3 : decode b_ST_kindOf 3 = .ok (.iand, 1) := by decide +kernel
theorem d_ST_kindOf_4 : decode b_ST_kindOf 4 = .ok (.ireturn, 1) := by decide +kernel
abbrev b_ST_placeOf : ByteArray := prog_10_method_4_code
def y_ST_placeOf : MethodName := ⟨R_ST, "placeOf", "(I)I"⟩
theorem kc_ST_placeOf : Cond.code y_ST_placeOf b_ST_placeOf 1 (some .int) ∈ lw_g := lw_gm (List.mem_append_right _ (List.mem_of_getElem? (i := 404) (by decide +kernel))) rfl
abbrev mw_ST_placeOf : List Cond := Cond.code y_ST_placeOf b_ST_placeOf 1 (some .int) :: lw_g
theorem hd_ST_placeOf : y_ST_placeOf.cls ≠ "java/lang/invoke/MethodHandle" ∧ y_ST_placeOf.cls ≠ "java/lang/invoke/VarHandle" ∧ (parseMethodDescriptor y_ST_placeOf.desc).map (fun d => d.parameters.length) = some 1 := by decide +kernel
theorem d_ST_placeOf_0 : decode b_ST_placeOf 0 = .ok (.iload_n 0, 1) := by decide +kernel
theorem d_ST_placeOf_1 : decode b_ST_placeOf 1 = .ok (.iconst 5, 1) := by decide +kernel
theorem d_ST_placeOf_2 : decode b_ST_placeOf 2 = .ok (.iushr, 1) := by decide +kernel
theorem d_ST_placeOf_3 : decode b_ST_placeOf 3 = .ok (.ireturn, 1) := by decide +kernel
abbrev b_ST_classOf : ByteArray := prog_10_method_5_code
def y_ST_classOf : MethodName := ⟨R_ST, "classOf", "(I)I"⟩
theorem kc_ST_classOf : Cond.code y_ST_classOf b_ST_classOf 1 (some .int) ∈ lw_g := lw_gm (List.mem_append_right _ (List.mem_of_getElem? (i := 781) (by decide +kernel))) rfl
abbrev mw_ST_classOf : List Cond := Cond.code y_ST_classOf b_ST_classOf 1 (some .int) :: lw_g
theorem hd_ST_classOf : y_ST_classOf.cls ≠ "java/lang/invoke/MethodHandle" ∧ y_ST_classOf.cls ≠ "java/lang/invoke/VarHandle" ∧ (parseMethodDescriptor y_ST_classOf.desc).map (fun d => d.parameters.length) = some 1 := by decide +kernel
theorem d_ST_classOf_0 : decode b_ST_classOf 0 = .ok (.iload_n 0, 1) := by decide +kernel
theorem d_ST_classOf_1 : decode b_ST_classOf 1 = .ok (.bipush 31, 2) := by decide +kernel
theorem d_ST_classOf_3 : decode b_ST_classOf 3 = .ok (.iand, 1) := by decide +kernel
theorem d_ST_classOf_4 : decode b_ST_classOf 4 = .ok (.tableswitch 99 2 18 #[90, 92, 94, 99, 99, 99, 96, 99, 84, 99, 99, 99, 99, 99, 86, 99, 88], 84) := by decide +kernel
theorem d_ST_classOf_88 : decode b_ST_classOf 88 = .ok (.iconst 1, 1) := by decide +kernel
theorem d_ST_classOf_89 : decode b_ST_classOf 89 = .ok (.ireturn, 1) := by decide +kernel
theorem d_ST_classOf_90 : decode b_ST_classOf 90 = .ok (.iconst 2, 1) := by decide +kernel
theorem d_ST_classOf_91 : decode b_ST_classOf 91 = .ok (.ireturn, 1) := by decide +kernel
theorem d_ST_classOf_92 : decode b_ST_classOf 92 = .ok (.iconst 2, 1) := by decide +kernel
theorem d_ST_classOf_93 : decode b_ST_classOf 93 = .ok (.ireturn, 1) := by decide +kernel
theorem d_ST_classOf_94 : decode b_ST_classOf 94 = .ok (.iconst 3, 1) := by decide +kernel
theorem d_ST_classOf_95 : decode b_ST_classOf 95 = .ok (.ireturn, 1) := by decide +kernel
theorem d_ST_classOf_96 : decode b_ST_classOf 96 = .ok (.iconst 4, 1) := by decide +kernel
theorem d_ST_classOf_97 : decode b_ST_classOf 97 = .ok (.ireturn, 1) := by decide +kernel
theorem d_ST_classOf_98 : decode b_ST_classOf 98 = .ok (.iconst 5, 1) := by decide +kernel
theorem d_ST_classOf_99 : decode b_ST_classOf 99 = .ok (.ireturn, 1) := by decide +kernel
theorem d_ST_classOf_100 : decode b_ST_classOf 100 = .ok (.bipush 6, 2) := by decide +kernel
theorem d_ST_classOf_102 : decode b_ST_classOf 102 = .ok (.ireturn, 1) := by decide +kernel
theorem d_ST_classOf_103 : decode b_ST_classOf 103 = .ok (.iconst 0, 1) := by decide +kernel
theorem d_ST_classOf_104 : decode b_ST_classOf 104 = .ok (.ireturn, 1) := by decide +kernel
abbrev b_ST_at : ByteArray := prog_10_method_6_code
def y_ST_at : MethodName := ⟨R_ST, "at", "(I)I"⟩
theorem kc_ST_at : Cond.code y_ST_at b_ST_at 2 (some .int) ∈ lw_g := lw_gm (List.mem_append_right _ (List.mem_of_getElem? (i := 380) (by decide +kernel))) rfl
abbrev mw_ST_at : List Cond := Cond.code y_ST_at b_ST_at 2 (some .int) :: lw_g
theorem hd_ST_at : y_ST_at.cls = R_ST ∧ y_ST_at.cls ≠ "java/lang/invoke/MethodHandle" ∧ y_ST_at.cls ≠ "java/lang/invoke/VarHandle" ∧ (parseMethodDescriptor y_ST_at.desc).map (fun d => d.parameters.length) = some 1 := by decide +kernel
theorem d_ST_at_0 : decode b_ST_at 0 = .ok (.iload_n 1, 1) := by decide +kernel
theorem d_ST_at_1 : decode b_ST_at 1 = .ok (.ifCond .lt 25, 3) := by decide +kernel
theorem d_ST_at_4 : decode b_ST_at 4 = .ok (.iload_n 1, 1) := by decide +kernel
theorem d_ST_at_5 : decode b_ST_at 5 = .ok (.aload_n 0, 1) := by decide +kernel
theorem d_ST_at_6 : decode b_ST_at 6 = .ok (.getfield 10, 3) := by decide +kernel
theorem d_ST_at_9 : decode b_ST_at 9 = .ok (.arraylength, 1) := by decide +kernel
theorem d_ST_at_10 : decode b_ST_at 10 = .ok (.if_icmp .ge 16, 3) := by decide +kernel
theorem d_ST_at_13 : decode b_ST_at 13 = .ok (.aload_n 0, 1) := by decide +kernel
theorem d_ST_at_14 : decode b_ST_at 14 = .ok (.getfield 10, 3) := by decide +kernel
theorem d_ST_at_17 : decode b_ST_at 17 = .ok (.iload_n 1, 1) := by decide +kernel
theorem d_ST_at_18 : decode b_ST_at 18 = .ok (.baload, 1) := by decide +kernel
theorem d_ST_at_19 : decode b_ST_at 19 = .ok (.sipush 255, 3) := by decide +kernel
theorem d_ST_at_22 : decode b_ST_at 22 = .ok (.iand, 1) := by decide +kernel
theorem d_ST_at_23 : decode b_ST_at 23 = .ok (.goto 4, 3) := by decide +kernel
theorem d_ST_at_26 : decode b_ST_at 26 = .ok (.iconst 0, 1) := by decide +kernel
theorem d_ST_at_27 : decode b_ST_at 27 = .ok (.ireturn, 1) := by decide +kernel
abbrev b_ST_valueOf : ByteArray := prog_10_method_10_code
def y_ST_valueOf : MethodName := ⟨R_ST, "valueOf", "(I)I"⟩
theorem kc_ST_valueOf : Cond.code y_ST_valueOf b_ST_valueOf 3 (some .int) ∈ lw_g := lw_gm (List.mem_append_right _ (List.mem_of_getElem? (i := 401) (by decide +kernel))) rfl
abbrev mw_ST_valueOf : List Cond := Cond.code y_ST_valueOf b_ST_valueOf 3 (some .int) :: lw_g
theorem hd_ST_valueOf : y_ST_valueOf.cls = R_ST ∧ y_ST_valueOf.cls ≠ "java/lang/invoke/MethodHandle" ∧ y_ST_valueOf.cls ≠ "java/lang/invoke/VarHandle" ∧ (parseMethodDescriptor y_ST_valueOf.desc).map (fun d => d.parameters.length) = some 1 := by decide +kernel
theorem d_ST_valueOf_0 : decode b_ST_valueOf 0 = .ok (.iload_n 1, 1) := by decide +kernel
theorem d_ST_valueOf_1 : decode b_ST_valueOf 1 = .ok (.ifCond .lt 12, 3) := by decide +kernel
theorem d_ST_valueOf_4 : decode b_ST_valueOf 4 = .ok (.iload_n 1, 1) := by decide +kernel
theorem d_ST_valueOf_5 : decode b_ST_valueOf 5 = .ok (.aload_n 0, 1) := by decide +kernel
theorem d_ST_valueOf_6 : decode b_ST_valueOf 6 = .ok (.getfield 10, 3) := by decide +kernel
theorem d_ST_valueOf_9 : decode b_ST_valueOf 9 = .ok (.arraylength, 1) := by decide +kernel
theorem d_ST_valueOf_10 : decode b_ST_valueOf 10 = .ok (.if_icmp .lt 5, 3) := by decide +kernel
theorem d_ST_valueOf_13 : decode b_ST_valueOf 13 = .ok (.iconst 0, 1) := by decide +kernel
theorem d_ST_valueOf_14 : decode b_ST_valueOf 14 = .ok (.ireturn, 1) := by decide +kernel
theorem d_ST_valueOf_15 : decode b_ST_valueOf 15 = .ok (.iload_n 1, 1) := by decide +kernel
theorem d_ST_valueOf_16 : decode b_ST_valueOf 16 = .ok (.iconst 1, 1) := by decide +kernel
theorem d_ST_valueOf_17 : decode b_ST_valueOf 17 = .ok (.iadd, 1) := by decide +kernel
theorem d_ST_valueOf_18 : decode b_ST_valueOf 18 = .ok (.istore_n 2, 1) := by decide +kernel
theorem d_ST_valueOf_19 : decode b_ST_valueOf 19 = .ok (.iload_n 2, 1) := by decide +kernel
theorem d_ST_valueOf_20 : decode b_ST_valueOf 20 = .ok (.aload_n 0, 1) := by decide +kernel
theorem d_ST_valueOf_21 : decode b_ST_valueOf 21 = .ok (.getfield 10, 3) := by decide +kernel
theorem d_ST_valueOf_24 : decode b_ST_valueOf 24 = .ok (.arraylength, 1) := by decide +kernel
theorem d_ST_valueOf_25 : decode b_ST_valueOf 25 = .ok (.if_icmp .ge 34, 3) := by decide +kernel
theorem d_ST_valueOf_28 : decode b_ST_valueOf 28 = .ok (.aload_n 0, 1) := by decide +kernel
theorem d_ST_valueOf_29 : decode b_ST_valueOf 29 = .ok (.getfield 10, 3) := by decide +kernel
theorem d_ST_valueOf_32 : decode b_ST_valueOf 32 = .ok (.iload_n 2, 1) := by decide +kernel
theorem d_ST_valueOf_33 : decode b_ST_valueOf 33 = .ok (.baload, 1) := by decide +kernel
theorem d_ST_valueOf_34 : decode b_ST_valueOf 34 = .ok (.ifCond .ne 19, 3) := by decide +kernel
theorem d_ST_valueOf_37 : decode b_ST_valueOf 37 = .ok (.iload_n 2, 1) := by decide +kernel
theorem d_ST_valueOf_38 : decode b_ST_valueOf 38 = .ok (.iconst 1, 1) := by decide +kernel
theorem d_ST_valueOf_39 : decode b_ST_valueOf 39 = .ok (.iadd, 1) := by decide +kernel
theorem d_ST_valueOf_40 : decode b_ST_valueOf 40 = .ok (.iconst 5, 1) := by decide +kernel
theorem d_ST_valueOf_41 : decode b_ST_valueOf 41 = .ok (.ishl, 1) := by decide +kernel
theorem d_ST_valueOf_42 : decode b_ST_valueOf 42 = .ok (.aload_n 0, 1) := by decide +kernel
theorem d_ST_valueOf_43 : decode b_ST_valueOf 43 = .ok (.getfield 10, 3) := by decide +kernel
theorem d_ST_valueOf_46 : decode b_ST_valueOf 46 = .ok (.iload_n 1, 1) := by decide +kernel
theorem d_ST_valueOf_47 : decode b_ST_valueOf 47 = .ok (.baload, 1) := by decide +kernel
theorem d_ST_valueOf_48 : decode b_ST_valueOf 48 = .ok (.bipush 31, 2) := by decide +kernel
theorem d_ST_valueOf_50 : decode b_ST_valueOf 50 = .ok (.iand, 1) := by decide +kernel
theorem d_ST_valueOf_51 : decode b_ST_valueOf 51 = .ok (.ior, 1) := by decide +kernel
theorem d_ST_valueOf_52 : decode b_ST_valueOf 52 = .ok (.ireturn, 1) := by decide +kernel
theorem d_ST_valueOf_53 : decode b_ST_valueOf 53 = .ok (.iinc 2 1, 3) := by decide +kernel
theorem d_ST_valueOf_56 : decode b_ST_valueOf 56 = .ok (.goto (-37), 3) := by decide +kernel
theorem d_ST_valueOf_59 : decode b_ST_valueOf 59 = .ok (.iconst 0, 1) := by decide +kernel
theorem d_ST_valueOf_60 : decode b_ST_valueOf 60 = .ok (.ireturn, 1) := by decide +kernel
set_option maxHeartbeats 4000000 in
set_option maxRecDepth 100000 in
theorem c_ST_ref (l : Launch) (D : va_G) (cB cI : ClassId) (p0 : Int32) (p1 : Int32) : Met l y_ST_ref mw_ST_ref { frames := 0, cells := 0, slots := 0, locals := 0 } (va_Pc [.int p0, .int p1] (fun U => va_P D vwCl [] U.heap ∧ hk_ D cB cI U)) (vp_Si (fun r => r = tw_ST_ref p0 p1)) 0 0 (fun _ => False) := by
  refine Met.ofW (cc := b_ST_ref) (maxL := 2) (ret := (some .int)) (by decide) rfl ?_
  intro p e s m args below meth c s₁ B0 hml hv
  obtain ⟨rfl, hP, hk⟩ := hv
  have hK := hk.1
  have hN := hk.2.1
  have hx := B0.exec
  have hb := B0.bytes
  have hr := B0.returns
  have hT : ∀ w ∈ lw_g, w.before _ s = true := fun w h => atoms_spec (ws := mw_ST_ref) B0.pre w (List.mem_cons_of_mem _ h)
  have hown : s.vm.findClass R_ST = some m.cls := findClass_of_methodNamed B0.named
  have hlocks := B0.notSynchronized
  have hl := lv_entry ([.int p0, .int p1]) (n := 2) (Nat.le_of_ble_eq_true rfl)
  rw [lg_entry_eq]
  generalize (lg_sl ([.int p0, .int p1]) ++ List.replicate (2 - (lg_sl ([.int p0, .int p1])).length) Slot.unset).toArray = ls at hl ⊢
  have hl : lv_has ls 2 [(0, .int p0), (1, .int p1)] := hl
  refine lv_iload_n hx hb d_ST_ref_0 rfl (lv_at hl 1 rfl) ?_
  refine lv_iconst (v := 5) hx hb d_ST_ref_1 (by decide) ?_
  refine lv_ishl hx hb d_ST_ref_2 ?_
  refine lv_iload_n hx hb d_ST_ref_3 rfl (lv_at hl 0 rfl) ?_
  refine lv_ior hx hb d_ST_ref_4 ?_
  exact W.iret (v := (p1 <<< ((5 : Int32) &&& 31)) ||| p0) hx hb hr (fun t ht hW => ⟨(p1 <<< ((5 : Int32) &&& 31)) ||| p0, rfl, (by rw [tw_ST_ref]; first | done | rfl), ht⟩) (fun _ h => by cases h) d_ST_ref_5
set_option maxHeartbeats 4000000 in
set_option maxRecDepth 100000 in
theorem c_ST_kindOf (l : Launch) (D : va_G) (cB cI : ClassId) (p0 : Int32) : Met l y_ST_kindOf mw_ST_kindOf { frames := 0, cells := 0, slots := 0, locals := 0 } (va_Pc [.int p0] (fun U => va_P D vwCl [] U.heap ∧ hk_ D cB cI U)) (vp_Si (fun r => r = tw_ST_kindOf p0)) 0 0 (fun _ => False) := by
  refine Met.ofW (cc := b_ST_kindOf) (maxL := 1) (ret := (some .int)) (by decide) rfl ?_
  intro p e s m args below meth c s₁ B0 hml hv
  obtain ⟨rfl, hP, hk⟩ := hv
  have hK := hk.1
  have hN := hk.2.1
  have hx := B0.exec
  have hb := B0.bytes
  have hr := B0.returns
  have hT : ∀ w ∈ lw_g, w.before _ s = true := fun w h => atoms_spec (ws := mw_ST_kindOf) B0.pre w (List.mem_cons_of_mem _ h)
  have hown : s.vm.findClass R_ST = some m.cls := findClass_of_methodNamed B0.named
  have hlocks := B0.notSynchronized
  have hl := lv_entry ([.int p0]) (n := 1) (Nat.le_of_ble_eq_true rfl)
  rw [lg_entry_eq]
  generalize (lg_sl ([.int p0]) ++ List.replicate (1 - (lg_sl ([.int p0])).length) Slot.unset).toArray = ls at hl ⊢
  have hl : lv_has ls 1 [(0, .int p0)] := hl
  refine lv_iload_n hx hb d_ST_kindOf_0 rfl (lv_at hl 0 rfl) ?_
  refine lv_bipush (v := 31) hx hb d_ST_kindOf_1 (by decide) ?_
  refine lv_iand hx hb d_ST_kindOf_3 ?_
  exact W.iret (v := p0 &&& 31) hx hb hr (fun t ht hW => ⟨p0 &&& 31, rfl, (by rw [tw_ST_kindOf]; first | done | rfl), ht⟩) (fun _ h => by cases h) d_ST_kindOf_4
set_option maxHeartbeats 4000000 in
set_option maxRecDepth 100000 in
theorem c_ST_placeOf (l : Launch) (D : va_G) (cB cI : ClassId) (p0 : Int32) : Met l y_ST_placeOf mw_ST_placeOf { frames := 0, cells := 0, slots := 0, locals := 0 } (va_Pc [.int p0] (fun U => va_P D vwCl [] U.heap ∧ hk_ D cB cI U)) (vp_Si (fun r => r = tw_ST_placeOf p0)) 0 0 (fun _ => False) := by
  refine Met.ofW (cc := b_ST_placeOf) (maxL := 1) (ret := (some .int)) (by decide) rfl ?_
  intro p e s m args below meth c s₁ B0 hml hv
  obtain ⟨rfl, hP, hk⟩ := hv
  have hK := hk.1
  have hN := hk.2.1
  have hx := B0.exec
  have hb := B0.bytes
  have hr := B0.returns
  have hT : ∀ w ∈ lw_g, w.before _ s = true := fun w h => atoms_spec (ws := mw_ST_placeOf) B0.pre w (List.mem_cons_of_mem _ h)
  have hown : s.vm.findClass R_ST = some m.cls := findClass_of_methodNamed B0.named
  have hlocks := B0.notSynchronized
  have hl := lv_entry ([.int p0]) (n := 1) (Nat.le_of_ble_eq_true rfl)
  rw [lg_entry_eq]
  generalize (lg_sl ([.int p0]) ++ List.replicate (1 - (lg_sl ([.int p0])).length) Slot.unset).toArray = ls at hl ⊢
  have hl : lv_has ls 1 [(0, .int p0)] := hl
  refine lv_iload_n hx hb d_ST_placeOf_0 rfl (lv_at hl 0 rfl) ?_
  refine lv_iconst (v := 5) hx hb d_ST_placeOf_1 (by decide) ?_
  refine lv_iushr (v := (p0.toUInt32 >>> ((5 : Int32).toUInt32 &&& Int32.toUInt32 31)).toInt32) hx hb d_ST_placeOf_2 rfl ?_
  exact W.iret (v := (p0.toUInt32 >>> ((5 : Int32).toUInt32 &&& Int32.toUInt32 31)).toInt32) hx hb hr (fun t ht hW => ⟨(p0.toUInt32 >>> ((5 : Int32).toUInt32 &&& Int32.toUInt32 31)).toInt32, rfl, (by rw [tw_ST_placeOf]; first | done | rfl), ht⟩) (fun _ h => by cases h) d_ST_placeOf_3
set_option maxHeartbeats 4000000 in
set_option maxRecDepth 100000 in
theorem c_ST_classOf (l : Launch) (D : va_G) (cB cI : ClassId) (p0 : Int32) : Met l y_ST_classOf mw_ST_classOf { frames := 0, cells := 0, slots := 0, locals := 0 } (va_Pc [.int p0] (fun U => va_P D vwCl [] U.heap ∧ hk_ D cB cI U)) (vp_Si (fun r => r = tw_ST_classOf p0)) 0 0 (fun _ => False) := by
  refine Met.ofW (cc := b_ST_classOf) (maxL := 1) (ret := (some .int)) (by decide) rfl ?_
  intro p e s m args below meth c s₁ B0 hml hv
  obtain ⟨rfl, hP, hk⟩ := hv
  have hK := hk.1
  have hN := hk.2.1
  have hx := B0.exec
  have hb := B0.bytes
  have hr := B0.returns
  have hT : ∀ w ∈ lw_g, w.before _ s = true := fun w h => atoms_spec (ws := mw_ST_classOf) B0.pre w (List.mem_cons_of_mem _ h)
  have hown : s.vm.findClass R_ST = some m.cls := findClass_of_methodNamed B0.named
  have hlocks := B0.notSynchronized
  have hl := lv_entry ([.int p0]) (n := 1) (Nat.le_of_ble_eq_true rfl)
  rw [lg_entry_eq]
  generalize (lg_sl ([.int p0]) ++ List.replicate (1 - (lg_sl ([.int p0])).length) Slot.unset).toArray = ls at hl ⊢
  have hl : lv_has ls 1 [(0, .int p0)] := hl
  refine lv_iload_n hx hb d_ST_classOf_0 rfl (lv_at hl 0 rfl) ?_
  refine lv_bipush (v := 31) hx hb d_ST_classOf_1 (by decide) ?_
  refine lv_iand hx hb d_ST_classOf_3 ?_
  by_cases c_1 : (p0 &&& 31) = 2
  · refine sw_T (tgt := 94) hx hb d_ST_classOf_4 (Or.inr ⟨by rw [c_1]; decide, by rw [c_1]; decide, 90, by rw [c_1]; rfl, by decide⟩) ?_
    refine lv_iconst (v := 3) hx hb d_ST_classOf_94 (by decide) ?_
    exact W.iret (v := 3) hx hb hr (fun t ht hW => ⟨3, rfl, (by rw [tw_ST_classOf, if_pos c_1]; first | done | rfl), ht⟩) (fun _ h => by cases h) d_ST_classOf_95
  by_cases c_2 : (p0 &&& 31) = 3
  · refine sw_T (tgt := 96) hx hb d_ST_classOf_4 (Or.inr ⟨by rw [c_2]; decide, by rw [c_2]; decide, 92, by rw [c_2]; rfl, by decide⟩) ?_
    refine lv_iconst (v := 4) hx hb d_ST_classOf_96 (by decide) ?_
    exact W.iret (v := 4) hx hb hr (fun t ht hW => ⟨4, rfl, (by rw [tw_ST_classOf, if_neg c_1, if_pos c_2]; first | done | rfl), ht⟩) (fun _ h => by cases h) d_ST_classOf_97
  by_cases c_3 : (p0 &&& 31) = 4
  · refine sw_T (tgt := 98) hx hb d_ST_classOf_4 (Or.inr ⟨by rw [c_3]; decide, by rw [c_3]; decide, 94, by rw [c_3]; rfl, by decide⟩) ?_
    refine lv_iconst (v := 5) hx hb d_ST_classOf_98 (by decide) ?_
    exact W.iret (v := 5) hx hb hr (fun t ht hW => ⟨5, rfl, (by rw [tw_ST_classOf, if_neg c_1, if_neg c_2, if_pos c_3]; first | done | rfl), ht⟩) (fun _ h => by cases h) d_ST_classOf_99
  by_cases c_4 : (p0 &&& 31) = 8
  · refine sw_T (tgt := 100) hx hb d_ST_classOf_4 (Or.inr ⟨by rw [c_4]; decide, by rw [c_4]; decide, 96, by rw [c_4]; rfl, by decide⟩) ?_
    refine lv_bipush (v := 6) hx hb d_ST_classOf_100 (by decide) ?_
    exact W.iret (v := 6) hx hb hr (fun t ht hW => ⟨6, rfl, (by rw [tw_ST_classOf, if_neg c_1, if_neg c_2, if_neg c_3, if_pos c_4]; first | done | rfl), ht⟩) (fun _ h => by cases h) d_ST_classOf_102
  by_cases c_5 : (p0 &&& 31) = 10
  · refine sw_T (tgt := 88) hx hb d_ST_classOf_4 (Or.inr ⟨by rw [c_5]; decide, by rw [c_5]; decide, 84, by rw [c_5]; rfl, by decide⟩) ?_
    refine lv_iconst (v := 1) hx hb d_ST_classOf_88 (by decide) ?_
    exact W.iret (v := 1) hx hb hr (fun t ht hW => ⟨1, rfl, (by rw [tw_ST_classOf, if_neg c_1, if_neg c_2, if_neg c_3, if_neg c_4, if_pos c_5]; first | done | rfl), ht⟩) (fun _ h => by cases h) d_ST_classOf_89
  by_cases c_6 : (p0 &&& 31) = 16
  · refine sw_T (tgt := 90) hx hb d_ST_classOf_4 (Or.inr ⟨by rw [c_6]; decide, by rw [c_6]; decide, 86, by rw [c_6]; rfl, by decide⟩) ?_
    refine lv_iconst (v := 2) hx hb d_ST_classOf_90 (by decide) ?_
    exact W.iret (v := 2) hx hb hr (fun t ht hW => ⟨2, rfl, (by rw [tw_ST_classOf, if_neg c_1, if_neg c_2, if_neg c_3, if_neg c_4, if_neg c_5, if_pos c_6]; first | done | rfl), ht⟩) (fun _ h => by cases h) d_ST_classOf_91
  by_cases c_7 : (p0 &&& 31) = 18
  · refine sw_T (tgt := 92) hx hb d_ST_classOf_4 (Or.inr ⟨by rw [c_7]; decide, by rw [c_7]; decide, 88, by rw [c_7]; rfl, by decide⟩) ?_
    refine lv_iconst (v := 2) hx hb d_ST_classOf_92 (by decide) ?_
    exact W.iret (v := 2) hx hb hr (fun t ht hW => ⟨2, rfl, (by rw [tw_ST_classOf, if_neg c_1, if_neg c_2, if_neg c_3, if_neg c_4, if_neg c_5, if_neg c_6, if_pos c_7]; first | done | rfl), ht⟩) (fun _ h => by cases h) d_ST_classOf_93
  have h_c_1 := lv_neT c_1 (show (2 : Int32).toInt = 2 from rfl)
  have h_c_2 := lv_neT c_2 (show (3 : Int32).toInt = 3 from rfl)
  have h_c_3 := lv_neT c_3 (show (4 : Int32).toInt = 4 from rfl)
  have h_c_4 := lv_neT c_4 (show (8 : Int32).toInt = 8 from rfl)
  have h_c_5 := lv_neT c_5 (show (10 : Int32).toInt = 10 from rfl)
  have h_c_6 := lv_neT c_6 (show (16 : Int32).toInt = 16 from rfl)
  have h_c_7 := lv_neT c_7 (show (18 : Int32).toInt = 18 from rfl)
  refine sw_T (tgt := 103) hx hb d_ST_classOf_4 (by
    rcases Int.lt_or_le (p0 &&& 31).toInt 2 with q | q
    · exact Or.inl ⟨Or.inl q, by decide⟩
    · rcases Int.lt_or_le 18 (p0 &&& 31).toInt with q2 | q2
      · exact Or.inl ⟨Or.inr q2, by decide⟩
      · refine Or.inr ⟨by omega, by omega, ?_⟩
        have q3 : (p0 &&& 31).toInt = 5 ∨ (p0 &&& 31).toInt = 6 ∨ (p0 &&& 31).toInt = 7 ∨ (p0 &&& 31).toInt = 9 ∨ (p0 &&& 31).toInt = 11 ∨ (p0 &&& 31).toInt = 12 ∨ (p0 &&& 31).toInt = 13 ∨ (p0 &&& 31).toInt = 14 ∨ (p0 &&& 31).toInt = 15 ∨ (p0 &&& 31).toInt = 17 := by omega
        rcases q3 with q3 | q3 | q3 | q3 | q3 | q3 | q3 | q3 | q3 | q3 <;> (rw [q3]; exact ⟨_, rfl, by decide⟩)) ?_
  refine lv_iconst (v := 0) hx hb d_ST_classOf_103 (by decide) ?_
  exact W.iret (v := 0) hx hb hr (fun t ht hW => ⟨0, rfl, (by rw [tw_ST_classOf, if_neg c_1, if_neg c_2, if_neg c_3, if_neg c_4, if_neg c_5, if_neg c_6, if_neg c_7]; first | done | rfl), ht⟩) (fun _ h => by cases h) d_ST_classOf_104
set_option maxHeartbeats 4000000 in
set_option maxRecDepth 100000 in
theorem c_ST_at (l : Launch) (D : va_G) (cB cI : ClassId) (aS aB : Nat) (b : Nat → UInt8) (p0 : Int32) : Met l y_ST_at mw_ST_at { frames := 0, cells := 0, slots := 0, locals := 0 } (va_Pc [.ref aS, .int p0] (fun U => va_P D vwCl [(aS, .inr (0, [.ref aB])), (aB, .inl (cB, 202000, .inl (by_ b)))] U.heap ∧ hk_ D cB cI U)) (vp_Si (fun r => r = tw_ST_at b p0)) 0 0 (fun _ => False) := by
  refine Met.ofW (cc := b_ST_at) (maxL := 2) (ret := (some .int)) (by decide) rfl ?_
  intro p e s m args below meth c s₁ B0 hml hv
  obtain ⟨rfl, hP, hk⟩ := hv
  have hK := hk.1
  have hN := hk.2.1
  have hx := B0.exec
  have hb := B0.bytes
  have hr := B0.returns
  have hT : ∀ w ∈ lw_g, w.before _ s = true := fun w h => atoms_spec (ws := mw_ST_at) B0.pre w (List.mem_cons_of_mem _ h)
  have hown : s.vm.findClass R_ST = some m.cls := findClass_of_methodNamed B0.named
  have hlocks := B0.notSynchronized
  have hl := lv_entry ([.ref aS, .int p0]) (n := 2) (Nat.le_of_ble_eq_true rfl)
  rw [lg_entry_eq]
  generalize (lg_sl ([.ref aS, .int p0]) ++ List.replicate (2 - (lg_sl ([.ref aS, .int p0])).length) Slot.unset).toArray = ls at hl ⊢
  have hl : lv_has ls 2 [(0, .ref aS), (1, .int p0)] := hl
  refine lv_iload_n hx hb d_ST_at_0 rfl (lv_at hl 1 rfl) ?_
  refine lv_if_lt (tgt := 26) hx hb d_ST_at_1 (by decide) (fun c_1 => ?_) (fun c_1 => ?_)
  · refine lv_iconst (v := 0) hx hb d_ST_at_26 (by decide) ?_
    exact W.iret (v := 0) hx hb hr (fun t ht hW => ⟨0, rfl, (by rw [tw_ST_at, if_pos c_1]; first | done | rfl), ht⟩) (fun _ h => by cases h) d_ST_at_27
  · refine lv_iload_n hx hb d_ST_at_4 rfl (lv_at hl 1 rfl) ?_
    refine lv_aload_n hx hb d_ST_at_5 rfl (lv_at hl 0 rfl) ?_
    refine va_get (D := D) (ci := 0) (v := .ref aB) (C := R_ST) (T := T_ST) (N := 1) hx hb hT u_ST hown hK hP 0 rfl rfl 0 (by decide) (hT _ k_37) (fun _ h9 => h9) rfl d_ST_at_6 ?_
    refine va_alen (v := 202000) hx hb hK hP 1 0 rfl rfl rfl d_ST_at_9 ?_
    refine lv_icmp_ge (tgt := 26) hx hb d_ST_at_10 (by decide) (fun c_2 => ?_) (fun c_2 => ?_)
    · refine lv_iconst (v := 0) hx hb d_ST_at_26 (by decide) ?_
      exact W.iret (v := 0) hx hb hr (fun t ht hW => ⟨0, rfl, (by rw [tw_ST_at, if_neg c_1, if_pos c_2]; first | done | rfl), ht⟩) (fun _ h => by cases h) d_ST_at_27
    · refine lv_aload_n hx hb d_ST_at_13 rfl (lv_at hl 0 rfl) ?_
      refine va_get (D := D) (ci := 0) (v := .ref aB) (C := R_ST) (T := T_ST) (N := 1) hx hb hT u_ST hown hK hP 0 rfl rfl 0 (by decide) (hT _ k_37) (fun _ h9 => h9) rfl d_ST_at_14 ?_
      refine lv_iload_n hx hb d_ST_at_17 rfl (lv_at hl 1 rfl) ?_
      refine va_bald hx hb hK hP 1 0 rfl rfl (in_nn c_1 c_2 rfl) d_ST_at_18 ?_
      refine lv_sipush (v := 255) hx hb d_ST_at_19 (by decide) ?_
      refine lv_iand hx hb d_ST_at_22 ?_
      refine lv_goto (tgt := 27) hx hb d_ST_at_23 (by decide) ?_
      exact W.iret (v := (by_ b p0.toNatClampNeg) &&& 255) hx hb hr (fun t ht hW => ⟨(by_ b p0.toNatClampNeg) &&& 255, rfl, (by rw [tw_ST_at, if_neg c_1, if_neg c_2]; first | done | rfl), ht⟩) (fun _ h => by cases h) d_ST_at_27
set_option maxHeartbeats 4000000 in
set_option maxRecDepth 100000 in
theorem l_ST_valueOf_h19 {p : Program} {e : Env} {s : State} {m : MethodId} {args : Array Value} {below : List Frame} {meth : Method} {c : Code} {V : Int32} (C0 : lc_C p s m meth c args b_ST_valueOf 3 (some .int) R_ST lw_g) (l : Launch) (D : va_G) (cB cI : ClassId) (aS aB : Nat) (b : Nat → UInt8) (hP : va_P D vwCl [(aS, .inr (0, [.ref aB])), (aB, .inl (cB, 202000, .inl (by_ b)))] s.heap) (hk : hk_ D cB cI s) (p0 : Int32) (hf1 : ¬ p0 < 0) (hf2 : p0 < 202000) : ∀ (n : Nat) (x2 : Int32), ((202000 : Int32).toInt - x2.toInt).toNat < n → ¬ x2 < 0 → V = tw_ST_valueOf_h19 b p0 n x2 → ∀ ls : Array Slot, lv_has ls 3 [(0, .ref aS), (1, .int p0), (2, .int x2)] → W p l e ({ frames := 0, cells := 0, slots := 0, locals := 0 }) s m args below meth c s.heap [] 0 0 (MQ below (vp_Si (fun r => r = V)) args s 0 0 (fun _ => False)) (F0 m 19 ls []) := by
  obtain ⟨hx, hb, hml, hr, hown, hlocks, hT⟩ := id C0
  have hK := hk.1
  have hN := hk.2.1
  intro n
  induction n with
  | zero =>
    intro x2 hm
    exact absurd hm (Nat.not_lt_zero _)
  | succ n ih =>
    intro x2 hm hv1 hV ls hl
    refine lv_iload_n hx hb d_ST_valueOf_19 rfl (lv_at hl 2 rfl) ?_
    refine lv_aload_n hx hb d_ST_valueOf_20 rfl (lv_at hl 0 rfl) ?_
    refine va_get (D := D) (ci := 0) (v := .ref aB) (C := R_ST) (T := T_ST) (N := 1) hx hb hT u_ST hown hK hP 0 rfl rfl 0 (by decide) (hT _ k_37) (fun _ h9 => h9) rfl d_ST_valueOf_21 ?_
    refine va_alen (v := 202000) hx hb hK hP 1 0 rfl rfl rfl d_ST_valueOf_24 ?_
    refine lv_icmp_ge (tgt := 59) hx hb d_ST_valueOf_25 (by decide) (fun c_3 => ?_) (fun c_3 => ?_)
    · refine lv_iconst (v := 0) hx hb d_ST_valueOf_59 (by decide) ?_
      exact W.iret (v := 0) hx hb hr (fun t ht hW => ⟨0, rfl, (by rw [hV, tw_ST_valueOf_h19, if_pos c_3]; first | done | rfl), ht⟩) (fun _ h => by cases h) d_ST_valueOf_60
    · refine lv_aload_n hx hb d_ST_valueOf_28 rfl (lv_at hl 0 rfl) ?_
      refine va_get (D := D) (ci := 0) (v := .ref aB) (C := R_ST) (T := T_ST) (N := 1) hx hb hT u_ST hown hK hP 0 rfl rfl 0 (by decide) (hT _ k_37) (fun _ h9 => h9) rfl d_ST_valueOf_29 ?_
      refine lv_iload_n hx hb d_ST_valueOf_32 rfl (lv_at hl 2 rfl) ?_
      refine va_bald hx hb hK hP 1 0 rfl rfl (in_nn hv1 c_3 rfl) d_ST_valueOf_33 ?_
      refine lv_if_ne (tgt := 53) hx hb d_ST_valueOf_34 (by decide) (fun c_4 => ?_) (fun c_4 => ?_)
      · refine lv_iinc (v := x2 + 1) (lv' := [(2, .int (x2 + 1)), (0, .ref aS), (1, .int p0)]) hx hb d_ST_valueOf_53 hl (k := 2) rfl rfl (by decide) rfl (fun ls hl => ?_)
        refine lv_goto (tgt := 19) hx hb d_ST_valueOf_56 (by decide) ?_
        exact ih (x2 + 1) (lp_up hm c_3) (i_upn hv1 c_3) (by rw [hV, tw_ST_valueOf_h19, if_neg c_3, if_neg c_4]) ls (lv_sub hl [1, 2, 0] rfl)
      · refine lv_iload_n hx hb d_ST_valueOf_37 rfl (lv_at hl 2 rfl) ?_
        refine lv_iconst (v := 1) hx hb d_ST_valueOf_38 (by decide) ?_
        refine lv_iadd hx hb d_ST_valueOf_39 ?_
        refine lv_iconst (v := 5) hx hb d_ST_valueOf_40 (by decide) ?_
        refine lv_ishl hx hb d_ST_valueOf_41 ?_
        refine lv_aload_n hx hb d_ST_valueOf_42 rfl (lv_at hl 0 rfl) ?_
        refine va_get (D := D) (ci := 0) (v := .ref aB) (C := R_ST) (T := T_ST) (N := 1) hx hb hT u_ST hown hK hP 0 rfl rfl 0 (by decide) (hT _ k_37) (fun _ h9 => h9) rfl d_ST_valueOf_43 ?_
        refine lv_iload_n hx hb d_ST_valueOf_46 rfl (lv_at hl 1 rfl) ?_
        refine va_bald hx hb hK hP 1 0 rfl rfl (in_np hf1 hf2 rfl) d_ST_valueOf_47 ?_
        refine lv_bipush (v := 31) hx hb d_ST_valueOf_48 (by decide) ?_
        refine lv_iand hx hb d_ST_valueOf_50 ?_
        refine lv_ior hx hb d_ST_valueOf_51 ?_
        exact W.iret (v := ((x2 + 1) <<< ((5 : Int32) &&& 31)) ||| ((by_ b p0.toNatClampNeg) &&& 31)) hx hb hr (fun t ht hW => ⟨((x2 + 1) <<< ((5 : Int32) &&& 31)) ||| ((by_ b p0.toNatClampNeg) &&& 31), rfl, (by rw [hV, tw_ST_valueOf_h19, if_neg c_3, if_pos c_4]; first | done | rfl), ht⟩) (fun _ h => by cases h) d_ST_valueOf_52
set_option maxHeartbeats 4000000 in
set_option maxRecDepth 100000 in
theorem c_ST_valueOf (l : Launch) (D : va_G) (cB cI : ClassId) (aS aB : Nat) (b : Nat → UInt8) (p0 : Int32) : Met l y_ST_valueOf mw_ST_valueOf { frames := 0, cells := 0, slots := 0, locals := 0 } (va_Pc [.ref aS, .int p0] (fun U => va_P D vwCl [(aS, .inr (0, [.ref aB])), (aB, .inl (cB, 202000, .inl (by_ b)))] U.heap ∧ hk_ D cB cI U)) (vp_Si (fun r => r = tw_ST_valueOf b p0)) 0 0 (fun _ => False) := by
  refine Met.ofW (cc := b_ST_valueOf) (maxL := 3) (ret := (some .int)) (by decide) rfl ?_
  intro p e s m args below meth c s₁ B0 hml hv
  obtain ⟨rfl, hP, hk⟩ := hv
  have hK := hk.1
  have hN := hk.2.1
  have hx := B0.exec
  have hb := B0.bytes
  have hr := B0.returns
  have hT : ∀ w ∈ lw_g, w.before _ s = true := fun w h => atoms_spec (ws := mw_ST_valueOf) B0.pre w (List.mem_cons_of_mem _ h)
  have hown : s.vm.findClass R_ST = some m.cls := findClass_of_methodNamed B0.named
  have hlocks := B0.notSynchronized
  have hl := lv_entry ([.ref aS, .int p0]) (n := 3) (Nat.le_of_ble_eq_true rfl)
  rw [lg_entry_eq]
  generalize (lg_sl ([.ref aS, .int p0]) ++ List.replicate (3 - (lg_sl ([.ref aS, .int p0])).length) Slot.unset).toArray = ls at hl ⊢
  have hl : lv_has ls 3 [(0, .ref aS), (1, .int p0)] := hl
  have C0 : lc_C p s m meth c _ b_ST_valueOf 3 (some .int) R_ST lw_g := ⟨hx, hb, hml, hr, hown, hlocks, hT⟩
  refine lv_iload_n hx hb d_ST_valueOf_0 rfl (lv_at hl 1 rfl) ?_
  refine lv_if_lt (tgt := 13) hx hb d_ST_valueOf_1 (by decide) (fun c_1 => ?_) (fun c_1 => ?_)
  · refine lv_iconst (v := 0) hx hb d_ST_valueOf_13 (by decide) ?_
    exact W.iret (v := 0) hx hb hr (fun t ht hW => ⟨0, rfl, (by rw [tw_ST_valueOf, if_pos c_1]; first | done | rfl), ht⟩) (fun _ h => by cases h) d_ST_valueOf_14
  · refine lv_iload_n hx hb d_ST_valueOf_4 rfl (lv_at hl 1 rfl) ?_
    refine lv_aload_n hx hb d_ST_valueOf_5 rfl (lv_at hl 0 rfl) ?_
    refine va_get (D := D) (ci := 0) (v := .ref aB) (C := R_ST) (T := T_ST) (N := 1) hx hb hT u_ST hown hK hP 0 rfl rfl 0 (by decide) (hT _ k_37) (fun _ h9 => h9) rfl d_ST_valueOf_6 ?_
    refine va_alen (v := 202000) hx hb hK hP 1 0 rfl rfl rfl d_ST_valueOf_9 ?_
    refine lv_icmp_lt (tgt := 15) hx hb d_ST_valueOf_10 (by decide) (fun c_2 => ?_) (fun c_2 => ?_)
    · refine lv_iload_n hx hb d_ST_valueOf_15 rfl (lv_at hl 1 rfl) ?_
      refine lv_iconst (v := 1) hx hb d_ST_valueOf_16 (by decide) ?_
      refine lv_iadd hx hb d_ST_valueOf_17 ?_
      refine lv_istore_n (lv' := [(2, .int (p0 + 1)), (0, .ref aS), (1, .int p0)]) hx hb d_ST_valueOf_18 rfl hl (by decide) rfl (fun ls hl => ?_)
      exact l_ST_valueOf_h19 C0 l D cB cI aS aB b hP hk p0 c_1 c_2 ((((202000 : Int32).toInt - (p0 + 1).toInt).toNat) + 1) (p0 + 1) (Nat.lt_succ_self _) (i_up c_1 c_2) (by rw [tw_ST_valueOf, if_neg c_1, if_pos c_2]) ls (lv_sub hl [1, 2, 0] rfl)
    · refine lv_iconst (v := 0) hx hb d_ST_valueOf_13 (by decide) ?_
      exact W.iret (v := 0) hx hb hr (fun t ht hW => ⟨0, rfl, (by rw [tw_ST_valueOf, if_neg c_1, if_neg c_2]; first | done | rfl), ht⟩) (fun _ h => by cases h) d_ST_valueOf_14
