/-! printed by wip/gen/p34.py: the law -/
theorem k_22 : (Jvm.Cond.classLink "PipelineBeltLaw" (7 : Nat) "PipelineBelt") ∈ lw_g := lw_gm (List.mem_append_right _ (List.mem_of_getElem? (i := 22) (by decide +kernel))) rfl
theorem k_23 : (Jvm.Cond.instantiable "PipelineBelt" (8 : Nat)) ∈ lw_g := lw_gm (List.mem_append_right _ (List.mem_of_getElem? (i := 23) (by decide +kernel))) rfl
theorem k_24 : (Jvm.Cond.methodLink "PipelineBeltLaw" (9 : Nat) ({ cls := "PipelineBelt", name := "<init>", desc := "()V" } : Jvm.MethodName)) ∈ lw_g := lw_gm (List.mem_append_right _ (List.mem_of_getElem? (i := 24) (by decide +kernel))) rfl
theorem k_25 : (Jvm.Cond.instanceMethod ({ cls := "PipelineBelt", name := "<init>", desc := "()V" } : Jvm.MethodName)) ∈ lw_g := lw_gm (List.mem_append_right _ (List.mem_of_getElem? (i := 25) (by decide +kernel))) rfl
theorem k_341 : (Jvm.Cond.methodLink "PipelineBeltLaw" (13 : Nat) ({ cls := "PipelineBelt", name := "feed", desc := "(IIIII)I" } : Jvm.MethodName)) ∈ lw_g := lw_gm (List.mem_append_right _ (List.mem_of_getElem? (i := 341) (by decide +kernel))) rfl
theorem k_342 : (Jvm.Cond.instanceMethod ({ cls := "PipelineBelt", name := "feed", desc := "(IIIII)I" } : Jvm.MethodName)) ∈ lw_g := lw_gm (List.mem_append_right _ (List.mem_of_getElem? (i := 342) (by decide +kernel))) rfl
theorem k_343 : (Jvm.Cond.selects "PipelineBelt" ({ cls := "PipelineBelt", name := "feed", desc := "(IIIII)I" } : Jvm.MethodName) ({ cls := "PipelineBelt", name := "feed", desc := "(IIIII)I" } : Jvm.MethodName)) ∈ lw_g := lw_gm (List.mem_append_right _ (List.mem_of_getElem? (i := 343) (by decide +kernel))) rfl
theorem k_353 : (Jvm.Cond.methodLink "PipelineBeltLaw" (18 : Nat) ({ cls := "PipelineBelt", name := "put", desc := "(II)I" } : Jvm.MethodName)) ∈ lw_g := lw_gm (List.mem_append_right _ (List.mem_of_getElem? (i := 353) (by decide +kernel))) rfl
theorem k_354 : (Jvm.Cond.instanceMethod ({ cls := "PipelineBelt", name := "put", desc := "(II)I" } : Jvm.MethodName)) ∈ lw_g := lw_gm (List.mem_append_right _ (List.mem_of_getElem? (i := 354) (by decide +kernel))) rfl
theorem k_355 : (Jvm.Cond.selects "PipelineBelt" ({ cls := "PipelineBelt", name := "put", desc := "(II)I" } : Jvm.MethodName) ({ cls := "PipelineBelt", name := "put", desc := "(II)I" } : Jvm.MethodName)) ∈ lw_g := lw_gm (List.mem_append_right _ (List.mem_of_getElem? (i := 355) (by decide +kernel))) rfl
theorem k_463 : (Jvm.Cond.methodLink "PipelineBeltLaw" (23 : Nat) ({ cls := "PipelineBelt", name := "stage", desc := "(I)I" } : Jvm.MethodName)) ∈ lw_g := lw_gm (List.mem_append_right _ (List.mem_of_getElem? (i := 463) (by decide +kernel))) rfl
theorem k_464 : (Jvm.Cond.instanceMethod ({ cls := "PipelineBelt", name := "stage", desc := "(I)I" } : Jvm.MethodName)) ∈ lw_g := lw_gm (List.mem_append_right _ (List.mem_of_getElem? (i := 464) (by decide +kernel))) rfl
theorem k_465 : (Jvm.Cond.selects "PipelineBelt" ({ cls := "PipelineBelt", name := "stage", desc := "(I)I" } : Jvm.MethodName) ({ cls := "PipelineBelt", name := "stage", desc := "(I)I" } : Jvm.MethodName)) ∈ lw_g := lw_gm (List.mem_append_right _ (List.mem_of_getElem? (i := 465) (by decide +kernel))) rfl
theorem k_1009 : (Jvm.Cond.methodLink "PipelineBeltLaw" (28 : Nat) ({ cls := "PipelineBelt", name := "many", desc := "(II)I" } : Jvm.MethodName)) ∈ lw_g := lw_gm (List.mem_append_right _ (List.mem_of_getElem? (i := 1009) (by decide +kernel))) rfl
theorem k_1010 : (Jvm.Cond.instanceMethod ({ cls := "PipelineBelt", name := "many", desc := "(II)I" } : Jvm.MethodName)) ∈ lw_g := lw_gm (List.mem_append_right _ (List.mem_of_getElem? (i := 1010) (by decide +kernel))) rfl
theorem k_1011 : (Jvm.Cond.selects "PipelineBelt" ({ cls := "PipelineBelt", name := "many", desc := "(II)I" } : Jvm.MethodName) ({ cls := "PipelineBelt", name := "many", desc := "(II)I" } : Jvm.MethodName)) ∈ lw_g := lw_gm (List.mem_append_right _ (List.mem_of_getElem? (i := 1011) (by decide +kernel))) rfl
theorem k_1014 : (Jvm.Cond.methodLink "PipelineBeltLaw" (32 : Nat) ({ cls := "PipelineBelt", name := "size", desc := "(II)I" } : Jvm.MethodName)) ∈ lw_g := lw_gm (List.mem_append_right _ (List.mem_of_getElem? (i := 1014) (by decide +kernel))) rfl
theorem k_1015 : (Jvm.Cond.instanceMethod ({ cls := "PipelineBelt", name := "size", desc := "(II)I" } : Jvm.MethodName)) ∈ lw_g := lw_gm (List.mem_append_right _ (List.mem_of_getElem? (i := 1015) (by decide +kernel))) rfl
theorem k_1016 : (Jvm.Cond.selects "PipelineBelt" ({ cls := "PipelineBelt", name := "size", desc := "(II)I" } : Jvm.MethodName) ({ cls := "PipelineBelt", name := "size", desc := "(II)I" } : Jvm.MethodName)) ∈ lw_g := lw_gm (List.mem_append_right _ (List.mem_of_getElem? (i := 1016) (by decide +kernel))) rfl
theorem k_1019 : (Jvm.Cond.methodLink "PipelineBeltLaw" (36 : Nat) ({ cls := "PipelineBelt", name := "byteAt", desc := "(III)I" } : Jvm.MethodName)) ∈ lw_g := lw_gm (List.mem_append_right _ (List.mem_of_getElem? (i := 1019) (by decide +kernel))) rfl
theorem k_1020 : (Jvm.Cond.instanceMethod ({ cls := "PipelineBelt", name := "byteAt", desc := "(III)I" } : Jvm.MethodName)) ∈ lw_g := lw_gm (List.mem_append_right _ (List.mem_of_getElem? (i := 1020) (by decide +kernel))) rfl
theorem k_1021 : (Jvm.Cond.selects "PipelineBelt" ({ cls := "PipelineBelt", name := "byteAt", desc := "(III)I" } : Jvm.MethodName) ({ cls := "PipelineBelt", name := "byteAt", desc := "(III)I" } : Jvm.MethodName)) ∈ lw_g := lw_gm (List.mem_append_right _ (List.mem_of_getElem? (i := 1021) (by decide +kernel))) rfl
theorem k_1024 : (Jvm.Cond.methodLink "PipelineBeltLaw" (41 : Nat) ({ cls := "PipelineBelt", name := "clear", desc := "(I)I" } : Jvm.MethodName)) ∈ lw_g := lw_gm (List.mem_append_right _ (List.mem_of_getElem? (i := 1024) (by decide +kernel))) rfl
theorem k_1025 : (Jvm.Cond.instanceMethod ({ cls := "PipelineBelt", name := "clear", desc := "(I)I" } : Jvm.MethodName)) ∈ lw_g := lw_gm (List.mem_append_right _ (List.mem_of_getElem? (i := 1025) (by decide +kernel))) rfl
theorem k_1026 : (Jvm.Cond.selects "PipelineBelt" ({ cls := "PipelineBelt", name := "clear", desc := "(I)I" } : Jvm.MethodName) ({ cls := "PipelineBelt", name := "clear", desc := "(I)I" } : Jvm.MethodName)) ∈ lw_g := lw_gm (List.mem_append_right _ (List.mem_of_getElem? (i := 1026) (by decide +kernel))) rfl
theorem k_1028 : (Jvm.Cond.methodLink "PipelineBeltLaw" (45 : Nat) ({ cls := "PipelineBelt", name := "swap", desc := "()V" } : Jvm.MethodName)) ∈ lw_g := lw_gm (List.mem_append_right _ (List.mem_of_getElem? (i := 1028) (by decide +kernel))) rfl
theorem k_1029 : (Jvm.Cond.instanceMethod ({ cls := "PipelineBelt", name := "swap", desc := "()V" } : Jvm.MethodName)) ∈ lw_g := lw_gm (List.mem_append_right _ (List.mem_of_getElem? (i := 1029) (by decide +kernel))) rfl
theorem k_1030 : (Jvm.Cond.selects "PipelineBelt" ({ cls := "PipelineBelt", name := "swap", desc := "()V" } : Jvm.MethodName) ({ cls := "PipelineBelt", name := "swap", desc := "()V" } : Jvm.MethodName)) ∈ lw_g := lw_gm (List.mem_append_right _ (List.mem_of_getElem? (i := 1030) (by decide +kernel))) rfl
theorem k_1036 : (Jvm.Cond.classLink "PipelineBeltLaw" (10 : Nat) "PipelineBeltModel") ∈ lw_g := lw_gm (List.mem_append_right _ (List.mem_of_getElem? (i := 1036) (by decide +kernel))) rfl
theorem k_1037 : (Jvm.Cond.instantiable "PipelineBeltModel" (29 : Nat)) ∈ lw_g := lw_gm (List.mem_append_right _ (List.mem_of_getElem? (i := 1037) (by decide +kernel))) rfl
theorem k_1038 : (Jvm.Cond.methodLink "PipelineBeltLaw" (12 : Nat) ({ cls := "PipelineBeltModel", name := "<init>", desc := "()V" } : Jvm.MethodName)) ∈ lw_g := lw_gm (List.mem_append_right _ (List.mem_of_getElem? (i := 1038) (by decide +kernel))) rfl
theorem k_1039 : (Jvm.Cond.instanceMethod ({ cls := "PipelineBeltModel", name := "<init>", desc := "()V" } : Jvm.MethodName)) ∈ lw_g := lw_gm (List.mem_append_right _ (List.mem_of_getElem? (i := 1039) (by decide +kernel))) rfl
theorem k_1131 : (Jvm.Cond.methodLink "PipelineBeltLaw" (17 : Nat) ({ cls := "PipelineBeltModel", name := "feed", desc := "(IIIII)I" } : Jvm.MethodName)) ∈ lw_g := lw_gm (List.mem_append_right _ (List.mem_of_getElem? (i := 1131) (by decide +kernel))) rfl
theorem k_1132 : (Jvm.Cond.instanceMethod ({ cls := "PipelineBeltModel", name := "feed", desc := "(IIIII)I" } : Jvm.MethodName)) ∈ lw_g := lw_gm (List.mem_append_right _ (List.mem_of_getElem? (i := 1132) (by decide +kernel))) rfl
theorem k_1133 : (Jvm.Cond.selects "PipelineBeltModel" ({ cls := "PipelineBeltModel", name := "feed", desc := "(IIIII)I" } : Jvm.MethodName) ({ cls := "PipelineBeltModel", name := "feed", desc := "(IIIII)I" } : Jvm.MethodName)) ∈ lw_g := lw_gm (List.mem_append_right _ (List.mem_of_getElem? (i := 1133) (by decide +kernel))) rfl
theorem k_1140 : (Jvm.Cond.methodLink "PipelineBeltLaw" (22 : Nat) ({ cls := "PipelineBeltModel", name := "put", desc := "(II)I" } : Jvm.MethodName)) ∈ lw_g := lw_gm (List.mem_append_right _ (List.mem_of_getElem? (i := 1140) (by decide +kernel))) rfl
theorem k_1141 : (Jvm.Cond.instanceMethod ({ cls := "PipelineBeltModel", name := "put", desc := "(II)I" } : Jvm.MethodName)) ∈ lw_g := lw_gm (List.mem_append_right _ (List.mem_of_getElem? (i := 1141) (by decide +kernel))) rfl
theorem k_1142 : (Jvm.Cond.selects "PipelineBeltModel" ({ cls := "PipelineBeltModel", name := "put", desc := "(II)I" } : Jvm.MethodName) ({ cls := "PipelineBeltModel", name := "put", desc := "(II)I" } : Jvm.MethodName)) ∈ lw_g := lw_gm (List.mem_append_right _ (List.mem_of_getElem? (i := 1142) (by decide +kernel))) rfl
theorem k_1191 : (Jvm.Cond.methodLink "PipelineBeltLaw" (27 : Nat) ({ cls := "PipelineBeltModel", name := "stage", desc := "(I)I" } : Jvm.MethodName)) ∈ lw_g := lw_gm (List.mem_append_right _ (List.mem_of_getElem? (i := 1191) (by decide +kernel))) rfl
theorem k_1192 : (Jvm.Cond.instanceMethod ({ cls := "PipelineBeltModel", name := "stage", desc := "(I)I" } : Jvm.MethodName)) ∈ lw_g := lw_gm (List.mem_append_right _ (List.mem_of_getElem? (i := 1192) (by decide +kernel))) rfl
theorem k_1193 : (Jvm.Cond.selects "PipelineBeltModel" ({ cls := "PipelineBeltModel", name := "stage", desc := "(I)I" } : Jvm.MethodName) ({ cls := "PipelineBeltModel", name := "stage", desc := "(I)I" } : Jvm.MethodName)) ∈ lw_g := lw_gm (List.mem_append_right _ (List.mem_of_getElem? (i := 1193) (by decide +kernel))) rfl
theorem k_1480 : (Jvm.Cond.methodLink "PipelineBeltLaw" (31 : Nat) ({ cls := "PipelineBeltModel", name := "many", desc := "(II)I" } : Jvm.MethodName)) ∈ lw_g := lw_gm (List.mem_append_right _ (List.mem_of_getElem? (i := 1480) (by decide +kernel))) rfl
theorem k_1481 : (Jvm.Cond.instanceMethod ({ cls := "PipelineBeltModel", name := "many", desc := "(II)I" } : Jvm.MethodName)) ∈ lw_g := lw_gm (List.mem_append_right _ (List.mem_of_getElem? (i := 1481) (by decide +kernel))) rfl
theorem k_1482 : (Jvm.Cond.selects "PipelineBeltModel" ({ cls := "PipelineBeltModel", name := "many", desc := "(II)I" } : Jvm.MethodName) ({ cls := "PipelineBeltModel", name := "many", desc := "(II)I" } : Jvm.MethodName)) ∈ lw_g := lw_gm (List.mem_append_right _ (List.mem_of_getElem? (i := 1482) (by decide +kernel))) rfl
theorem k_1484 : (Jvm.Cond.methodLink "PipelineBeltLaw" (35 : Nat) ({ cls := "PipelineBeltModel", name := "size", desc := "(II)I" } : Jvm.MethodName)) ∈ lw_g := lw_gm (List.mem_append_right _ (List.mem_of_getElem? (i := 1484) (by decide +kernel))) rfl
theorem k_1485 : (Jvm.Cond.instanceMethod ({ cls := "PipelineBeltModel", name := "size", desc := "(II)I" } : Jvm.MethodName)) ∈ lw_g := lw_gm (List.mem_append_right _ (List.mem_of_getElem? (i := 1485) (by decide +kernel))) rfl
theorem k_1486 : (Jvm.Cond.selects "PipelineBeltModel" ({ cls := "PipelineBeltModel", name := "size", desc := "(II)I" } : Jvm.MethodName) ({ cls := "PipelineBeltModel", name := "size", desc := "(II)I" } : Jvm.MethodName)) ∈ lw_g := lw_gm (List.mem_append_right _ (List.mem_of_getElem? (i := 1486) (by decide +kernel))) rfl
theorem k_1492 : (Jvm.Cond.methodLink "PipelineBeltLaw" (40 : Nat) ({ cls := "PipelineBeltModel", name := "byteAt", desc := "(III)I" } : Jvm.MethodName)) ∈ lw_g := lw_gm (List.mem_append_right _ (List.mem_of_getElem? (i := 1492) (by decide +kernel))) rfl
theorem k_1493 : (Jvm.Cond.instanceMethod ({ cls := "PipelineBeltModel", name := "byteAt", desc := "(III)I" } : Jvm.MethodName)) ∈ lw_g := lw_gm (List.mem_append_right _ (List.mem_of_getElem? (i := 1493) (by decide +kernel))) rfl
theorem k_1494 : (Jvm.Cond.selects "PipelineBeltModel" ({ cls := "PipelineBeltModel", name := "byteAt", desc := "(III)I" } : Jvm.MethodName) ({ cls := "PipelineBeltModel", name := "byteAt", desc := "(III)I" } : Jvm.MethodName)) ∈ lw_g := lw_gm (List.mem_append_right _ (List.mem_of_getElem? (i := 1494) (by decide +kernel))) rfl
theorem k_1496 : (Jvm.Cond.methodLink "PipelineBeltLaw" (44 : Nat) ({ cls := "PipelineBeltModel", name := "clear", desc := "(I)I" } : Jvm.MethodName)) ∈ lw_g := lw_gm (List.mem_append_right _ (List.mem_of_getElem? (i := 1496) (by decide +kernel))) rfl
theorem k_1497 : (Jvm.Cond.instanceMethod ({ cls := "PipelineBeltModel", name := "clear", desc := "(I)I" } : Jvm.MethodName)) ∈ lw_g := lw_gm (List.mem_append_right _ (List.mem_of_getElem? (i := 1497) (by decide +kernel))) rfl
theorem k_1498 : (Jvm.Cond.selects "PipelineBeltModel" ({ cls := "PipelineBeltModel", name := "clear", desc := "(I)I" } : Jvm.MethodName) ({ cls := "PipelineBeltModel", name := "clear", desc := "(I)I" } : Jvm.MethodName)) ∈ lw_g := lw_gm (List.mem_append_right _ (List.mem_of_getElem? (i := 1498) (by decide +kernel))) rfl
theorem k_1500 : (Jvm.Cond.methodLink "PipelineBeltLaw" (48 : Nat) ({ cls := "PipelineBeltModel", name := "swap", desc := "()V" } : Jvm.MethodName)) ∈ lw_g := lw_gm (List.mem_append_right _ (List.mem_of_getElem? (i := 1500) (by decide +kernel))) rfl
theorem k_1501 : (Jvm.Cond.instanceMethod ({ cls := "PipelineBeltModel", name := "swap", desc := "()V" } : Jvm.MethodName)) ∈ lw_g := lw_gm (List.mem_append_right _ (List.mem_of_getElem? (i := 1501) (by decide +kernel))) rfl
theorem k_1502 : (Jvm.Cond.selects "PipelineBeltModel" ({ cls := "PipelineBeltModel", name := "swap", desc := "()V" } : Jvm.MethodName) ({ cls := "PipelineBeltModel", name := "swap", desc := "()V" } : Jvm.MethodName)) ∈ lw_g := lw_gm (List.mem_append_right _ (List.mem_of_getElem? (i := 1502) (by decide +kernel))) rfl
/-! THE CLAIM OUT OF ONE WALK OF THE LAW'S BODY. Your part is whole_start (and what it stands on); all else here is the same for every law, but numbers. -/
def R_law : String := "PipelineBeltLaw"
def lw_P (b : Addr) (xs : List Int32) (args : Array Value) (s : State) : Prop := args = #[.ref b] ∧ s.IntsAt b xs ∧ xs.length ≤ 3072 ∧ (Jvm.Cond.and given_1 narrow_1).before args s = true
def lw_Q (_ : Array Value) (s : State) (o : Outcome) (t : State) : Prop := o = .returned (some (.int 1)) ∧ Framed s o t [] 600000 7302249
def lw_Z (below : List Frame) (a : Array Value) (s : State) : State → Prop := fun t => ∃ o, t.status = .running ∧ Ended t below o ∧ lw_Q a s o t
/-- the law's own end, with 1 on the stack, nothing written that was there before, its room as the claim has it -/
theorem lw_ret {p : Program} {l : Launch} {e : Env} {s : State} {m : MethodId} {below : List Frame} {meth : Method} {c : Code} {b : Nat} (hx : p.tables.exec = Jvm.exec) (hb : c.code = code) (hr : meth.sig.returnType = ret) (hlocks : meth.locks = false) {pc : Nat} {H : Heap} {ls : Array Slot} (hdg : decode code pc = .ok (.ireturn, 1)) : W p l e room_1 s m #[Value.ref b] below meth c H [] 600000 7302249 (lw_Z below #[Value.ref b] s) (F0 m pc ls [.int 1]) := by
  intro T hT X
  obtain ⟨fs, hret, hrun, hended, hW, hframe⟩ := X.leave (v := some (.int 1)) (hlocks := hlocks) (fun h => by rw [hr] at h; cases h)
  have hmeth' : T.vm.method? m = some meth := X.method'
  refine ⟨T.setFrames fs, ?_, .returned (some (.int 1)), hrun, hended, rfl, ⟨_, rfl⟩, hW, hframe⟩
  jvm_step X.here [X.here.top, hx, hb, hdg, hmeth', hr, ret, narrow_b1]
  (try refine ⟨rfl, ?_⟩); (try refine ⟨rfl, ?_⟩)
  first | (intro acts; rw [hret _ acts rfl rfl rfl]) | rw [hret _ _ rfl rfl rfl]
  exact Steps.refl _
/-- what holds at the law's entry: the machine, the code, the tables' words (any of lw_tbl by 'hts w (by decide +kernel)'), the script of L ints xs at the cell b, what the Statement gives of the start (any of its parts by flat_of_before) -/
def lw_At (p : Program) (s : State) (m : MethodId) (meth : Method) (c : Code) (b L : Nat) (xs : Nat → Int32) : Prop :=
  p.tables.exec = Jvm.exec ∧ c.code = code ∧ meth.sig.returnType = ret ∧ c.maxLocals = 4 ∧ s.vm.findClass R_law = some m.cls ∧ (∀ w ∈ lw_tbl, w.before #[Value.ref b] s = true) ∧ va_X b L xs s s.heap ∧ b < s.heap.size ∧ meth.locks = false ∧ (Jvm.Cond.and given_1 narrow_1).before #[Value.ref b] s = true
theorem d_law_0 : decode code 0 = .ok (.new 7, 3) := by decide +kernel
theorem d_law_3 : decode code 3 = .ok (.dup, 1) := by decide +kernel
theorem d_law_4 : decode code 4 = .ok (.invokespecial 9, 3) := by decide +kernel
theorem d_law_7 : decode code 7 = .ok (.astore_n 1, 1) := by decide +kernel
theorem d_law_8 : decode code 8 = .ok (.new 10, 3) := by decide +kernel
theorem d_law_11 : decode code 11 = .ok (.dup, 1) := by decide +kernel
theorem d_law_12 : decode code 12 = .ok (.invokespecial 12, 3) := by decide +kernel
theorem d_law_15 : decode code 15 = .ok (.astore_n 2, 1) := by decide +kernel
theorem d_law_16 : decode code 16 = .ok (.iconst 0, 1) := by decide +kernel
theorem d_law_17 : decode code 17 = .ok (.istore_n 3, 1) := by decide +kernel
theorem d_law_18 : decode code 18 = .ok (.iload_n 3, 1) := by decide +kernel
theorem d_law_19 : decode code 19 = .ok (.aload_n 0, 1) := by decide +kernel
theorem d_law_20 : decode code 20 = .ok (.arraylength, 1) := by decide +kernel
theorem d_law_21 : decode code 21 = .ok (.bipush 6, 2) := by decide +kernel
theorem d_law_23 : decode code 23 = .ok (.isub, 1) := by decide +kernel
theorem d_law_24 : decode code 24 = .ok (.if_icmp .gt 324, 3) := by decide +kernel
theorem d_law_27 : decode code 27 = .ok (.aload_n 0, 1) := by decide +kernel
theorem d_law_28 : decode code 28 = .ok (.iload_n 3, 1) := by decide +kernel
theorem d_law_29 : decode code 29 = .ok (.iaload, 1) := by decide +kernel
theorem d_law_30 : decode code 30 = .ok (.bipush 7, 2) := by decide +kernel
theorem d_law_32 : decode code 32 = .ok (.iand, 1) := by decide +kernel
theorem d_law_33 : decode code 33 = .ok (.tableswitch 309 0 7 #[47, 110, 143, 166, 199, 232, 275, 298], 47) := by decide +kernel
theorem d_law_80 : decode code 80 = .ok (.aload_n 1, 1) := by decide +kernel
theorem d_law_81 : decode code 81 = .ok (.aload_n 0, 1) := by decide +kernel
theorem d_law_82 : decode code 82 = .ok (.iload_n 3, 1) := by decide +kernel
theorem d_law_83 : decode code 83 = .ok (.iconst 1, 1) := by decide +kernel
theorem d_law_84 : decode code 84 = .ok (.iadd, 1) := by decide +kernel
theorem d_law_85 : decode code 85 = .ok (.iaload, 1) := by decide +kernel
theorem d_law_86 : decode code 86 = .ok (.aload_n 0, 1) := by decide +kernel
theorem d_law_87 : decode code 87 = .ok (.iload_n 3, 1) := by decide +kernel
theorem d_law_88 : decode code 88 = .ok (.iconst 2, 1) := by decide +kernel
theorem d_law_89 : decode code 89 = .ok (.iadd, 1) := by decide +kernel
theorem d_law_90 : decode code 90 = .ok (.iaload, 1) := by decide +kernel
theorem d_law_91 : decode code 91 = .ok (.aload_n 0, 1) := by decide +kernel
theorem d_law_92 : decode code 92 = .ok (.iload_n 3, 1) := by decide +kernel
theorem d_law_93 : decode code 93 = .ok (.iconst 3, 1) := by decide +kernel
theorem d_law_94 : decode code 94 = .ok (.iadd, 1) := by decide +kernel
theorem d_law_95 : decode code 95 = .ok (.iaload, 1) := by decide +kernel
theorem d_law_96 : decode code 96 = .ok (.aload_n 0, 1) := by decide +kernel
theorem d_law_97 : decode code 97 = .ok (.iload_n 3, 1) := by decide +kernel
theorem d_law_98 : decode code 98 = .ok (.iconst 4, 1) := by decide +kernel
theorem d_law_99 : decode code 99 = .ok (.iadd, 1) := by decide +kernel
theorem d_law_100 : decode code 100 = .ok (.iaload, 1) := by decide +kernel
theorem d_law_101 : decode code 101 = .ok (.aload_n 0, 1) := by decide +kernel
theorem d_law_102 : decode code 102 = .ok (.iload_n 3, 1) := by decide +kernel
theorem d_law_103 : decode code 103 = .ok (.iconst 5, 1) := by decide +kernel
theorem d_law_104 : decode code 104 = .ok (.iadd, 1) := by decide +kernel
theorem d_law_105 : decode code 105 = .ok (.iaload, 1) := by decide +kernel
theorem d_law_106 : decode code 106 = .ok (.invokevirtual 13, 3) := by decide +kernel
theorem d_law_109 : decode code 109 = .ok (.aload_n 2, 1) := by decide +kernel
theorem d_law_110 : decode code 110 = .ok (.aload_n 0, 1) := by decide +kernel
theorem d_law_111 : decode code 111 = .ok (.iload_n 3, 1) := by decide +kernel
theorem d_law_112 : decode code 112 = .ok (.iconst 1, 1) := by decide +kernel
theorem d_law_113 : decode code 113 = .ok (.iadd, 1) := by decide +kernel
theorem d_law_114 : decode code 114 = .ok (.iaload, 1) := by decide +kernel
theorem d_law_115 : decode code 115 = .ok (.aload_n 0, 1) := by decide +kernel
theorem d_law_116 : decode code 116 = .ok (.iload_n 3, 1) := by decide +kernel
theorem d_law_117 : decode code 117 = .ok (.iconst 2, 1) := by decide +kernel
theorem d_law_118 : decode code 118 = .ok (.iadd, 1) := by decide +kernel
theorem d_law_119 : decode code 119 = .ok (.iaload, 1) := by decide +kernel
theorem d_law_120 : decode code 120 = .ok (.aload_n 0, 1) := by decide +kernel
theorem d_law_121 : decode code 121 = .ok (.iload_n 3, 1) := by decide +kernel
theorem d_law_122 : decode code 122 = .ok (.iconst 3, 1) := by decide +kernel
theorem d_law_123 : decode code 123 = .ok (.iadd, 1) := by decide +kernel
theorem d_law_124 : decode code 124 = .ok (.iaload, 1) := by decide +kernel
theorem d_law_125 : decode code 125 = .ok (.aload_n 0, 1) := by decide +kernel
theorem d_law_126 : decode code 126 = .ok (.iload_n 3, 1) := by decide +kernel
theorem d_law_127 : decode code 127 = .ok (.iconst 4, 1) := by decide +kernel
theorem d_law_128 : decode code 128 = .ok (.iadd, 1) := by decide +kernel
theorem d_law_129 : decode code 129 = .ok (.iaload, 1) := by decide +kernel
theorem d_law_130 : decode code 130 = .ok (.aload_n 0, 1) := by decide +kernel
theorem d_law_131 : decode code 131 = .ok (.iload_n 3, 1) := by decide +kernel
theorem d_law_132 : decode code 132 = .ok (.iconst 5, 1) := by decide +kernel
theorem d_law_133 : decode code 133 = .ok (.iadd, 1) := by decide +kernel
theorem d_law_134 : decode code 134 = .ok (.iaload, 1) := by decide +kernel
theorem d_law_135 : decode code 135 = .ok (.invokevirtual 17, 3) := by decide +kernel
theorem d_law_138 : decode code 138 = .ok (.if_icmp .eq 204, 3) := by decide +kernel
theorem d_law_141 : decode code 141 = .ok (.iconst 0, 1) := by decide +kernel
theorem d_law_142 : decode code 142 = .ok (.ireturn, 1) := by decide +kernel
theorem d_law_143 : decode code 143 = .ok (.aload_n 1, 1) := by decide +kernel
theorem d_law_144 : decode code 144 = .ok (.aload_n 0, 1) := by decide +kernel
theorem d_law_145 : decode code 145 = .ok (.iload_n 3, 1) := by decide +kernel
theorem d_law_146 : decode code 146 = .ok (.iconst 1, 1) := by decide +kernel
theorem d_law_147 : decode code 147 = .ok (.iadd, 1) := by decide +kernel
theorem d_law_148 : decode code 148 = .ok (.iaload, 1) := by decide +kernel
theorem d_law_149 : decode code 149 = .ok (.aload_n 0, 1) := by decide +kernel
theorem d_law_150 : decode code 150 = .ok (.iload_n 3, 1) := by decide +kernel
theorem d_law_151 : decode code 151 = .ok (.iconst 2, 1) := by decide +kernel
theorem d_law_152 : decode code 152 = .ok (.iadd, 1) := by decide +kernel
theorem d_law_153 : decode code 153 = .ok (.iaload, 1) := by decide +kernel
theorem d_law_154 : decode code 154 = .ok (.invokevirtual 18, 3) := by decide +kernel
theorem d_law_157 : decode code 157 = .ok (.aload_n 2, 1) := by decide +kernel
theorem d_law_158 : decode code 158 = .ok (.aload_n 0, 1) := by decide +kernel
theorem d_law_159 : decode code 159 = .ok (.iload_n 3, 1) := by decide +kernel
theorem d_law_160 : decode code 160 = .ok (.iconst 1, 1) := by decide +kernel
theorem d_law_161 : decode code 161 = .ok (.iadd, 1) := by decide +kernel
theorem d_law_162 : decode code 162 = .ok (.iaload, 1) := by decide +kernel
theorem d_law_163 : decode code 163 = .ok (.aload_n 0, 1) := by decide +kernel
theorem d_law_164 : decode code 164 = .ok (.iload_n 3, 1) := by decide +kernel
theorem d_law_165 : decode code 165 = .ok (.iconst 2, 1) := by decide +kernel
theorem d_law_166 : decode code 166 = .ok (.iadd, 1) := by decide +kernel
theorem d_law_167 : decode code 167 = .ok (.iaload, 1) := by decide +kernel
theorem d_law_168 : decode code 168 = .ok (.invokevirtual 22, 3) := by decide +kernel
theorem d_law_171 : decode code 171 = .ok (.if_icmp .eq 171, 3) := by decide +kernel
theorem d_law_174 : decode code 174 = .ok (.iconst 0, 1) := by decide +kernel
theorem d_law_175 : decode code 175 = .ok (.ireturn, 1) := by decide +kernel
theorem d_law_176 : decode code 176 = .ok (.aload_n 1, 1) := by decide +kernel
theorem d_law_177 : decode code 177 = .ok (.aload_n 0, 1) := by decide +kernel
theorem d_law_178 : decode code 178 = .ok (.iload_n 3, 1) := by decide +kernel
theorem d_law_179 : decode code 179 = .ok (.iconst 1, 1) := by decide +kernel
theorem d_law_180 : decode code 180 = .ok (.iadd, 1) := by decide +kernel
theorem d_law_181 : decode code 181 = .ok (.iaload, 1) := by decide +kernel
theorem d_law_182 : decode code 182 = .ok (.invokevirtual 23, 3) := by decide +kernel
theorem d_law_185 : decode code 185 = .ok (.aload_n 2, 1) := by decide +kernel
theorem d_law_186 : decode code 186 = .ok (.aload_n 0, 1) := by decide +kernel
theorem d_law_187 : decode code 187 = .ok (.iload_n 3, 1) := by decide +kernel
theorem d_law_188 : decode code 188 = .ok (.iconst 1, 1) := by decide +kernel
theorem d_law_189 : decode code 189 = .ok (.iadd, 1) := by decide +kernel
theorem d_law_190 : decode code 190 = .ok (.iaload, 1) := by decide +kernel
theorem d_law_191 : decode code 191 = .ok (.invokevirtual 27, 3) := by decide +kernel
theorem d_law_194 : decode code 194 = .ok (.if_icmp .eq 148, 3) := by decide +kernel
theorem d_law_197 : decode code 197 = .ok (.iconst 0, 1) := by decide +kernel
theorem d_law_198 : decode code 198 = .ok (.ireturn, 1) := by decide +kernel
theorem d_law_199 : decode code 199 = .ok (.aload_n 1, 1) := by decide +kernel
theorem d_law_200 : decode code 200 = .ok (.aload_n 0, 1) := by decide +kernel
theorem d_law_201 : decode code 201 = .ok (.iload_n 3, 1) := by decide +kernel
theorem d_law_202 : decode code 202 = .ok (.iconst 1, 1) := by decide +kernel
theorem d_law_203 : decode code 203 = .ok (.iadd, 1) := by decide +kernel
theorem d_law_204 : decode code 204 = .ok (.iaload, 1) := by decide +kernel
theorem d_law_205 : decode code 205 = .ok (.aload_n 0, 1) := by decide +kernel
theorem d_law_206 : decode code 206 = .ok (.iload_n 3, 1) := by decide +kernel
theorem d_law_207 : decode code 207 = .ok (.iconst 2, 1) := by decide +kernel
theorem d_law_208 : decode code 208 = .ok (.iadd, 1) := by decide +kernel
theorem d_law_209 : decode code 209 = .ok (.iaload, 1) := by decide +kernel
theorem d_law_210 : decode code 210 = .ok (.invokevirtual 28, 3) := by decide +kernel
theorem d_law_213 : decode code 213 = .ok (.aload_n 2, 1) := by decide +kernel
theorem d_law_214 : decode code 214 = .ok (.aload_n 0, 1) := by decide +kernel
theorem d_law_215 : decode code 215 = .ok (.iload_n 3, 1) := by decide +kernel
theorem d_law_216 : decode code 216 = .ok (.iconst 1, 1) := by decide +kernel
theorem d_law_217 : decode code 217 = .ok (.iadd, 1) := by decide +kernel
theorem d_law_218 : decode code 218 = .ok (.iaload, 1) := by decide +kernel
theorem d_law_219 : decode code 219 = .ok (.aload_n 0, 1) := by decide +kernel
theorem d_law_220 : decode code 220 = .ok (.iload_n 3, 1) := by decide +kernel
theorem d_law_221 : decode code 221 = .ok (.iconst 2, 1) := by decide +kernel
theorem d_law_222 : decode code 222 = .ok (.iadd, 1) := by decide +kernel
theorem d_law_223 : decode code 223 = .ok (.iaload, 1) := by decide +kernel
theorem d_law_224 : decode code 224 = .ok (.invokevirtual 31, 3) := by decide +kernel
theorem d_law_227 : decode code 227 = .ok (.if_icmp .eq 115, 3) := by decide +kernel
theorem d_law_230 : decode code 230 = .ok (.iconst 0, 1) := by decide +kernel
theorem d_law_231 : decode code 231 = .ok (.ireturn, 1) := by decide +kernel
theorem d_law_232 : decode code 232 = .ok (.aload_n 1, 1) := by decide +kernel
theorem d_law_233 : decode code 233 = .ok (.aload_n 0, 1) := by decide +kernel
theorem d_law_234 : decode code 234 = .ok (.iload_n 3, 1) := by decide +kernel
theorem d_law_235 : decode code 235 = .ok (.iconst 1, 1) := by decide +kernel
theorem d_law_236 : decode code 236 = .ok (.iadd, 1) := by decide +kernel
theorem d_law_237 : decode code 237 = .ok (.iaload, 1) := by decide +kernel
theorem d_law_238 : decode code 238 = .ok (.aload_n 0, 1) := by decide +kernel
theorem d_law_239 : decode code 239 = .ok (.iload_n 3, 1) := by decide +kernel
theorem d_law_240 : decode code 240 = .ok (.iconst 2, 1) := by decide +kernel
theorem d_law_241 : decode code 241 = .ok (.iadd, 1) := by decide +kernel
theorem d_law_242 : decode code 242 = .ok (.iaload, 1) := by decide +kernel
theorem d_law_243 : decode code 243 = .ok (.invokevirtual 32, 3) := by decide +kernel
theorem d_law_246 : decode code 246 = .ok (.aload_n 2, 1) := by decide +kernel
theorem d_law_247 : decode code 247 = .ok (.aload_n 0, 1) := by decide +kernel
theorem d_law_248 : decode code 248 = .ok (.iload_n 3, 1) := by decide +kernel
theorem d_law_249 : decode code 249 = .ok (.iconst 1, 1) := by decide +kernel
theorem d_law_250 : decode code 250 = .ok (.iadd, 1) := by decide +kernel
theorem d_law_251 : decode code 251 = .ok (.iaload, 1) := by decide +kernel
theorem d_law_252 : decode code 252 = .ok (.aload_n 0, 1) := by decide +kernel
theorem d_law_253 : decode code 253 = .ok (.iload_n 3, 1) := by decide +kernel
theorem d_law_254 : decode code 254 = .ok (.iconst 2, 1) := by decide +kernel
theorem d_law_255 : decode code 255 = .ok (.iadd, 1) := by decide +kernel
theorem d_law_256 : decode code 256 = .ok (.iaload, 1) := by decide +kernel
theorem d_law_257 : decode code 257 = .ok (.invokevirtual 35, 3) := by decide +kernel
theorem d_law_260 : decode code 260 = .ok (.if_icmp .eq 82, 3) := by decide +kernel
theorem d_law_263 : decode code 263 = .ok (.iconst 0, 1) := by decide +kernel
theorem d_law_264 : decode code 264 = .ok (.ireturn, 1) := by decide +kernel
theorem d_law_265 : decode code 265 = .ok (.aload_n 1, 1) := by decide +kernel
theorem d_law_266 : decode code 266 = .ok (.aload_n 0, 1) := by decide +kernel
theorem d_law_267 : decode code 267 = .ok (.iload_n 3, 1) := by decide +kernel
theorem d_law_268 : decode code 268 = .ok (.iconst 1, 1) := by decide +kernel
theorem d_law_269 : decode code 269 = .ok (.iadd, 1) := by decide +kernel
theorem d_law_270 : decode code 270 = .ok (.iaload, 1) := by decide +kernel
theorem d_law_271 : decode code 271 = .ok (.aload_n 0, 1) := by decide +kernel
theorem d_law_272 : decode code 272 = .ok (.iload_n 3, 1) := by decide +kernel
theorem d_law_273 : decode code 273 = .ok (.iconst 2, 1) := by decide +kernel
theorem d_law_274 : decode code 274 = .ok (.iadd, 1) := by decide +kernel
theorem d_law_275 : decode code 275 = .ok (.iaload, 1) := by decide +kernel
theorem d_law_276 : decode code 276 = .ok (.aload_n 0, 1) := by decide +kernel
theorem d_law_277 : decode code 277 = .ok (.iload_n 3, 1) := by decide +kernel
theorem d_law_278 : decode code 278 = .ok (.iconst 3, 1) := by decide +kernel
theorem d_law_279 : decode code 279 = .ok (.iadd, 1) := by decide +kernel
theorem d_law_280 : decode code 280 = .ok (.iaload, 1) := by decide +kernel
theorem d_law_281 : decode code 281 = .ok (.invokevirtual 36, 3) := by decide +kernel
theorem d_law_284 : decode code 284 = .ok (.aload_n 2, 1) := by decide +kernel
theorem d_law_285 : decode code 285 = .ok (.aload_n 0, 1) := by decide +kernel
theorem d_law_286 : decode code 286 = .ok (.iload_n 3, 1) := by decide +kernel
theorem d_law_287 : decode code 287 = .ok (.iconst 1, 1) := by decide +kernel
theorem d_law_288 : decode code 288 = .ok (.iadd, 1) := by decide +kernel
theorem d_law_289 : decode code 289 = .ok (.iaload, 1) := by decide +kernel
theorem d_law_290 : decode code 290 = .ok (.aload_n 0, 1) := by decide +kernel
theorem d_law_291 : decode code 291 = .ok (.iload_n 3, 1) := by decide +kernel
theorem d_law_292 : decode code 292 = .ok (.iconst 2, 1) := by decide +kernel
theorem d_law_293 : decode code 293 = .ok (.iadd, 1) := by decide +kernel
theorem d_law_294 : decode code 294 = .ok (.iaload, 1) := by decide +kernel
theorem d_law_295 : decode code 295 = .ok (.aload_n 0, 1) := by decide +kernel
theorem d_law_296 : decode code 296 = .ok (.iload_n 3, 1) := by decide +kernel
theorem d_law_297 : decode code 297 = .ok (.iconst 3, 1) := by decide +kernel
theorem d_law_298 : decode code 298 = .ok (.iadd, 1) := by decide +kernel
theorem d_law_299 : decode code 299 = .ok (.iaload, 1) := by decide +kernel
theorem d_law_300 : decode code 300 = .ok (.invokevirtual 40, 3) := by decide +kernel
theorem d_law_303 : decode code 303 = .ok (.if_icmp .eq 39, 3) := by decide +kernel
theorem d_law_306 : decode code 306 = .ok (.iconst 0, 1) := by decide +kernel
theorem d_law_307 : decode code 307 = .ok (.ireturn, 1) := by decide +kernel
theorem d_law_308 : decode code 308 = .ok (.aload_n 1, 1) := by decide +kernel
theorem d_law_309 : decode code 309 = .ok (.aload_n 0, 1) := by decide +kernel
theorem d_law_310 : decode code 310 = .ok (.iload_n 3, 1) := by decide +kernel
theorem d_law_311 : decode code 311 = .ok (.iconst 1, 1) := by decide +kernel
theorem d_law_312 : decode code 312 = .ok (.iadd, 1) := by decide +kernel
theorem d_law_313 : decode code 313 = .ok (.iaload, 1) := by decide +kernel
theorem d_law_314 : decode code 314 = .ok (.invokevirtual 41, 3) := by decide +kernel
theorem d_law_317 : decode code 317 = .ok (.aload_n 2, 1) := by decide +kernel
theorem d_law_318 : decode code 318 = .ok (.aload_n 0, 1) := by decide +kernel
theorem d_law_319 : decode code 319 = .ok (.iload_n 3, 1) := by decide +kernel
theorem d_law_320 : decode code 320 = .ok (.iconst 1, 1) := by decide +kernel
theorem d_law_321 : decode code 321 = .ok (.iadd, 1) := by decide +kernel
theorem d_law_322 : decode code 322 = .ok (.iaload, 1) := by decide +kernel
theorem d_law_323 : decode code 323 = .ok (.invokevirtual 44, 3) := by decide +kernel
theorem d_law_326 : decode code 326 = .ok (.if_icmp .eq 16, 3) := by decide +kernel
theorem d_law_329 : decode code 329 = .ok (.iconst 0, 1) := by decide +kernel
theorem d_law_330 : decode code 330 = .ok (.ireturn, 1) := by decide +kernel
theorem d_law_331 : decode code 331 = .ok (.aload_n 1, 1) := by decide +kernel
theorem d_law_332 : decode code 332 = .ok (.invokevirtual 45, 3) := by decide +kernel
theorem d_law_335 : decode code 335 = .ok (.aload_n 2, 1) := by decide +kernel
theorem d_law_336 : decode code 336 = .ok (.invokevirtual 48, 3) := by decide +kernel
theorem d_law_339 : decode code 339 = .ok (.goto 3, 3) := by decide +kernel
theorem d_law_342 : decode code 342 = .ok (.iinc 3 6, 3) := by decide +kernel
theorem d_law_345 : decode code 345 = .ok (.goto (-327), 3) := by decide +kernel
theorem d_law_348 : decode code 348 = .ok (.iconst 1, 1) := by decide +kernel
theorem d_law_349 : decode code 349 = .ok (.ireturn, 1) := by decide +kernel
/-- what the walk of the law knows -/
def LC (p : Program) (s : State) (m : MethodId) (meth : Method) (c : Code) (b L : Nat) (xs : Nat → Int32) (D : va_G) (cB cI : ClassId) (A : Nat → Prop) : Prop :=
  p.tables.exec = Jvm.exec ∧ c.code = code ∧ meth.sig.returnType = ret ∧ c.maxLocals = 4 ∧ s.vm.findClass R_LW = some m.cls ∧ (∀ w ∈ lw_g, w.before #[Value.ref b] s = true) ∧ va_X b L xs s s.heap ∧ b < s.heap.size ∧ meth.locks = false ∧ hk_ D cB cI s ∧ sk_ D s s.heap ∧ D.2 100 0 ≤ s.heap.size ∧ (∀ q, A q → D.2 100 0 ≤ q) ∧ (∀ q, s.heap.size ≤ q → A q) ∧ ¬ A b
/-- both worlds -/
def LWd (D : va_G) (cB cI : ClassId) (aT aM : Nat) (fb kb nb r : Nat) (aS aC aY aH aU aZ aX aW aF aK aN aB aFs aKs aNs aP aV aPs aPe aPi aPh aPl aPn aGk aGh aGf aGl aGn aGv aO aG aQ aR0 aR1 aR2 aR3 aFc aFn aFl aFh aFd aFo : Nat) (fcnt : Int32) (fsts : Nat → Int32) (kcnt : Int32) (ksts : Nat → Int32) (onT : Int32) (place : Int32) (limit : Int32) (full : Bool) (b : Nat → UInt8) (ncnt : Int32) (nsts : Nat → Int32) (pcnt : Int32) (pfix : Bool) (pown : Int32) (plc : Int32) (pbs : Int32) (pms : Bool) (vplace : Int32) (vlimit : Int32) (vfull : Bool) (pst : Nat → Int32) (pen : Nat → Int32) (pix : Nat → Int32) (pho : Nat → Int32) (plv : Nat → Int32) (psn : Nat → Int32) (ngr : Int32) (held : Int32) (gsum : Int64) (gky : Nat → Int32) (ghs : Nat → Int32) (gfi : Nat → Int32) (gla : Nat → Int32) (gnx : Nat → Int32) (gvl : Nat → Int32) (sorts : Int32) (k0 : Nat → Int32) (k1 : Nat → Int32) (k2 : Nat → Int32) (k3 : Nat → Int32) (sg : Nat → Int32) (ord : Nat → Int32) (fict : Int32) (fch : Nat → Int32) (fnx : Nat → Int32) (flv : Nat → Int32) (fhs : Nat → Int32) (fdo : Nat → Int32) (fow : Nat → Int32) (aMst aMdcs aMtot aMfrm aMsiz aMffr aMfsz aMlkd aMlat aMkkd aMkat aModr aMgrp aMikd aMiat : Nat) (thr : Int32) (tpd : Int32) (frs : Int32) (frt : Int32) (top : Int32) (bgn : Int32) (mst : Int32) (ovr : Bool) (tgr : Bool) (lvs : Int32) (its : Int32) (hgh : Int64) (loo : Int64) (dfl : Bool) (st : Nat → Int32) (dcs : Nat → Int32) (tot : Nat → Int32) (frm : Nat → Int32) (siz : Nat → Int32) (ffr : Nat → Int32) (fsz : Nat → Int32) (lkd : Nat → Int32) (lat : Nat → Int32) (kkd : Nat → Int32) (kat : Nat → Int32) (odr : Nat → Int32) (grp : Nat → Int32) (ikd : Nat → Int32) (iat : Nat → Int32) : va_W := [(aT, .inr (10, [.ref aS, .ref aC, .ref aY, .ref aH, .ref aU, .ref aZ, .ref aX, .int onT])), (aC, .inr (4, [.ref aS])), (aY, .inr (3, [.ref aS, .ref aW, .ref aF, .ref aK, .ref aN])), (aW, .inr (1, [.ref aS, .int place, .int limit, .int (b2i full)])), (aS, .inr (0, [.ref aB])), (aB, .inl (cB, 202000, .inl (by_ b))), (aF, .inr (2, [.int (iN fb), .ref aFs, .int fcnt])), (aFs, .inl (cI, 201, .inl fsts)), (aK, .inr (2, [.int (iN kb), .ref aKs, .int kcnt])), (aKs, .inl (cI, 201, .inl ksts)), (aN, .inr (2, [.int (iN nb), .ref aNs, .int ncnt])), (aNs, .inl (cI, 201, .inl nsts)), (aH, .inr (6, [.ref aS, .ref aY, .ref aP])), (aP, .inr (5, [.ref aS, .ref aV, .ref aPs, .ref aPe, .ref aPi, .ref aPh, .int pcnt, .int (b2i pfix), .int pown, .ref aPl, .ref aPn, .int plc, .int (iN r), .int pbs, .int (b2i pms)])), (aV, .inr (1, [.ref aS, .int vplace, .int vlimit, .int (b2i vfull)])), (aPs, .inl (cI, 8, .inl pst)), (aPe, .inl (cI, 8, .inl pen)), (aPi, .inl (cI, 8, .inl pix)), (aPh, .inl (cI, 8, .inl pho)), (aPl, .inl (cI, 1001, .inl plv)), (aPn, .inl (cI, 2000, .inl psn)), (aU, .inr (7, [.ref aS, .ref aY, .ref aP, .ref aGk, .ref aGh, .ref aGf, .ref aGl, .ref aGn, .int ngr, .ref aGv, .int held, .long gsum])), (aGk, .inl (cI, 200, .inl gky)), (aGh, .inl (cI, 200, .inl ghs)), (aGf, .inl (cI, 200, .inl gfi)), (aGl, .inl (cI, 200, .inl gla)), (aGn, .inl (cI, 200, .inl gnx)), (aGv, .inl (cI, 200, .inl gvl)), (aZ, .inr (8, [.ref aS, .ref aY, .ref aP, .ref aO, .ref aG, .ref aQ, .int sorts])), (aO, .inl ((D.1 100), 4, .inr (.inr (.inr (.inr (fun j => if j = 0 then some aR0 else if j = 1 then some aR1 else if j = 2 then some aR2 else some aR3)))))), (aR0, .inl (cI, 200, .inl k0)), (aR1, .inl (cI, 200, .inl k1)), (aR2, .inl (cI, 200, .inl k2)), (aR3, .inl (cI, 200, .inl k3)), (aG, .inl (cI, 4, .inl sg)), (aQ, .inl (cI, 200, .inl ord)), (aX, .inr (9, [.ref aS, .ref aY, .ref aP, .ref aFc, .ref aFn, .ref aFl, .ref aFh, .ref aFd, .int fict, .ref aFo])), (aFc, .inl (cI, 1024, .inl fch)), (aFn, .inl (cI, 13533, .inl fnx)), (aFl, .inl (cI, 13533, .inl flv)), (aFh, .inl (cI, 13533, .inl fhs)), (aFd, .inl (cI, 13533, .inl fdo)), (aFo, .inl (cI, 200, .inl fow)), (aM, .inr (11, [.int thr, .ref aMst, .int tpd, .ref aMdcs, .ref aMtot, .ref aMfrm, .ref aMsiz, .int frs, .int frt, .ref aMffr, .ref aMfsz, .int top, .int bgn, .int mst, .int (b2i ovr), .int (b2i tgr), .int lvs, .ref aMlkd, .ref aMlat, .ref aMkkd, .ref aMkat, .ref aModr, .ref aMgrp, .int its, .ref aMikd, .ref aMiat, .long hgh, .long loo, .int (b2i dfl)])), (aMst, .inl (cI, 136400, .inl st)), (aMdcs, .inl (cI, 2, .inl dcs)), (aMtot, .inl (cI, 2, .inl tot)), (aMfrm, .inl (cI, 400, .inl frm)), (aMsiz, .inl (cI, 400, .inl siz)), (aMffr, .inl (cI, 200, .inl ffr)), (aMfsz, .inl (cI, 200, .inl fsz)), (aMlkd, .inl (cI, 60000, .inl lkd)), (aMlat, .inl (cI, 60000, .inl lat)), (aMkkd, .inl (cI, 800, .inl kkd)), (aMkat, .inl (cI, 800, .inl kat)), (aModr, .inl (cI, 200, .inl odr)), (aMgrp, .inl (cI, 200, .inl grp)), (aMikd, .inl (cI, 2000, .inl ikd)), (aMiat, .inl (cI, 2000, .inl iat))]
/-- between two calls of the script: both worlds, over the same belts and the same tape -/
def LI (D : va_G) (cB cI : ClassId) (A : Nat → Prop) (aT aM i : Nat) (H : Heap) : Prop :=
  ∀ P : Prop, (∀ (F K : List (List UInt8)) (T : List UInt8) (fb kb nb r : Nat) (aS aC aY aH aU aZ aX aW aF aK aN aB aFs aKs aNs aP aV aPs aPe aPi aPh aPl aPn aGk aGh aGf aGl aGn aGv aO aG aQ aR0 aR1 aR2 aR3 aFc aFn aFl aFh aFd aFo : Nat) (fcnt : Int32) (fsts : Nat → Int32) (kcnt : Int32) (ksts : Nat → Int32) (onT : Int32) (place : Int32) (limit : Int32) (full : Bool) (b : Nat → UInt8) (ncnt : Int32) (nsts : Nat → Int32) (pcnt : Int32) (pfix : Bool) (pown : Int32) (plc : Int32) (pbs : Int32) (pms : Bool) (vplace : Int32) (vlimit : Int32) (vfull : Bool) (pst : Nat → Int32) (pen : Nat → Int32) (pix : Nat → Int32) (pho : Nat → Int32) (plv : Nat → Int32) (psn : Nat → Int32) (ngr : Int32) (held : Int32) (gsum : Int64) (gky : Nat → Int32) (ghs : Nat → Int32) (gfi : Nat → Int32) (gla : Nat → Int32) (gnx : Nat → Int32) (gvl : Nat → Int32) (sorts : Int32) (k0 : Nat → Int32) (k1 : Nat → Int32) (k2 : Nat → Int32) (k3 : Nat → Int32) (sg : Nat → Int32) (ord : Nat → Int32) (fict : Int32) (fch : Nat → Int32) (fnx : Nat → Int32) (flv : Nat → Int32) (fhs : Nat → Int32) (fdo : Nat → Int32) (fow : Nat → Int32) (aMst aMdcs aMtot aMfrm aMsiz aMffr aMfsz aMlkd aMlat aMkkd aMkat aModr aMgrp aMikd aMiat : Nat) (thr : Int32) (tpd : Int32) (frs : Int32) (frt : Int32) (top : Int32) (bgn : Int32) (mst : Int32) (ovr : Bool) (tgr : Bool) (lvs : Int32) (its : Int32) (hgh : Int64) (loo : Int64) (dfl : Bool) (st : Nat → Int32) (dcs : Nat → Int32) (tot : Nat → Int32) (frm : Nat → Int32) (siz : Nat → Int32) (ffr : Nat → Int32) (fsz : Nat → Int32) (lkd : Nat → Int32) (lat : Nat → Int32) (kkd : Nat → Int32) (kat : Nat → Int32) (odr : Nat → Int32) (grp : Nat → Int32) (ikd : Nat → Int32) (iat : Nat → Int32),
    va_P D vwCl (LWd D cB cI aT aM fb kb nb r aS aC aY aH aU aZ aX aW aF aK aN aB aFs aKs aNs aP aV aPs aPe aPi aPh aPl aPn aGk aGh aGf aGl aGn aGv aO aG aQ aR0 aR1 aR2 aR3 aFc aFn aFl aFh aFd aFo fcnt fsts kcnt ksts onT place limit full b ncnt nsts pcnt pfix pown plc pbs pms vplace vlimit vfull pst pen pix pho plv psn ngr held gsum gky ghs gfi gla gnx gvl sorts k0 k1 k2 k3 sg ord fict fch fnx flv fhs fdo fow aMst aMdcs aMtot aMfrm aMsiz aMffr aMfsz aMlkd aMlat aMkkd aMkat aModr aMgrp aMikd aMiat thr tpd frs frt top bgn mst ovr tgr lvs its hgh loo dfl st dcs tot frm siz ffr fsz lkd lat kkd kat odr grp ikd iat) H → va_D A (LWd D cB cI aT aM fb kb nb r aS aC aY aH aU aZ aX aW aF aK aN aB aFs aKs aNs aP aV aPs aPe aPi aPh aPl aPn aGk aGh aGf aGl aGn aGv aO aG aQ aR0 aR1 aR2 aR3 aFc aFn aFl aFh aFd aFo fcnt fsts kcnt ksts onT place limit full b ncnt nsts pcnt pfix pown plc pbs pms vplace vlimit vfull pst pen pix pho plv psn ngr held gsum gky ghs gfi gla gnx gvl sorts k0 k1 k2 k3 sg ord fict fch fnx flv fhs fdo fow aMst aMdcs aMtot aMfrm aMsiz aMffr aMfsz aMlkd aMlat aMkkd aMkat aModr aMgrp aMikd aMiat thr tpd frs frt top bgn mst ovr tgr lvs its hgh loo dfl st dcs tot frm siz ffr fsz lkd lat kkd kat odr grp ikd iat) → q_cz b fb kb nb fcnt fsts kcnt ksts nsts onT psn r F K T → r ≤ 800 * i → q_rs2 st dcs tot frm siz tpd F K T → P) → P
theorem LI_mk {D : va_G} {cB cI : ClassId} {A : Nat → Prop} {aT aM i : Nat} {H : Heap} (F K : List (List UInt8)) (T : List UInt8) (fb kb nb r : Nat) (aS aC aY aH aU aZ aX aW aF aK aN aB aFs aKs aNs aP aV aPs aPe aPi aPh aPl aPn aGk aGh aGf aGl aGn aGv aO aG aQ aR0 aR1 aR2 aR3 aFc aFn aFl aFh aFd aFo : Nat) (fcnt : Int32) (fsts : Nat → Int32) (kcnt : Int32) (ksts : Nat → Int32) (onT : Int32) (place : Int32) (limit : Int32) (full : Bool) (b : Nat → UInt8) (ncnt : Int32) (nsts : Nat → Int32) (pcnt : Int32) (pfix : Bool) (pown : Int32) (plc : Int32) (pbs : Int32) (pms : Bool) (vplace : Int32) (vlimit : Int32) (vfull : Bool) (pst : Nat → Int32) (pen : Nat → Int32) (pix : Nat → Int32) (pho : Nat → Int32) (plv : Nat → Int32) (psn : Nat → Int32) (ngr : Int32) (held : Int32) (gsum : Int64) (gky : Nat → Int32) (ghs : Nat → Int32) (gfi : Nat → Int32) (gla : Nat → Int32) (gnx : Nat → Int32) (gvl : Nat → Int32) (sorts : Int32) (k0 : Nat → Int32) (k1 : Nat → Int32) (k2 : Nat → Int32) (k3 : Nat → Int32) (sg : Nat → Int32) (ord : Nat → Int32) (fict : Int32) (fch : Nat → Int32) (fnx : Nat → Int32) (flv : Nat → Int32) (fhs : Nat → Int32) (fdo : Nat → Int32) (fow : Nat → Int32) (aMst aMdcs aMtot aMfrm aMsiz aMffr aMfsz aMlkd aMlat aMkkd aMkat aModr aMgrp aMikd aMiat : Nat) (thr : Int32) (tpd : Int32) (frs : Int32) (frt : Int32) (top : Int32) (bgn : Int32) (mst : Int32) (ovr : Bool) (tgr : Bool) (lvs : Int32) (its : Int32) (hgh : Int64) (loo : Int64) (dfl : Bool) (st : Nat → Int32) (dcs : Nat → Int32) (tot : Nat → Int32) (frm : Nat → Int32) (siz : Nat → Int32) (ffr : Nat → Int32) (fsz : Nat → Int32) (lkd : Nat → Int32) (lat : Nat → Int32) (kkd : Nat → Int32) (kat : Nat → Int32) (odr : Nat → Int32) (grp : Nat → Int32) (ikd : Nat → Int32) (iat : Nat → Int32) (hP : va_P D vwCl (LWd D cB cI aT aM fb kb nb r aS aC aY aH aU aZ aX aW aF aK aN aB aFs aKs aNs aP aV aPs aPe aPi aPh aPl aPn aGk aGh aGf aGl aGn aGv aO aG aQ aR0 aR1 aR2 aR3 aFc aFn aFl aFh aFd aFo fcnt fsts kcnt ksts onT place limit full b ncnt nsts pcnt pfix pown plc pbs pms vplace vlimit vfull pst pen pix pho plv psn ngr held gsum gky ghs gfi gla gnx gvl sorts k0 k1 k2 k3 sg ord fict fch fnx flv fhs fdo fow aMst aMdcs aMtot aMfrm aMsiz aMffr aMfsz aMlkd aMlat aMkkd aMkat aModr aMgrp aMikd aMiat thr tpd frs frt top bgn mst ovr tgr lvs its hgh loo dfl st dcs tot frm siz ffr fsz lkd lat kkd kat odr grp ikd iat) H) (hD : va_D A (LWd D cB cI aT aM fb kb nb r aS aC aY aH aU aZ aX aW aF aK aN aB aFs aKs aNs aP aV aPs aPe aPi aPh aPl aPn aGk aGh aGf aGl aGn aGv aO aG aQ aR0 aR1 aR2 aR3 aFc aFn aFl aFh aFd aFo fcnt fsts kcnt ksts onT place limit full b ncnt nsts pcnt pfix pown plc pbs pms vplace vlimit vfull pst pen pix pho plv psn ngr held gsum gky ghs gfi gla gnx gvl sorts k0 k1 k2 k3 sg ord fict fch fnx flv fhs fdo fow aMst aMdcs aMtot aMfrm aMsiz aMffr aMfsz aMlkd aMlat aMkkd aMkat aModr aMgrp aMikd aMiat thr tpd frs frt top bgn mst ovr tgr lvs its hgh loo dfl st dcs tot frm siz ffr fsz lkd lat kkd kat odr grp ikd iat)) (hC : q_cz b fb kb nb fcnt fsts kcnt ksts nsts onT psn r F K T) (hrr : r ≤ 800 * i) (hR : q_rs2 st dcs tot frm siz tpd F K T) : LI D cB cI A aT aM i H :=
  fun _ k => k F K T fb kb nb r aS aC aY aH aU aZ aX aW aF aK aN aB aFs aKs aNs aP aV aPs aPe aPi aPh aPl aPn aGk aGh aGf aGl aGn aGv aO aG aQ aR0 aR1 aR2 aR3 aFc aFn aFl aFh aFd aFo fcnt fsts kcnt ksts onT place limit full b ncnt nsts pcnt pfix pown plc pbs pms vplace vlimit vfull pst pen pix pho plv psn ngr held gsum gky ghs gfi gla gnx gvl sorts k0 k1 k2 k3 sg ord fict fch fnx flv fhs fdo fow aMst aMdcs aMtot aMfrm aMsiz aMffr aMfsz aMlkd aMlat aMkkd aMkat aModr aMgrp aMikd aMiat thr tpd frs frt top bgn mst ovr tgr lvs its hgh loo dfl st dcs tot frm siz ffr fsz lkd lat kkd kat odr grp ikd iat hP hD hC hrr hR
theorem q_beok {b : Nat → UInt8} {base : Nat} {cnt : Int32} {sts : Nat → Int32} {F : List (List UInt8)} (h : q_be b base cnt sts F) : be_ok (iN base) cnt sts := by
  have e := q_bee h
  obtain ⟨h1, h2, h3, ⟨h41, h42, h43⟩, h5, h6, h7⟩ := h
  unfold be_ok ae_ok
  rw [e, h1, iN_i (by omega), iN_i (by omega), iN_i (by omega)]
  omega
theorem q_be0k {base : Nat} {sts : Nat → Int32} (h : sts 0 = iN base) (hb : base + 40000 ≤ 122000) : be_ok (iN base) 0 sts := by
  have e : tw_BE_end (iN base) 0 sts = iN base := by
    unfold tw_BE_end tw_BE_start
    rw [if_neg (by decide), if_neg (by decide)]
    exact h
  unfold be_ok ae_ok
  rw [e, iN_i (by omega)]
  refine ⟨by omega, by decide, by decide⟩
theorem q_stk {base : Nat} {cnt : Int32} {sts : Nat → Int32} (h : q_stb sts) (hb : base + 40000 ≤ 122000) (j : Int32) : 0 ≤ (tw_BE_start (iN base) cnt sts j).toInt ∧ (tw_BE_start (iN base) cnt sts j).toInt ≤ 202000 := by
  unfold tw_BE_start
  by_cases c : j < 0
  · rw [if_pos c, iN_i (by omega)]
    omega
  rw [if_neg c]
  by_cases c2 : 201 ≤ j
  · rw [if_pos c2, iN_i (by omega)]
    omega
  rw [if_neg c2]
  obtain ⟨e, l⟩ := q_nn c
  have j2 : j.toNatClampNeg < 201 := by
    rcases Nat.lt_or_ge j.toNatClampNeg 201 with z | z
    · exact z
    · exact absurd (by rw [e, show (201 : Int32) = iN 201 from rfl, iN_le (by omega) l]; exact z) c2
  obtain ⟨x, x1, x2⟩ := h _ j2
  rw [x2, iN_i (by omega)]
  omega
theorem lw_an7 (x : Int32) : ∃ k : Nat, k < 8 ∧ x &&& 7 = Int32.ofNat k := by
  refine ⟨x.toBitVec.toNat % 8, Nat.mod_lt _ (by decide), ?_⟩
  apply Int32.toBitVec_inj.1
  apply BitVec.eq_of_toNat_eq
  rw [Int32.toBitVec_and, BitVec.toNat_and]
  have h7 : (7 : Int32).toBitVec.toNat = 2 ^ 3 - 1 := by decide
  have h8 : (Int32.ofNat (x.toBitVec.toNat % 8)).toBitVec.toNat = x.toBitVec.toNat % 8 := by
    show (BitVec.ofNat 32 (x.toBitVec.toNat % 8)).toNat = _
    rw [BitVec.toNat_ofNat]
    omega
  rw [h7, Nat.and_two_pow_sub_one_eq_mod, h8]
theorem q_be0i {b : Nat → UInt8} {base : Nat} (h1 : 2000 ≤ base) (h2 : base + 40000 ≤ 122000) : q_be b base 0 (upd (fun _ => 0) (0 : Int32).toNatClampNeg (iN base)) [] := by
  have z : (0 : Int32).toNatClampNeg = 0 := by decide
  rw [z]
  refine ⟨rfl, (fun i hi => ?_), trivial, ⟨Nat.zero_le _, Nat.zero_le _, (fun d hd => by cases hd)⟩, h2, h1, (fun i hi => ?_)⟩
  · have i0 : i = 0 := Nat.le_zero.1 hi
    rw [i0, q_pf0, Nat.add_zero]
    exact q_upe
  · by_cases c : i = 0
    · rw [c]
      exact ⟨base, by omega, q_upe⟩
    · exact ⟨0, by omega, q_upn c⟩
theorem q_cz0 : q_cz (fun _ => 0) 2000 42000 82000 0 (upd (fun _ => 0) (0 : Int32).toNatClampNeg (iN 2000)) 0 (upd (fun _ => 0) (0 : Int32).toNatClampNeg (iN 42000)) (upd (fun _ => 0) (0 : Int32).toNatClampNeg (iN 82000)) 0 (fun _ => 0) 0 [] [] [] := by
  have b3 : q_be (fun _ => 0) 82000 0 (upd (fun _ => 0) (0 : Int32).toNatClampNeg (iN 82000)) [] := q_be0i (by omega) (by omega)
  have z3 := b3.2.1 0 (Nat.le_refl _)
  rw [q_pf0, Nat.add_zero] at z3
  exact ⟨⟨q_be0i (by omega) (by omega), q_be0i (by omega) (by omega), trivial, rfl, Nat.zero_le _, by omega, by omega, by omega, by omega, by omega⟩, ⟨z3, b3.2.2.2.2.2.2⟩, (fun o ho => ⟨0, Nat.le_refl _, rfl⟩)⟩
theorem q_rs0 : q_rs2 (fun _ => 0) (fun _ => 0) (fun _ => 0) (fun _ => 0) (fun _ => 0) 0 [] [] [] :=
  ⟨⟨rfl, rfl, (fun i d h => by cases h), trivial, Nat.zero_le _, Nat.zero_le _, (fun d hd => by cases hd)⟩, ⟨rfl, rfl, (fun i d h => by cases h), trivial, Nat.zero_le _, Nat.zero_le _, (fun d hd => by cases hd)⟩, trivial, rfl, Nat.zero_le _⟩
