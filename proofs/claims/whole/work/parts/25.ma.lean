/-! multianewarray of int[4][200]: from the machine's own words -/
/-- a row of the table -/
def mg_r (cI : ClassId) : Cell := arrV cI 200 (fun _ => .int 0)
/-- the table behind i of its rows -/
def mg_o (cJ : ClassId) (h i : Nat) : Cell := arrV cJ 4 (fun j => if j < i then .ref (h + 1 + j) else .null)
theorem mg_o0 (cJ : ClassId) (h : Nat) : ({ cls := cJ, slots := Array.replicate 4 .null, vm := .none } : Cell) = mg_o cJ h 0 := by
  rw [arrV_new]
  unfold mg_o
  congr 1
theorem mg_o1 (cJ : ClassId) (h i : Nat) : (mg_o cJ h i).setSlot i (.ref (h + 1 + i)) = mg_o cJ h (i + 1) := by
  unfold mg_o
  rw [arrV_store]
  congr 1
  funext j
  unfold updV
  by_cases e : j = i
  · subst e
    simp
  · rw [if_neg e]
    show (if j < i then Value.ref (h + 1 + j) else Value.null) = _
    by_cases c : j < i
    · rw [if_pos c, if_pos (by omega)]
    · rw [if_neg c, if_neg (by omega)]
/-- the state behind i rows -/
def mg_s (cJ cI : ClassId) (s : State) : Nat → State
  | 0 => s.pushCell (mg_o cJ s.heap.size 0)
  | i + 1 => ((mg_s cJ cI s i).pushCell (mg_r cI)).setCell s.heap.size (mg_o cJ s.heap.size (i + 1))
theorem mg_osz (cJ : ClassId) (h i : Nat) : (mg_o cJ h i).slots.size = 4 := arrV_size _ _ _
theorem mg_rsz (cI : ClassId) : (mg_r cI).slots.size = 200 := arrV_size _ _ _
theorem mg_f (cJ cI : ClassId) (s : State) : ∀ i, (mg_s cJ cI s i).heap.size = s.heap.size + 1 + i ∧ (mg_s cJ cI s i).heap[s.heap.size]? = some (mg_o cJ s.heap.size i) ∧ (mg_s cJ cI s i).vm = s.vm ∧ (mg_s cJ cI s i).slotsUsed = s.slotsUsed + 4 + i * 200 := by
  intro i
  induction i with
  | zero => exact ⟨by simp [mg_s], by simp [mg_s], rfl, by simp [mg_s, mg_osz]⟩
  | succ i ih =>
    obtain ⟨a, b, c, d⟩ := ih
    have hlt : s.heap.size < (mg_s cJ cI s i).heap.size := by omega
    have hb : ((mg_s cJ cI s i).pushCell (mg_r cI)).heap[s.heap.size]? = some (mg_o cJ s.heap.size i) := by rw [State.heap_pushCell_of_lt (h := hlt)]; exact b
    refine ⟨?_, State.heap_setCell_self hb, by simp [mg_s, c], ?_⟩
    · simp [mg_s, State.setCell, a]; omega
    · simp [mg_s, d, mg_rsz]; omega
theorem mg_top (cJ cI : ClassId) (s : State) (f : JFrame) : ∀ i, mg_s cJ cI (s.setTop f) i = (mg_s cJ cI s i).setTop f := by
  intro i
  induction i with
  | zero => rfl
  | succ i ih => simp only [mg_s, ih, State.heap_setTop, State.pushCell_setTop, State.setCell_setTop]
theorem mg_old (cJ cI : ClassId) (s : State) {a : Addr} (ha : a < s.heap.size) : ∀ i, (mg_s cJ cI s i).heap[a]? = s.heap[a]? := by
  intro i
  induction i with
  | zero => exact State.heap_pushCell_of_lt _ _ ha
  | succ i ih =>
    have f1 := (mg_f cJ cI s i).1
    have hlt : a < (mg_s cJ cI s i).heap.size := Nat.lt_of_lt_of_le ha (by omega)
    show (((mg_s cJ cI s i).pushCell (mg_r cI)).setCell s.heap.size _).heap[a]? = _
    rw [State.heap_setCell_other (Nat.ne_of_gt ha), State.heap_pushCell_of_lt (h := hlt)]
    exact ih
theorem mg_row (cJ cI : ClassId) (s : State) : ∀ i j, j < i → (mg_s cJ cI s i).heap[s.heap.size + 1 + j]? = some (mg_r cI) := by
  intro i
  induction i with
  | zero => intro j h; exact absurd h (Nat.not_lt_zero _)
  | succ i ih =>
    intro j h
    have f1 := (mg_f cJ cI s i).1
    show (((mg_s cJ cI s i).pushCell (mg_r cI)).setCell s.heap.size _).heap[s.heap.size + 1 + j]? = _
    rw [State.heap_setCell_other (show s.heap.size ≠ s.heap.size + 1 + j by omega)]
    by_cases hj : j < i
    · rw [State.heap_pushCell_of_lt (h := (by omega : s.heap.size + 1 + j < (mg_s cJ cI s i).heap.size))]
      exact ih j hj
    · have e : j = i := by omega
      subst e
      rw [← f1]
      exact State.heap_pushCell_size _ _
theorem mg_stand {p : Program} {l : Launch} {e : Env} {R : Room} {s : State} {m : MethodId} {args : Array Value} {below : List Frame} {meth : Method} {c : Code} {T : State} {locs : List Loc} {cells slots : Nat} (X : Stand p l e R s m args below meth c T locs cells slots) (cJ cI : ClassId) :
    ∀ i, Stand p l e R s m args below meth c (mg_s cJ cI T i) (locs ++ (List.range i).map fun j => ⟨T.heap.size, j⟩) (cells + 1 + i) (slots + 4 + i * 200) := by
  intro i
  induction i with
  | zero =>
    have h := X.pushed (mg_o cJ T.heap.size 0)
    rw [mg_osz] at h
    simpa [mg_s] using h
  | succ i ih =>
    obtain ⟨f1, f2, f3, f4⟩ := mg_f cJ cI T i
    have hlt : T.heap.size < (mg_s cJ cI T i).heap.size := by omega
    have hc : ((mg_s cJ cI T i).pushCell (mg_r cI)).heap[T.heap.size]? = some (mg_o cJ T.heap.size i) := by rw [State.heap_pushCell_of_lt (h := hlt)]; exact f2
    have h := (ih.pushed (mg_r cI)).stored hc i (.ref (T.heap.size + 1 + i))
    rw [mg_rsz, mg_o1] at h
    have e2 : (locs ++ (List.range (i + 1)).map fun j => (⟨T.heap.size, j⟩ : Loc)) = (locs ++ (List.range i).map fun j => (⟨T.heap.size, j⟩ : Loc)) ++ [⟨T.heap.size, i⟩] := by simp [List.range_succ, List.append_assoc]
    rw [e2, show slots + 4 + (i + 1) * 200 = slots + 4 + i * 200 + 200 by omega]
    exact h
section MG
variable {E : CtlPost} {e : Env} {d : Bool} {acts : List Action} {s : State}
theorem mg_new {c comp : ClassId} {k : Class} {type : FieldType} {len : Nat} {init : Value} (hk : s.vm.classes[c]? = some k) (hkind : k.kind = .array comp type)
    (hlimit : ¬ len > e.platform.arrayLengthLimit) (hheap : ¬ len * componentBytes type > e.platform.maxHeapBytes) (hfit : fits type init = true) (hdef : init.isDefault = true) {Q : Addr → Pre}
    (h1 : s.heap.size < e.platform.maxCells) (h2 : s.slotsUsed + len ≤ e.platform.maxSlots)
    (hq : Q s.heap.size d acts (s.pushCell { cls := c, slots := Array.replicate len init, vm := .none })) : wp (Jvm.newArray c len init) Q E e d acts s := by
  have hf : ∀ i v, (Array.replicate len init)[i]? = some v → s.fitsSlot c .none i v = true := by
    intro i v hv
    simp only [Array.getElem?_replicate] at hv
    split at hv
    · cases hv
      simp [State.fitsSlot, State.slotType?, hk, hkind, hfit]
    · cases hv
  have hda : allocActs (Array.replicate len init) s.heap.size acts = acts := by
    have hall : ((Array.replicate len init).all (·.isDefault)) = true := by
      rw [Array.all_replicate]
      split <;> simp [hdef]
    unfold allocActs
    rw [if_pos hall]
  simp only [Jvm.newArray, Jvm.arrayFits, wp_bind', W.ask, W.ite, hlimit, if_false, wp_pure', W.theClass, hk, hkind, hheap, W.alloc, W.stop, Option.some.injEq, exists_eq_left', Array.size_replicate, hda]
  rw [if_neg (by omega)]
  exact ⟨h1, h2, hf, hq⟩
theorem mg_wp {cJ cI cc : ClassId} {kJ kI : Class} (hkJ : s.vm.classes[cJ]? = some kJ) (hJ : kJ.kind = .array cI (.array .int)) (hkI : s.vm.classes[cI]? = some kI) (hI : kI.kind = .array cc .int)
    (hl1 : ¬ 200 > e.platform.arrayLengthLimit) (hh1 : ¬ 800 > e.platform.maxHeapBytes)
    (hc : s.heap.size + 5 ≤ e.platform.maxCells) (hs : s.slotsUsed + 804 ≤ e.platform.maxSlots) {Q : Addr → Pre} (hq : ∀ d' acts', Q s.heap.size d' acts' (mg_s cJ cI s 4)) :
    wp (multianewarray.make cJ [4, 200]) Q E e d acts s := by
  have e4 : (4 : Int32).toNatClampNeg = 4 := rfl
  have e200 : (200 : Int32).toNatClampNeg = 200 := rfl
  have n4 : ¬ (4 : Int32) < 0 := by decide
  have n200 : ¬ (200 : Int32) < 0 := by decide
  have hfind : ([(200 : Int32)].find? (· < 0)) = none := by decide
  rw [multianewarray.make]
  simp only [wp_bind', W.ite, n4, if_false, wp_pure', W.theClass, hkJ, hJ, Option.some.injEq, exists_eq_left', e4]
  refine mg_new hkJ hJ (by omega) (by show ¬ 4 * 4 > _; omega) rfl rfl (by omega) (by omega) ?_
  simp only [hfind]
  rw [ite_self, wp_bind', Std.Legacy.Range.forIn_eq_forIn_range', show ([:4] : Std.Legacy.Range).size = 4 from rfl, mg_o0 cJ s.heap.size]
  show wp (forIn (List.range' 0 4 1) PUnit.unit _) _ E e d acts (mg_s cJ cI s 0)
  refine wp_forIn_inv (fun rest s' => ∃ i, i ≤ 4 ∧ rest = List.range' i (4 - i) ∧ s' = mg_s cJ cI s i) _ _ ⟨0, by omega, rfl, rfl⟩ ?_ ?_
  · rintro x rest s' d' acts' Q' ⟨i, hi, hl, rfl⟩ hnext
    have hlt : i < 4 := by
      by_cases h : i < 4
      · exact h
      · rw [show 4 - i = 0 by omega] at hl
        simp at hl
    rw [show 4 - i = (4 - (i + 1)) + 1 by omega, List.range'_succ] at hl
    obtain ⟨rfl, hrest⟩ := List.cons.inj hl
    obtain ⟨f1, f2, f3, f4⟩ := mg_f cJ cI s x
    simp only [wp_bind']
    rw [multianewarray.make]
    simp only [wp_bind', W.ite, n200, if_false, wp_pure', W.theClass, f3, hkI, hI, Option.some.injEq, exists_eq_left', e200]
    refine mg_new (by rw [f3]; exact hkI) hI hl1 (by show ¬ 200 * 4 > _; omega) rfl rfl (by rw [f1]; omega) (by rw [f4]; omega) ?_
    rw [arrV_new]
    have hlt0 : s.heap.size < (mg_s cJ cI s x).heap.size := by omega
    simp only [wp_bind', W.writeLoc, wp_pure']
    refine ⟨mg_o cJ s.heap.size x, by rw [State.heap_pushCell_of_lt (h := hlt0)]; exact f2, by simp [mg_o, arrV], by rw [mg_osz]; exact hlt, ?_, hnext _ _ _ ⟨x + 1, hlt, hrest, ?_⟩⟩
    · simp [mg_o, arrV, State.fitsSlot, State.slotType?, f3, hkJ, hJ, fits]
    · rw [f1, mg_o1]
      rfl
  · rintro s' d' acts' ⟨i, hi, hl, rfl⟩
    have e : i = 4 := by
      by_cases h : i < 4
      · rw [show 4 - i = (4 - (i + 1)) + 1 by omega, List.range'_succ] at hl
        cases hl
      · omega
    subst e
    simp only [wp_pure']
    exact hq _ _
end MG
theorem mg_over {args : Array Value} {s : State} (h : (Cond.arrayOver (.array .int)).before args s = true) : ∃ cI cJ k, s.vm.findClass "[I" = some cI ∧ s.vm.classes[cJ]? = some k ∧ k.kind = .array cI (.array .int) ∧ s.vm.findClass "[[I" = some cJ := by
  unfold Cond.before at h
  simp only [Cond.holds, Cond.value, beq_iff_eq] at h
  have e1 : (FieldType.array .int).toString = "[I" := rfl
  rw [e1] at h
  cases hc : s.vm.findClass "[I" with
  | none => simp [hc] at h
  | some cI =>
    simp only [hc, Option.bind_some, Option.bind_eq_some_iff, Option.map_eq_some_iff] at h
    obtain ⟨cJ, hi, k, hk, hb⟩ := h
    obtain ⟨hlt, hp, -⟩ := Array.findIdx?_eq_some_iff_getElem.mp hi
    rw [(Array.getElem?_eq_some_iff.mp hk).2] at hp
    cases hkind : k.kind with
    | array component ty =>
      rw [hkind] at hb hp
      simp at hb hp
      exact ⟨cI, cJ, k, rfl, hk, by rw [hkind, hp, hb.1], hb.2⟩
    | _ => rw [hkind] at hb; simp at hb

theorem mg_step {p : Program} {l : Launch} {e : Env} {R : Room} {s : State} {m : MethodId} {args : Array Value} {below : List Frame} {meth : Method} {c : Code} {T : State} {locs : List Loc} {cells slots : Nat} (X : Stand p l e R s m args below meth c T locs cells slots) (hexec : p.tables.exec = Jvm.exec) {own : String} {index : Nat}
    (hown : s.vm.findClass own = some m.cls) (hclink : (Cond.classLink own index "[[I").before args s = true) {cJ cI : ClassId} (hover : ∃ k : Class, s.vm.classes[cJ]? = some k ∧ k.kind = .array cI (.array .int)) (harr : (Cond.arrayClass .int).before args s = true)
    {g : JFrame} (hg : g.method = m) (hdg : decode c.code g.pc = .ok (.multianewarray index 2, 4)) {rest : List Value} (hstack : g.stack = .int 200 :: .int 4 :: rest) (hcells : cells + 5 ≤ R.cells) (hslots : slots + 804 ≤ R.slots) (hJ : s.vm.findClass "[[I" = some cJ) (hI : s.vm.findClass "[I" = some cI) :
    ∃ vm1 : Vm, s.WarmedH vm1 ∧ Stand p l e R s m args below meth c (mg_s cJ cI (T.setVm vm1) 4) (locs ++ (List.range 4).map fun j => ⟨T.heap.size, j⟩) (cells + 5) (slots + 804) ∧
      ∀ target, Steps p.tables e below ((mg_s cJ cI (T.setVm vm1) 4).setTop { g with pc := g.pc + 4, stack := .ref T.heap.size :: rest }) target → Steps p.tables e below (T.setTop g) target := by
  subst hg
  have hpl : e.platform.magicAccessors = ({} : Platform).magicAccessors := by rw [X.admits.platform]
  obtain ⟨kJ, hkJ, hkindJ⟩ := hover
  obtain ⟨cI3, kI, cc, q3, hkI, hkindI⟩ := Cond.arrayClass_spec harr
  cases Option.some.inj (q3.symm.trans hI)
  obtain ⟨c0, hfc0, hcl⟩ := Cond.classLink_spec hown hclink e.platform hpl
  cases Option.some.inj (hfc0.symm.trans hJ)
  obtain ⟨hg1, hwarm1, hready1⟩ := State.classEntry (e := e) X.warmed hcl
  generalize T.vm.noted g.method.cls index (.cls cJ) = vm1 at hg1 hwarm1 hready1
  have hal : s.vm.Alike vm1 := hwarm1.alike
  obtain ⟨kJ1, hkJ1, heJ⟩ := hal.2.2 _ _ hkJ
  obtain ⟨kI1, hkI1, heI⟩ := hal.2.2 _ _ hkI
  have hkindJ1 : kJ1.kind = .array cI (.array .int) := by rw [heJ]; exact hkindJ
  have hkindI1 : kI1.kind = .array cc .int := by rw [heI]; exact hkindI
  have X1 := X.noted hwarm1
  obtain ⟨hr1, hr2⟩ := X.roomAbove hcells hslots
  have XF := mg_stand X1 cJ cI 4
  refine ⟨vm1, hwarm1, XF, fun target hrest => ?_⟩
  have hl1 : ¬ 200 > e.platform.arrayLengthLimit := by rw [Launch.admits_arrayLengthLimit X.admits]; omega
  have hh1 : ¬ 800 > e.platform.maxHeapBytes := by rw [Launch.admits_maxHeapBytes X.admits]; omega
  jvm_step X.here [hexec, hdg]
  simp only [multianewarray.sem, wp_bind', W.resolveClassAt_links (State.method?_setTop g X.here.top) hg1]
  rw [W.popN, if_neg (by decide)]
  refine ⟨g, State.topJava?_setTop' (s := T.setVm vm1) g X.here.top, [.int 4, .int 200], rest, rfl, hstack, ?_⟩
  simp only [List.mapM_cons, List.mapM_nil, wp_bind', wp_pure']
  refine mg_wp (kJ := kJ1) (kI := kI1) (cc := cc) hkJ1 hkindJ1 hkI1 hkindI1 hl1 hh1 (by show T.heap.size + 5 ≤ _; omega) (by show T.slotsUsed + 804 ≤ _; omega) (fun d' acts' => ?_)
  have eS : ((T.setTop g).setVm vm1).setTop { g with stack := rest } = (T.setVm vm1).setTop { g with stack := rest } := by
    show ((T.setVm vm1).setTop g).setTop _ = _
    rw [State.setTop_setTop]
  rw [eS, mg_top]
  simp only [wp_bind', W.mark, W.pushRef, State.topJava?_setTop' _ XF.here.top, Option.some.injEq, exists_eq_left', State.setTop_setTop, State.heap_setTop]
  intro acts
  simp [jvm, XF.here.top]
  exact hrest
/-- the rows' places, as the world has them -/
def mg_q (q1 q2 q3 q4 : Nat) : Nat → Option Nat := fun j => if j = 0 then some q1 else if j = 1 then some q2 else if j = 2 then some q3 else some q4
abbrev mg_w (cJ cI : ClassId) (q0 q1 q2 q3 q4 : Nat) : va_W := [(q0, .inl (cJ, 4, .inr (.inr (.inr (.inr (fun j => if j = 0 then some q1 else if j = 1 then some q2 else if j = 2 then some q3 else some q4)))))), (q1, .inl (cI, 200, .inl (fun _ => 0))), (q2, .inl (cI, 200, .inl (fun _ => 0))), (q3, .inl (cI, 200, .inl (fun _ => 0))), (q4, .inl (cI, 200, .inl (fun _ => 0)))]
theorem mg_cell (cJ : ClassId) (h : Nat) : mg_o cJ h 4 = vp_cell cJ (4, .inr (.inr (.inr (.inr (fun j => if j = 0 then some (h + 1) else if j = 1 then some (h + 2) else if j = 2 then some (h + 3) else some (h + 4)))))) := by
  rw [vp_cell_q]
  unfold mg_o arrV
  congr 1
section MW
variable {p : Program} {l : Launch} {e : Env} {R : Room} {s : State} {m : MethodId} {args : Array Value} {below : List Frame} {meth : Method} {c : Code} {H H0 : Heap} {locs : List Loc} {cells slots : Nat} {Q : State → Prop} {cc : ByteArray} {pc : Nat} {ls : Array Slot} {rest : List Value}
variable {D : va_G} {cl : List vw_C} {tys : List (ClassId × FieldType)} {ws : va_W} {A : Nat → Prop}
theorem va_mul (hexec : p.tables.exec = Jvm.exec) (hb : c.code = cc) {own : String} {index : Nat} (hown : s.vm.findClass own = some m.cls) (hclink : (Cond.classLink own index "[[I").before args s = true) {cJ cI : ClassId} (hover : ∃ k : Class, s.vm.classes[cJ]? = some k ∧ k.kind = .array cI (.array .int)) (harr : (Cond.arrayClass .int).before args s = true)
    (hP : va_P D cl ws H) (hD : va_D A ws) (hS : va_S A H0 H locs) (hA : ∀ q, H0.size ≤ q → A q) (hJ : s.vm.findClass "[[I" = some cJ) (hI : s.vm.findClass "[I" = some cI) (hcells : cells + 5 ≤ R.cells) (hslots : slots + 804 ≤ R.slots) (hdg : decode cc pc = .ok (.multianewarray index 2, 4))
    (kk : ∀ (q0 q1 q2 q3 q4 : Nat) (H1 : Heap) (locs1 : List Loc), va_P D cl (ws ++ mg_w cJ cI q0 q1 q2 q3 q4) H1 → va_D A (ws ++ mg_w cJ cI q0 q1 q2 q3 q4) → va_S A H0 H1 locs1 →
      W p l e R s m args below meth c H1 locs1 (cells + 5) (slots + 804) Q (F0 m (pc + 4) ls (.ref q0 :: rest))) : W p l e R s m args below meth c H locs cells slots Q (F0 m pc ls (.int 200 :: .int 4 :: rest)) := by
  intro T hT X
  subst hT
  subst hb
  obtain ⟨vm1, hW1, X1, st⟩ := mg_step X hexec hown hclink hover harr (g := F0 m pc ls (.int 200 :: .int 4 :: rest)) rfl hdg rfl hcells hslots hJ hI
  have ez : (T.setVm vm1).heap.size = T.heap.size := rfl
  obtain ⟨f1, f2, f3, f4⟩ := mg_f cJ cI (T.setVm vm1) 4
  have hold : ∀ q, q < T.heap.size → (mg_s cJ cI (T.setVm vm1) 4).heap[q]? = T.heap[q]? := fun q hq => mg_old cJ cI (T.setVm vm1) (a := q) hq 4
  have hrow : ∀ j, j < 4 → (mg_s cJ cI (T.setVm vm1) 4).heap[T.heap.size + 1 + j]? = some (mg_r cI) := fun j hj => mg_row cJ cI (T.setVm vm1) 4 j hj
  have hp : va_P D cl (ws ++ mg_w cJ cI T.heap.size (T.heap.size + 1) (T.heap.size + 2) (T.heap.size + 3) (T.heap.size + 4)) (mg_s cJ cI (T.setVm vm1) 4).heap := by
    refine (hP.kept (fun k x hx => hold x.1 ((hP k x hx).lt))).app (fun k x hx => ?_)
    have hk : k < 5 := (List.getElem?_eq_some_iff.mp hx).1
    have q : k = 0 ∨ k = 1 ∨ k = 2 ∨ k = 3 ∨ k = 4 := by omega
    rcases q with rfl | rfl | rfl | rfl | rfl <;> cases hx
    · show (mg_s cJ cI (T.setVm vm1) 4).heap[T.heap.size]? = some (vp_cell _ _)
      rw [← mg_cell]
      exact f2
    · exact hrow 0 (by decide)
    · exact hrow 1 (by decide)
    · exact hrow 2 (by decide)
    · exact hrow 3 (by decide)
  have hd : va_D A (ws ++ mg_w cJ cI T.heap.size (T.heap.size + 1) (T.heap.size + 2) (T.heap.size + 3) (T.heap.size + 4)) := by
    refine hD.app ⟨fun i j x y hx hy e => ?_, fun k x hx => ?_⟩ (fun i j x y hx hy e => ?_)
    · have hi : i < 5 := (List.getElem?_eq_some_iff.mp hx).1
      have hj : j < 5 := (List.getElem?_eq_some_iff.mp hy).1
      have q : i = 0 ∨ i = 1 ∨ i = 2 ∨ i = 3 ∨ i = 4 := by omega
      have q' : j = 0 ∨ j = 1 ∨ j = 2 ∨ j = 3 ∨ j = 4 := by omega
      rcases q with rfl | rfl | rfl | rfl | rfl <;> rcases q' with rfl | rfl | rfl | rfl | rfl <;> cases hx <;> cases hy <;> first | rfl | (exfalso; dsimp only at e; omega)
    · have hk : k < 5 := (List.getElem?_eq_some_iff.mp hx).1
      have q : k = 0 ∨ k = 1 ∨ k = 2 ∨ k = 3 ∨ k = 4 := by omega
      have := hS.1
      rcases q with rfl | rfl | rfl | rfl | rfl <;> cases hx <;> exact hA _ (by dsimp only; omega)
    · have h1 := (hP i x hx).lt
      have hj : j < 5 := (List.getElem?_eq_some_iff.mp hy).1
      have q : j = 0 ∨ j = 1 ∨ j = 2 ∨ j = 3 ∨ j = 4 := by omega
      rcases q with rfl | rfl | rfl | rfl | rfl <;> cases hy <;> (dsimp only at e; omega)
  have hs : va_S A H0 (mg_s cJ cI (T.setVm vm1) 4).heap (locs ++ (List.range 4).map fun j => ⟨T.heap.size, j⟩) := by
    refine ⟨Nat.le_trans hS.1 (by rw [f1, ez]; omega), fun x h1 h2 => (hold x (Nat.lt_of_lt_of_le h1 hS.1)).trans (hS.2.1 x h1 h2), fun q hq => ?_⟩
    rcases List.mem_append.mp hq with h | h
    · exact hS.2.2 q h
    · obtain ⟨j, -, rfl⟩ := List.mem_map.mp h
      exact hA _ hS.1
  obtain ⟨t, a1, b1⟩ := kk T.heap.size (T.heap.size + 1) (T.heap.size + 2) (T.heap.size + 3) (T.heap.size + 4) _ _ hp hd hs _ rfl X1
  exact ⟨t, st t a1, b1⟩
end MW
