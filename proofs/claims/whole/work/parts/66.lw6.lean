/-! printed by wip/gen/p34.py: the law -/
theorem ao_spec {args : Array Value} {s : State} (h : (Cond.arrayOver (.array .int)).before args s = true) : ∃ (comp c : ClassId) (k : Class), s.vm.findClass "[I" = some comp ∧ s.vm.findClass "[[I" = some c ∧ s.vm.classes[c]? = some k ∧ k.kind = .array comp (.array .int) := by
  simp only [Cond.before, Cond.holds, Cond.value] at h
  have e1 : (FieldType.array .int).toString = "[I" := rfl
  have e2 : "[" ++ (FieldType.array .int).toString = "[[I" := rfl
  rw [e1] at h
  cases hf : s.vm.findClass "[I" with
  | none => rw [hf] at h; simp at h
  | some comp =>
    rw [hf] at h
    simp only [Option.bind_some] at h
    generalize hF : (s.vm.classes.findIdx? fun (x : Class) => match x.kind with | .array component _ => component == comp | _ => false) = fi at h
    cases fi with
    | none => simp at h
    | some c =>
      simp only [Option.bind_some] at h
      cases hk : s.vm.classes[c]? with
      | none => rw [hk] at h; simp at h
      | some k =>
        rw [hk] at h
        simp only [Option.map_some] at h
        obtain ⟨hc1, hc2, -⟩ := Array.findIdx?_eq_some_iff_getElem.1 hF
        have ek : s.vm.classes[c] = k := (Array.getElem?_eq_some_iff.mp hk).2
        rw [ek] at hc2
        cases hkd : k.kind with
        | array cp ty =>
          rw [hkd] at h hc2
          simp at h hc2
          exact ⟨comp, c, k, rfl, h.2, hk, by rw [hkd, h.1, hc2]⟩
        | _ => rw [hkd] at h; simp at h
def lw_tm (i : Nat) : Term := match sTab[i]? with | some q => .string q.1 q.2.1 | none => .string "" 0
def lw_bs : List Nat := [9, 21, 33, 45, 57, 70, 85, 102, 115, 133, 150, 168, 187, 209, 231, 254, 282, 306, 332]
set_option maxRecDepth 100000 in
theorem lw_n1 : ∀ i : Nat, i < 19 → (flatC (Jvm.Cond.and given_1 narrow_1))[lw_bs.getD i 0]? = some (Cond.exactly (lw_tm i) "java/lang/String") := by decide +kernel
theorem lw_s1 : ∀ i : Nat, i < 19 → Cond.exactly (lw_tm i) "java/lang/String" ∈ flatC (Jvm.Cond.and given_1 narrow_1) := fun i hi => List.mem_of_getElem? (lw_n1 i hi)
set_option maxRecDepth 100000 in
theorem lw_n2 : ∀ i : Nat, i < 19 → (flatC (Jvm.Cond.and given_1 narrow_1))[lw_bs.getD i 0 + 1]? = some (Cond.eq (.field (lw_tm i) "java/lang/String" "coder" "B") (.int 0)) := by decide +kernel
theorem lw_s2 : ∀ i : Nat, i < 19 → Cond.eq (.field (lw_tm i) "java/lang/String" "coder" "B") (.int 0) ∈ flatC (Jvm.Cond.and given_1 narrow_1) := fun i hi => List.mem_of_getElem? (lw_n2 i hi)
set_option maxRecDepth 100000 in
theorem lw_n3 : ∀ i : Nat, i < 19 → (flatC (Jvm.Cond.and given_1 narrow_1))[lw_bs.getD i 0 + 2]? = some (Cond.arrayOf (.field (lw_tm i) "java/lang/String" "value" "[B") .byte) := by decide +kernel
theorem lw_s3 : ∀ i : Nat, i < 19 → Cond.arrayOf (.field (lw_tm i) "java/lang/String" "value" "[B") .byte ∈ flatC (Jvm.Cond.and given_1 narrow_1) := fun i hi => List.mem_of_getElem? (lw_n3 i hi)
set_option maxRecDepth 100000 in
theorem lw_n4 : ∀ i : Nat, i < 19 → (flatC (Jvm.Cond.and given_1 narrow_1))[lw_bs.getD i 0 + 3]? = some (Cond.eq (.length (.field (lw_tm i) "java/lang/String" "value" "[B")) (.int (Int32.ofNat (sLen.getD i 0)))) := by decide +kernel
theorem lw_s4 : ∀ i : Nat, i < 19 → Cond.eq (.length (.field (lw_tm i) "java/lang/String" "value" "[B")) (.int (Int32.ofNat (sLen.getD i 0))) ∈ flatC (Jvm.Cond.and given_1 narrow_1) := fun i hi => List.mem_of_getElem? (lw_n4 i hi)
set_option maxRecDepth 100000 in
theorem lw_n5 : ∀ i : Nat, i < 19 → ∀ j : Nat, j < sLen.getD i 0 → (flatC (Jvm.Cond.and given_1 narrow_1))[lw_bs.getD i 0 + 4 + j]? = some (Cond.eq (.elem (.field (lw_tm i) "java/lang/String" "value" "[B") (.int (Int32.ofNat j))) (.int ((sByt.getD i []).getD j 0))) := by decide +kernel
theorem lw_s5 : ∀ i : Nat, i < 19 → ∀ j : Nat, j < sLen.getD i 0 → Cond.eq (.elem (.field (lw_tm i) "java/lang/String" "value" "[B") (.int (Int32.ofNat j))) (.int ((sByt.getD i []).getD j 0)) ∈ flatC (Jvm.Cond.and given_1 narrow_1) := fun i hi j hj => List.mem_of_getElem? (lw_n5 i hi j hj)
set_option maxRecDepth 100000 in
theorem lw_n6 : ∀ i : Nat, i < 19 → ∀ j : Nat, j < i → (flatC (Jvm.Cond.and given_1 narrow_1))[lw_bs.getD i 0 + 4 + sLen.getD i 0 + j]? = some (Cond.not (Cond.eq (lw_tm j) (lw_tm i))) := by decide +kernel
theorem lw_s6 : ∀ i : Nat, i < 19 → ∀ j : Nat, j < 19 → i ≠ j → Cond.not (Cond.eq (lw_tm i) (lw_tm j)) ∈ flatC (Jvm.Cond.and given_1 narrow_1) ∨ Cond.not (Cond.eq (lw_tm j) (lw_tm i)) ∈ flatC (Jvm.Cond.and given_1 narrow_1) := by
  intro i hi j hj hne
  rcases Nat.lt_or_gt_of_ne hne with h | h
  · exact .inl (List.mem_of_getElem? (lw_n6 j hj i h))
  · exact .inr (List.mem_of_getElem? (lw_n6 i hi j h))
theorem lw_s7 : ∀ (i : Nat), i < 19 → ∀ q, sTab[i]? = some q → Cond.stringRef q.1 q.2.1 q.2.2 ∈ lw_tbl := by
  intro i hi
  have : ∀ q ∈ sTab, Cond.stringRef q.1 q.2.1 q.2.2 ∈ lw_tbl := by decide +kernel
  exact fun q hq => this q (List.mem_of_getElem? hq)
theorem lw_s8 : Cond.eq (.static "java/lang/String" "COMPACT_STRINGS" "Z") (.int 1) ∈ flatC (Jvm.Cond.and given_1 narrow_1) ∧ Cond.isRef (.static "jdk/internal/util/Preconditions" "SIOOBE_FORMATTER" "Ljava/util/function/BiFunction;") ∈ flatC (Jvm.Cond.and given_1 narrow_1) := by decide +kernel
set_option maxHeartbeats 4000000 in
theorem lw_world {b : Nat} {s : State} (hts : ∀ w ∈ lw_tbl, w.before #[Value.ref b] s = true) (hgv : (Jvm.Cond.and given_1 narrow_1).before #[Value.ref b] s = true) : ∃ (D : va_G) (cB cI : ClassId), hk_ D cB cI s ∧ sk_ D s s.heap ∧ xk_ D cI s ∧ D.2 100 0 = s.heap.size := by
  have hs := flat_of_before _ hgv
  obtain ⟨c0, iS0, hKn0⟩ := u_known (C := R_ST) (T := T_ST) (N := 1) (n := 1) hts u0_ST (hts (.instantiable R_ST 1) (by decide +kernel))
  obtain ⟨c1, iS1, hKn1⟩ := u_known (C := R_WR) (T := T_WR) (N := 4) (n := 4) hts u0_WR (hts (.instantiable R_WR 4) (by decide +kernel))
  obtain ⟨c2, iS2, hKn2⟩ := u_known (C := R_BE) (T := T_BE) (N := 3) (n := 3) hts u0_BE (hts (.instantiable R_BE 3) (by decide +kernel))
  obtain ⟨c3, iS3, hKn3⟩ := u_known (C := R_BS) (T := T_BS) (N := 5) (n := 5) hts u0_BS (hts (.instantiable R_BS 5) (by decide +kernel))
  obtain ⟨c4, iS4, hKn4⟩ := u_known (C := R_CH) (T := T_CH) (N := 1) (n := 1) hts u0_CH (hts (.instantiable R_CH 1) (by decide +kernel))
  obtain ⟨c5, iS5, hKn5⟩ := u_known (C := R_PA) (T := T_PA) (N := 15) (n := 15) hts u0_PA (hts (.instantiable R_PA 15) (by decide +kernel))
  obtain ⟨c6, iS6, hKn6⟩ := u_known (C := R_SH) (T := T_SH) (N := 3) (n := 3) hts u0_SH (hts (.instantiable R_SH 3) (by decide +kernel))
  obtain ⟨c7, iS7, hKn7⟩ := u_known (C := R_GR) (T := T_GR) (N := 12) (n := 12) hts u0_GR (hts (.instantiable R_GR 12) (by decide +kernel))
  obtain ⟨c8, iS8, hKn8⟩ := u_known (C := R_SO) (T := T_SO) (N := 7) (n := 7) hts u0_SO (hts (.instantiable R_SO 7) (by decide +kernel))
  obtain ⟨c9, iS9, hKn9⟩ := u_known (C := R_FI) (T := T_FI) (N := 10) (n := 10) hts u0_FI (hts (.instantiable R_FI 10) (by decide +kernel))
  obtain ⟨c10, iS10, hKn10⟩ := u_known (C := R_PB) (T := T_PB) (N := 8) (n := 8) hts u0_PB (hts (.instantiable R_PB 8) (by decide +kernel))
  obtain ⟨c11, iS11, hKn11⟩ := u_known (C := R_MO) (T := T_MO) (N := 29) (n := 29) hts u0_MO (hts (.instantiable R_MO 29) (by decide +kernel))
  obtain ⟨cB, kB, compB, b1, b2, b3⟩ := Cond.arrayClass_spec (hts (.arrayClass .byte) (by decide +kernel))
  obtain ⟨cI, kI, compI, i1, i2, i3⟩ := Cond.arrayClass_spec (hts (.arrayClass .int) (by decide +kernel))
  obtain ⟨comp, cJ, kJ, j1, j2, j3, j4⟩ := ao_spec (hts (.arrayOver (.array .int)) (by decide +kernel))
  have i1' : s.vm.findClass "[I" = some cI := i1
  obtain rfl : comp = cI := Option.some.inj (j1.symm.trans i1')
  obtain ⟨adK, adV, hv1, hv2⟩ := vk_Sof (args := #[Value.ref b]) (s := s) (N := 19) (tm := lw_tm) (len := sLen) (byt := sByt) (A := fun q : Nat => s.heap.size ≤ q) (fun i hi => Nat.lt_trans (sLen_lt i hi) (by decide)) (fun i hi => hs _ (lw_s1 i hi)) (fun i hi => hs _ (lw_s2 i hi)) (fun i hi => hs _ (lw_s3 i hi)) (fun i hi => hs _ (lw_s4 i hi)) (fun i hi j hj => hs _ (lw_s5 i hi j hj)) (fun i j hi hj hne => (lw_s6 i hi j hj hne).imp (fun z => hs _ z) (fun z => hs _ z)) (fun a ha => Nat.not_le.mpr ha)
  refine ⟨(fun k => if k = 100 then cJ else if k = 0 then c0 else if k = 1 then c1 else if k = 2 then c2 else if k = 3 then c3 else if k = 4 then c4 else if k = 5 then c5 else if k = 6 then c6 else if k = 7 then c7 else if k = 8 then c8 else if k = 9 then c9 else if k = 10 then c10 else c11, fun k => if k = 100 then (fun _ => s.heap.size) else if k = 101 then adK else if k = 102 then adV else if k = 0 then iS0 else if k = 1 then iS1 else if k = 2 then iS2 else if k = 3 then iS3 else if k = 4 then iS4 else if k = 5 then iS5 else if k = 6 then iS6 else if k = 7 then iS7 else if k = 8 then iS8 else if k = 9 then iS9 else if k = 10 then iS10 else iS11), cB, comp, ⟨⟨?_, ?_⟩, nw_.of hts, fun n z => ⟨fun k h => (by cases h), kJ, j3, comp, j4⟩⟩, ⟨hv1, ?_, ?_, ?_⟩, ⟨va_Nw.of rfl (hts _ (by decide +kernel)), j2, kJ, j3, j4⟩, rfl⟩
  · intro k q hq
    match k, hq with
    | 0, hq => cases hq; exact hKn0
    | 1, hq => cases hq; exact hKn1
    | 2, hq => cases hq; exact hKn2
    | 3, hq => cases hq; exact hKn3
    | 4, hq => cases hq; exact hKn4
    | 5, hq => cases hq; exact hKn5
    | 6, hq => cases hq; exact hKn6
    | 7, hq => cases hq; exact hKn7
    | 8, hq => cases hq; exact hKn8
    | 9, hq => cases hq; exact hKn9
    | 10, hq => cases hq; exact hKn10
    | 11, hq => cases hq; exact hKn11
    | k + 12, hq => simp [vwCl] at hq
  · intro k q hq
    match k, hq with
    | 0, hq => cases hq; exact ⟨fun n z => ⟨fun k h => (by cases h), kB, b2, compB, b3⟩, b1⟩
    | 1, hq => cases hq; exact ⟨fun n z => ⟨fun k h => (by cases h), kI, i2, compI, i3⟩, i1⟩
    | k + 2, hq => simp at hq
  · intro i q hq
    have hi : i < 19 := (List.getElem?_eq_some_iff.mp hq).1
    have e := hv2 i hi
    unfold lw_tm at e
    rw [hq] at e
    have w := hts _ (lw_s7 i hi q hq)
    exact vk_R.of w e
  · have z := hs _ lw_s8.1
    refine va_Zof (hts (.laysStatic "java/lang/String" "COMPACT_STRINGS" "Z") (by decide +kernel)) (hts (.initialized "java/lang/String") (by decide +kernel)) (args := #[Value.ref b]) ?_ (fun a ha => Nat.not_le.mpr ha)
    exact Cond.eq_int z rfl
  · exact va_Zqof (hts (.laysStatic "jdk/internal/util/Preconditions" "SIOOBE_FORMATTER" "Ljava/util/function/BiFunction;") (by decide +kernel)) (hts (.initialized "jdk/internal/util/Preconditions") (by decide +kernel)) (hs _ lw_s8.2) (fun a ha => Nat.not_le.mpr ha)
