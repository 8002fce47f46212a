/-! the pure part: $lookup; the class's documents -/
def q_blg (xs ys : List (List UInt8)) (D E : List UInt8) : Bool := (q_lvw (q_lD xs D)).any (fun z => (q_lvw (q_lD ys E)).any (fun w => decide (q_ov2 20 z w = 0)))
theorem q_lvE {xs : List (List UInt8)} {v : List UInt8} (ho : q_ok 16 3 v) (hv : v.length ≤ 2000) (hx : ∀ x ∈ xs, q_gs x) (hx0 : xs ≠ []) (w : q_V) : w ∈ q_lvw (q_lE xs v) ↔ w ∈ q_lvw (q_lD xs v) := by
  obtain ⟨l1, _, _⟩ := q_lEf ho (by omega) hv hx hx0
  have em : q_lE xs v = [] ↔ q_lD xs v = [] := by
    constructor
    · intro q
      apply List.eq_nil_iff_forall_not_mem.2
      intro z hz
      have := (l1 z).2 hz
      rw [q] at this
      cases this
    · intro q
      apply List.eq_nil_iff_forall_not_mem.2
      intro z hz
      have := (l1 z).1 hz
      rw [q] at this
      cases this
  unfold q_lvw
  by_cases c : q_lE xs v = []
  · rw [if_pos c, if_pos (em.1 c)]
  · rw [if_neg c, if_neg (fun q => c (em.2 q)), List.mem_map, List.mem_map]
    exact ⟨fun ⟨a, h1, h2⟩ => ⟨a, (l1 a).1 h1, h2⟩, fun ⟨a, h1, h2⟩ => ⟨a, (l1 a).2 h1, h2⟩⟩
/-- what is remembered says what belongs -/
theorem q_blE {EE : q_E} {xs ys B : List (List UInt8)} {D : List UInt8} {d : Nat} (hF : q_FC EE ys B B.length) (hB : q_FO B) (hd : d < B.length) (ho : q_ok 16 3 D) (hv : D.length ≤ 2000) (hx : ∀ x ∈ xs, q_gs x) (hx0 : xs ≠ []) (hy : ∀ x ∈ ys, q_gs x) (hy0 : ys ≠ []) :
    (∃ z ∈ q_lvw (q_lE xs D), ∃ y ∈ EE, y.2 = d ∧ q_ov2 20 z y.1 = 0) ↔ q_blg xs ys D (B.getD d []) = true := by
  have gd := q_gdd (List.getElem?_eq_getElem hd)
  obtain ⟨b1, b2⟩ := hB.2.2 _ (List.getElem_mem hd)
  unfold q_blg
  rw [List.any_eq_true]
  constructor
  · rintro ⟨z, z1, y, y1, y2, y3⟩
    have m := (hF.1 y y1).2
    rw [y2, gd] at m
    refine ⟨z, (q_lvE ho hv hx hx0 z).1 z1, List.any_eq_true.2 ⟨y.1, ?_, decide_eq_true y3⟩⟩
    rw [gd]
    exact (q_lvE b1 b2 hy hy0 y.1).1 m
  · rintro ⟨z, z1, z2⟩
    obtain ⟨w, w1, w2⟩ := List.any_eq_true.1 z2
    rw [gd] at w1
    obtain ⟨y, y1, y2, y3⟩ := hF.2 d hd w (by rw [gd]; exact (q_lvE b1 b2 hy hy0 w).2 w1)
    exact ⟨z, (q_lvE ho hv hx hx0 z).2 z1, y, y1, y2, q_PO0 (q_ovp 20) (of_decide_eq_true w2) y3⟩
def q_lkD (xs ys : List (List UInt8)) (nm : List UInt8) (B : List (List UInt8)) (D : List UInt8) : List UInt8 := q_bx (q_lkE nm (q_bx (q_rn 0 (q_mi (fun d => q_blg xs ys D (B.getD d [])) B 0))) (q_ps D))
theorem q_fnz {x : List UInt8} : ∀ {ps : List q_P}, q_fn x ps = none → ∀ y ∈ ps, y.2.1 ≠ x := by
  intro ps
  induction ps with
  | nil => exact fun _ y h => by cases h
  | cons a r ih =>
    intro h y hy
    rw [q_fnc] at h
    by_cases c : a.2.1 = x
    · rw [if_pos c] at h
      cases h
    · rw [if_neg c] at h
      rcases List.mem_cons.1 hy with e | e
      · rw [e]
        exact c
      · refine ih ?_ y e
        cases hq : q_fn x r with
        | none => rfl
        | some z =>
          rw [hq] at h
          cases h
theorem q_pg0 : ∀ {l : List UInt8}, q_pg l = true → (0 : UInt8) ∉ l := by
  intro l
  induction l with
  | nil => exact fun _ h => by cases h
  | cons y l ih =>
    intro h q
    unfold q_pg at h
    by_cases c : y = 46
    · rw [if_pos c] at h
      cases h
    rw [if_neg c] at h
    by_cases c2 : y = 0
    · rw [if_pos c2] at h
      cases h
    rw [if_neg c2] at h
    rcases List.mem_cons.1 q with e | e
    · exact c2 e.symm
    · exact ih h e
theorem q_pln0 {l : List UInt8} (h : q_pln l = true) : (0 : UInt8) ∉ l := by
  unfold q_pln at h
  cases l with
  | nil => exact fun q => by cases q
  | cons y r =>
    dsimp only at h
    split at h
    · cases h
    · exact q_pg0 h
theorem q_mil (p : Nat → Bool) (B : List (List UInt8)) : (q_mi p B 0).length ≤ B.length ∧ ∀ z ∈ q_mi p B 0, z.1 = 3 ∧ z.2 ∈ B := by
  unfold q_mi
  rw [List.drop_zero]
  refine ⟨?_, fun z hz => ?_⟩
  · rw [List.length_map]
    have := (List.filter_sublist (l := List.range B.length) (p := p)).length_le
    rw [List.length_range] at this
    exact this
  · obtain ⟨d, hd, rfl⟩ := List.mem_map.1 hz
    have dl := List.mem_range.1 (List.mem_filter.1 hd).1
    refine ⟨rfl, ?_⟩
    show B.getD d [] ∈ B
    rw [q_gdd (List.getElem?_eq_getElem dl)]
    exact List.getElem_mem dl
theorem q_lko {xs ys B : List (List UInt8)} {nm D : List UInt8} (hB : q_FO B) (hD : q_ok 16 3 D) (hl : D.length ≤ 2000) (hn : q_pln nm = true) : q_ok 18 3 (q_lkD xs ys nm B D) := by
  obtain ⟨e, ps, he, rfl, o1, o2⟩ := q_okd hD (Or.inl rfl)
  unfold q_lkD
  rw [q_psb o1 (by omega)]
  generalize (fun d => q_blg xs ys (q_bx ps) (B.getD d [])) = p
  obtain ⟨m1, m2⟩ := q_mil p B
  have row : q_ok 17 4 (q_bx (q_rn 0 (q_mi p B 0))) := q_okrow (fun z hz => by
    obtain ⟨a1, a2⟩ := m2 z hz
    rw [a1]
    exact (hB.2.2 _ a2).1) (by have := hB.1; omega)
  have z0 := q_pln0 hn
  refine q_okb (Or.inl rfl) ?_ ⟨fun _ => ?_, fun q => absurd q (by decide)⟩
  · intro u hu
    unfold q_lkE at hu
    cases hq : q_fn nm ps with
    | none =>
      rw [hq] at hu
      rcases List.mem_append.1 hu with q | q
      · exact ⟨(o1 u q).1, q_okm (o1 u q).2 (by omega)⟩
      · rw [List.mem_singleton.1 q]
        exact ⟨z0, row⟩
    | some y =>
      rw [hq] at hu
      obtain ⟨v, hv, rfl⟩ := List.mem_map.1 hu
      refine ⟨by rw [q_r1n]; exact (o1 v hv).1, ?_⟩
      unfold q_r1
      split
      · exact row
      · exact q_okm (o1 v hv).2 (by omega)
  · unfold q_lkE
    cases hq : q_fn nm ps with
    | none =>
      dsimp only
      rw [List.map_append, List.nodup_append]
      refine ⟨o2.1 rfl, by simp, ?_⟩
      intro a ha c hc q
      rw [List.map_cons, List.map_nil, List.mem_singleton] at hc
      obtain ⟨v, hv, rfl⟩ := List.mem_map.1 ha
      exact q_fnz hq v hv (q.trans hc)
    | some y =>
      dsimp only
      rw [List.map_map]
      have : ((fun x : q_P => x.2.1) ∘ q_r1 nm (4, q_bx (q_rn 0 (q_mi p B 0))) none) = (fun x : q_P => x.2.1) := by
        funext v
        exact q_r1n _ _ _ _
      rw [this]
      exact o2.1 rfl
abbrev q_M14 : Type := Bool × Int32 × Int32 × Bool × (Nat → UInt8) × Int32 × (Nat → Int32) × Int32 × Int32 × Int32 × Bool × (Nat → Int32) × (Nat → Int32) × (Nat → Int32)
theorem c_33 {kb fb : Nat} {b : Nat → UInt8} {EE : q_E} {fict fbase kbase nbase fcnt kcnt pcnt p0 x2 place limit ncnt plc psr pbs : Int32} {full pms : Bool} {fsts ksts pst pen pix fch fnx flv fhs fdo nsts plv psn : Nat → Int32} {C : Int32 → Int32 → Int32 → Bool → (Nat → UInt8) → Int32 → (Nat → Int32) → Int32 → Int32 → Int32 → Bool → (Nat → Int32) → (Nat → Int32) → (Nat → Int32) → q_M14} {ws : List q_V} (h : q_FE kb b EE fict fch fnx flv fhs fdo) (hl : EE.length ≤ 13533) (hw : tw_FI_leavesToTake plc = iN ws.length) (hwl : ws.length ≤ 2000) (hv : ∀ i z, ws[i]? = some z → q_kg fb 0 0 b (tw_FI_leafToTake plc plv (iN i)) z) :
    ∀ (m i n : Nat) (fow : Nat → Int32), i + m = ws.length → m < n → ∃ fow', tw_FI_matchAll_h33 fbase kbase nbase fict fcnt fsts kcnt ksts pcnt pst pen pix fch fnx flv fhs fdo C p0 x2 n (iN i) place limit full b ncnt nsts plc psr pbs pms plv psn fow = C (iN ws.length) place limit full b ncnt nsts plc psr pbs pms plv psn fow' ∧ (∀ d, (∃ j z, i ≤ j ∧ ws[j]? = some z ∧ ∃ y ∈ EE, y.2 = d ∧ q_ov2 20 z y.1 = 0) → fow' d = x2) ∧ (∀ d, ¬ (∃ j z, i ≤ j ∧ ws[j]? = some z ∧ ∃ y ∈ EE, y.2 = d ∧ q_ov2 20 z y.1 = 0) → fow' d = fow d) := by
  intro m
  induction m with
  | zero =>
    intro i n fow hi hn
    obtain ⟨n, rfl⟩ : ∃ m, n = m + 1 := ⟨n - 1, by omega⟩
    have : i = ws.length := by omega
    subst this
    unfold tw_FI_matchAll_h33
    rw [hw, if_pos (Int32.le_refl _)]
    refine ⟨fow, rfl, fun d q => ?_, fun _ _ => rfl⟩
    obtain ⟨j, z, j1, j2, _⟩ := q
    have := (List.getElem?_eq_some_iff.1 j2).1
    omega
  | succ m ih =>
    intro i n fow hi hn
    obtain ⟨n, rfl⟩ : ∃ m, n = m + 1 := ⟨n - 1, by omega⟩
    have il : i < ws.length := by omega
    have e := List.getElem?_eq_getElem il
    obtain ⟨m1, m2⟩ := c_mt (p1 := x2) (fow := fow) h hl (q_kgr (hv i _ e))
    unfold tw_FI_matchAll_h33
    rw [hw, if_neg (by simp (disch := omega) only [iN_a, iN_c, iN_le, iN_lt, iN_eq, iN_i]; omega), q_tp1]
    generalize tw_FI_match fict b fch fnx flv fhs fdo fow (tw_FI_leafToTake plc plv (iN i)) x2 = fow1 at *
    obtain ⟨fow', t1, t2, t3⟩ := ih (i + 1) n fow1 (by omega) (by omega)
    rw [show iN i + 1 = iN (i + 1) from iN_a i 1]
    refine ⟨fow', t1, fun d q => ?_, fun d q => ?_⟩
    · by_cases w : ∃ j z, i + 1 ≤ j ∧ ws[j]? = some z ∧ ∃ y ∈ EE, y.2 = d ∧ q_ov2 20 z y.1 = 0
      · exact t2 d w
      · obtain ⟨j, z, j1, j2, j3⟩ := q
        have cj : j = i := by
          by_cases cj : j = i
          · exact cj
          · exact absurd ⟨j, z, by omega, j2, j3⟩ w
        subst cj
        rw [e] at j2
        cases j2
        rw [t3 d w]
        exact m1 d j3
    · rw [t3 d (fun ⟨j, z, j1, j2, j3⟩ => q ⟨j, z, by omega, j2, j3⟩)]
      exact m2 d (fun j3 => q ⟨i, _, Nat.le_refl _, e, j3⟩)
theorem c_ma_h {fb kb nb W : Nat} {EE : q_E} {fict fcnt kcnt : Int32} {fsts ksts pst pen pix fch fnx flv fhs fdo : Nat → Int32} {F B xs ys : List (List UInt8)} {nm : List UInt8} (hdf : fb + 40000 ≤ nb ∨ nb + 40000 ≤ fb) (hdk : kb + 40000 ≤ nb ∨ nb + 40000 ≤ kb) (hl : EE.length ≤ 13533) (hF : q_FC EE ys B B.length) (hx : ∀ x ∈ xs, q_gs x) (hx0 : xs ≠ []) (hx8 : xs.length ≤ 8) (hy : ∀ x ∈ ys, q_gs x) (hy0 : ys ≠ []) (hn : q_pln nm = true) (hW : W + (q_tx nm).length ≤ 2000) :
    ∀ (m i n r : Nat) (place limit : Int32) (full : Bool) (b : Nat → UInt8) (ncnt : Int32) (nsts : Nat → Int32) (plc pbs : Int32) (pms : Bool) (plv psn fow : Nat → Int32) (N : List (List UInt8)), i + m = F.length → m < n → r + m < 2000000000 → q_psn psn r → q_pa b pst pen pix xs → sb b W (q_tx nm) → q_be b fb fcnt fsts F → q_be b kb kcnt ksts B → q_be b nb ncnt nsts N → q_FE kb b EE fict fch fnx flv fhs fdo → (∀ d, d < 200 → fow d = -1 ∨ ∃ j, j < i ∧ fow d = iN j) →
    ∃ pl l f b' c s plc' r' pbs' pms' plv' psn' fow' M, tw_FI_matchAll_h2 (iN fb) (iN kb) (iN nb) fict fcnt fsts kcnt ksts (iN xs.length) pst pen pix fch fnx flv fhs fdo (iN (32 * W + 2)) n (iN i) place limit full b ncnt nsts plc (iN r) pbs pms plv psn fow = ((q_run (some N) ((F.drop i).map (q_lkD xs ys nm B))).isSome, pl, l, f, b', c, s, plc', iN r', pbs', pms', plv', psn', fow') ∧ q_be b' nb c s M ∧ (∀ R, q_run (some N) ((F.drop i).map (q_lkD xs ys nm B)) = some R → M = R) ∧ r' ≤ r + m ∧ q_psn psn' r' ∧ (∀ j, j < nb ∨ nb + 40000 ≤ j → b' j = b j) := by
  intro m
  induction m with
  | zero =>
    intro i n r place limit full b ncnt nsts plc pbs pms plv psn fow N hi hn hr hs hpa hnm hbf hbk h hE hfow
    obtain ⟨n, rfl⟩ : ∃ m, n = m + 1 := ⟨n - 1, by omega⟩
    have : i = F.length := by omega
    subst this
    unfold tw_FI_matchAll_h2
    rw [if_pos (by rw [hbf.1]; exact Int32.le_refl _), List.drop_length]
    exact ⟨_, _, _, _, _, _, _, r, _, _, _, _, _, N, rfl, h, (fun R q => by cases q; rfl), by omega, hs, fun _ _ => rfl⟩
  | succ m ih =>
    intro i n r place limit full b ncnt nsts plc pbs pms plv psn fow N hi hn' hr hs hpa hnm hbf hbk h hE hfow
    obtain ⟨n, rfl⟩ : ∃ m, n = m + 1 := ⟨n - 1, by omega⟩
    have il : i < F.length := by omega
    have F1 := hbf.2.2.2.1.1
    have F2 := hbf.2.2.2.1.2.1
    have F5 := hbf.2.2.2.2.1
    have F6 := hbf.2.2.2.2.2.1
    have B1 := hbk.2.2.2.1.1
    have B2 := hbk.2.2.2.1.2.1
    have B6 := hbk.2.2.2.2.2.1
    have N6 := h.2.2.2.2.2.1
    have hk : F[i]? = some F[i] := List.getElem?_eq_getElem il
    obtain ⟨d1, d2, d3, d4⟩ := q_bed hbf hk
    have bsd := q_bsd hbf (show i ≤ F.length by omega)
    obtain ⟨le1, le2, le3⟩ := q_lEf d2 (by omega) d3 hx hx0
    obtain ⟨plv', psn', pms', e1, e2, e3⟩ := q_fl (psr := iN r) (plc := plc) (pbs := pbs) (pms := pms) (plv := plv) (psn := psn) (by omega) hx hx0 hx8 hpa d2 (by omega) d1 d3 (by
      intro o ho q
      obtain ⟨s, s1, s2⟩ := hs o ho
      rw [s2, show iN r + 1 = iN (r + 1) from iN_a r 1, iN_eq (by omega) (by omega)] at q
      omega)
    rw [show iN r + 1 = iN (r + 1) from iN_a r 1] at e1 e3
    have hs' : q_psn psn' (r + 1) := by
      intro o ho
      rcases e3 o ho with q | q
      · exact ⟨r + 1, Nat.le_refl _, q⟩
      · obtain ⟨s, s1, s2⟩ := hs o ho
        exact ⟨s, by omega, q.trans s2⟩
    have ll := q_lwl (q_lE xs F[i])
    have lt := c_ltt (n := (q_lE xs F[i]).length) (by omega)
    rw [← ll] at lt
    have wl : (q_lvw (q_lE xs F[i])).length ≤ 2000 := by
      rw [ll]
      split <;> omega
    have lft := c_lft (fb := fb) (plv := plv') d2 d3 d1 (by omega) (by omega) F5 hx hx0 e2
    have H := fun C => c_33 (kb := kb) (fb := fb) (b := b) (EE := EE) (fict := fict) (fbase := iN fb) (kbase := iN kb) (nbase := iN nb) (fcnt := fcnt) (kcnt := kcnt) (pcnt := iN xs.length) (p0 := iN (32 * W + 2)) (x2 := iN i) (place := place) (limit := limit) (ncnt := ncnt) (plc := iN (q_lE xs F[i]).length) (psr := iN (r + 1)) (pbs := iN (fb + q_pf F i)) (full := full) (pms := pms') (fsts := fsts) (ksts := ksts) (pst := pst) (pen := pen) (pix := pix) (fch := fch) (fnx := fnx) (flv := flv) (fhs := fhs) (fdo := fdo) (nsts := nsts) (plv := plv') (psn := psn') (C := C) (ws := q_lvw (q_lE xs F[i])) hE hl lt wl lft (q_lvw (q_lE xs F[i])).length 0 ((((tw_FI_leavesToTake (iN (q_lE xs F[i]).length)).toInt - (0 : Int32).toInt).toNat) + 1) fow (by omega) (by rw [lt, iN_i (by omega)]; show _ < (((q_lvw (q_lE xs F[i])).length : Nat) - (0 : Int)).toNat + 1; omega)
    unfold tw_FI_matchAll_h2
    rw [if_neg (by rw [hbf.1]; simp (disch := omega) only [iN_a, iN_c, iN_le, iN_lt, iN_eq, iN_i]; omega), bsd, e1, q_tp6]
    try dsimp only
    obtain ⟨fow1, t1, t2, t3⟩ := H _
    rw [show iN 0 = (0 : Int32) from rfl] at t1
    rw [t1]
    try dsimp only
    have ne : ∀ d, d < 200 → fow d ≠ iN i := by
      intro d hd q
      rcases hfow d hd with w | ⟨j, j1, j2⟩
      · rw [w] at q
        have hlt : iN 0 ≤ iN i := (iN_le (by omega) (by omega)).2 (Nat.zero_le _)
        rw [← q] at hlt
        exact absurd hlt (by decide)
      · rw [j2, iN_eq (by omega) (by omega)] at q
        omega
    have pd : ∀ d, d < B.length → (fow1 d = iN i ↔ (fun d => q_blg xs ys F[i] (B.getD d [])) d = true) := by
      intro d hd
      have bl := q_blE (xs := xs) hF hbk.2.2.2.1 hd d2 d3 hx hx0 hy hy0
      constructor
      · intro q
        by_cases w : ∃ j z, 0 ≤ j ∧ (q_lvw (q_lE xs F[i]))[j]? = some z ∧ ∃ y ∈ EE, y.2 = d ∧ q_ov2 20 z y.1 = 0
        · obtain ⟨j, z, _, j2, j3⟩ := w
          exact bl.1 ⟨z, List.mem_of_getElem? j2, j3⟩
        · rw [t3 d w] at q
          exact absurd q (ne d (by omega))
      · intro q
        obtain ⟨z, z1, z2⟩ := bl.2 q
        obtain ⟨j, hj⟩ := List.mem_iff_getElem?.1 z1
        exact t2 d ⟨j, z, Nat.zero_le _, hj, z2⟩
    obtain ⟨r', w1, w2⟩ := c_wm (fb := fb) (i := i) (place := place) (limit := limit) (full := full) hdk hdf hbk h d1 d2 d3 (by omega) (by omega) F5 F6 hnm hW pd
    have ok := q_lko (xs := xs) (ys := ys) hbk.2.2.2.1 d2 d3 hn
    obtain ⟨c', s', a1, a2⟩ := c_acc (limit := iN (q_nL nb N)) h w2 ok (by omega)
    obtain ⟨n1, n2, n3, n4⟩ := c_next (place := place) (limit := limit) (full := full) h
    have fr : ∀ j, j < nb ∨ nb + 40000 ≤ j → r'.2.2 j = b j := fun j hj => w2.1 j (by omega)
    rw [w1, q_t4e, a1, q_tp3, List.drop_eq_getElem_cons il, List.map_cons, q_runc]
    try dsimp only
    change q_be r'.2.2 nb c' s' ((q_more (some N) (q_lkD xs ys nm B F[i])).getD N) at a2
    rw [show q_bx (q_lkE nm (q_bx (q_rn 0 (q_mi (fun d => q_blg xs ys F[i] (B.getD d [])) B 0))) (q_ps F[i])) = q_lkD xs ys nm B F[i] from rfl]
    cases hmr : q_more (some N) (q_lkD xs ys nm B F[i]) with
    | none =>
      rw [hmr] at a2
      rw [q_runn, if_pos (show b2i (none : Option (List (List UInt8))).isSome = 0 from rfl)]
      exact ⟨_, _, _, _, _, _, _, r + 1, _, _, _, _, _, N, rfl, a2, (fun R q => by cases q), by omega, hs', fr⟩
    | some N' =>
      rw [hmr] at a2
      rw [if_neg (show ¬ b2i (some N').isSome = 0 from (by decide : ¬ b2i true = 0)), show iN i + 1 = iN (i + 1) from iN_a i 1]
      obtain ⟨b1, b2, b3, b4, b5, b6, b7, b8, b9, b10, b11, b12, b13, M, u1, u2, u3, u4, u5, u6⟩ := ih (i + 1) n (r + 1) (iN r'.1) (iN (q_nL nb N)) r'.2.1 r'.2.2 c' s' (iN (q_lE xs F[i]).length) (iN (fb + q_pf F i)) pms' plv' psn' fow1 N' (by omega) (by omega) (by omega) hs' (q_paf hpa (fun j hj => fr j (by omega))) (sb_fr hnm (fun j u v => fr j (by omega))) (q_bef hbf (fun j u v => fr j (by omega))) (q_bef hbk (fun j u v => fr j (by omega))) a2 ⟨hE.1, fun e y he => by
        obtain ⟨x1, x2⟩ := hE.2.1 e y he
        exact ⟨q_kgf x1 (Nat.le_refl _) (fun j hj => fr j (by omega)), x2⟩, hE.2.2⟩ (fun d hd => by
        by_cases w : ∃ j z, 0 ≤ j ∧ (q_lvw (q_lE xs F[i]))[j]? = some z ∧ ∃ y ∈ EE, y.2 = d ∧ q_ov2 20 z y.1 = 0
        · exact Or.inr ⟨i, by omega, t2 d w⟩
        · rw [t3 d w]
          rcases hfow d hd with q | ⟨j, j1, j2⟩
          · exact Or.inl q
          · exact Or.inr ⟨j, by omega, j2⟩)
      exact ⟨b1, b2, b3, b4, b5, b6, b7, b8, b9, b10, b11, b12, b13, M, u1, u2, u3, by omega, u5, fun j hj => (u6 j hj).trans (fr j hj)⟩
