/-! the pure part: what the class writes of a group -/
def q_l8 (v : Int64) : List UInt8 := (List.range 8).map (fun i => q_by ((v >>> ((iN (8 * i)).toInt64 &&& 63)).toInt32))
theorem q_l8l (v : Int64) : (q_l8 v).length = 8 := by
  unfold q_l8
  rw [List.length_map, List.length_range]
theorem c_w8_h {L : Nat} {v : Int64} (hL : L ≤ 202000) : ∀ (m i n t : Nat) (o : Bool) (b : Nat → UInt8), i + m = 8 → m < n → t ≤ L → ∃ r, tw_WR_whole64_h2 v n (iN (8 * i)) (iN t) (iN L) o b = q_e4 L r ∧ q_C L t o b (((List.range 8).drop i).map (fun i => q_by ((v >>> ((iN (8 * i)).toInt64 &&& 63)).toInt32))) r := by
  intro m
  induction m with
  | zero =>
    intro i n t o b hi hn ht
    obtain ⟨n, rfl⟩ : ∃ m, n = m + 1 := ⟨n - 1, by omega⟩
    obtain rfl : i = 8 := by omega
    unfold tw_WR_whole64_h2
    rw [if_pos (show (64 : Int32) ≤ iN (8 * 8) by decide)]
    exact ⟨(t, o, b), rfl, q_C0 ht⟩
  | succ m ih =>
    intro i n t o b hi hn ht
    obtain ⟨n, rfl⟩ : ∃ m, n = m + 1 := ⟨n - 1, by omega⟩
    obtain ⟨r1, a1, a2⟩ := c_oc (L := L) (t := t) (o := o) (b := b) (x := (v >>> ((iN (8 * i)).toInt64 &&& 63)).toInt32) ht hL
    obtain ⟨r2, b1, b2⟩ := ih (i + 1) n r1.1 r1.2.1 r1.2.2 (by omega) (by omega) a2.2.2.1
    unfold tw_WR_whole64_h2
    rw [if_neg (by simp (disch := omega) only [i_64, iN_a, iN_c, iN_le, iN_lt, iN_eq, iN_i]; omega), a1, q_t4e, show iN (8 * i) + 8 = iN (8 * (i + 1)) from iN_a (8 * i) 8]
    refine ⟨r2, b1, ?_⟩
    rw [List.drop_eq_getElem_cons (by rw [List.length_range]; omega), List.map_cons, List.getElem_range]
    exact q_Ca a2 b2
theorem c_w8 {L t : Nat} {v : Int64} {o : Bool} {b : Nat → UInt8} (hL : L ≤ 202000) (ht : t ≤ L) : ∃ r, tw_WR_whole64 (iN t) (iN L) o b v = q_e4 L r ∧ q_C L t o b (q_l8 v) r :=
  c_w8_h hL 8 0 _ t o b (by omega) (by decide) ht
/-- the values of a group that are there -/
def q_pv (vs : List (Option q_V)) : List q_V := vs.filterMap id
theorem q_pvc (z : Option q_V) (vs : List (Option q_V)) : q_pv (z :: vs) = (match z with | none => q_pv vs | some z => z :: q_pv vs) := by
  cases z <;> rfl
/-- the best value of a list -/
def q_bs (u : Bool) (o : Option q_V) (l : List q_V) : Option q_V := l.foldl (fun o z => match o with | none => some z | some w => if q_sgn u (q_ov2 20 z w) = -1 then some z else some w) o
theorem q_bsc (u : Bool) (o : Option q_V) (z : q_V) (l : List q_V) : q_bs u o (z :: l) = q_bs u (match o with | none => some z | some w => if q_sgn u (q_ov2 20 z w) = -1 then some z else some w) l := rfl
/-- a reference to a value, or 0 -/
def q_kz (fb T : Nat) (b : Nat → UInt8) (x : Int32) (z : Option q_V) : Prop := match z with | none => x = 0 | some z => q_kg fb 162000 T b x z
theorem q_kgn {fb A T : Nat} {b : Nat → UInt8} {x : Int32} {z : q_V} (h : q_kg fb A T b x z) : ¬ x = 0 := by
  obtain ⟨Q, q1, q2, _, _, q5, _⟩ := h
  have kn := q_okn q2
  rw [q1]
  simp (disch := omega) only [i_0, iN_a, iN_c, iN_le, iN_lt, iN_eq, iN_i]
  omega
theorem c_lst_h {b : Nat → UInt8} {fb T : Nat} {u : Bool} {gvl : Nat → Int32} {vs : List (Option q_V)} (hv : q_vr fb T b gvl vs) (hl : vs.length ≤ 200) :
    ∀ (m i n : Nat) (x2 : Int32) (o : Option q_V), i + m = vs.length → m < n → q_kz fb T b x2 o → q_kz fb T b (tw_GR_least_h4 (iN vs.length) b gvl (if u = true then 1 else -1) n x2 (iN i)) (q_bs u o (q_pv (vs.drop i))) := by
  intro m
  induction m with
  | zero =>
    intro i n x2 o hi hn ho
    obtain ⟨n, rfl⟩ : ∃ m, n = m + 1 := ⟨n - 1, by omega⟩
    have : i = vs.length := by omega
    subst this
    unfold tw_GR_least_h4
    rw [if_pos (Int32.le_refl _), List.drop_length]
    exact ho
  | succ m ih =>
    intro i n x2 o hi hn ho
    obtain ⟨n, rfl⟩ : ∃ m, n = m + 1 := ⟨n - 1, by omega⟩
    have il : i < vs.length := by omega
    have V := hv i _ (List.getElem?_eq_getElem il)
    unfold tw_GR_least_h4
    rw [if_neg (by simp (disch := omega) only [iN_a, iN_c, iN_le, iN_lt, iN_eq, iN_i]; omega), iN_c (by omega), show iN i + 1 = iN (i + 1) from iN_a i 1, List.drop_eq_getElem_cons il, q_pvc]
    cases hz : vs[i] with
    | none =>
      rw [hz] at V
      have V : gvl i = 0 := V
      rw [if_pos V]
      exact ih (i + 1) n x2 o (by omega) (by omega) ho
    | some z =>
      rw [hz] at V
      have V : q_kg fb 162000 T b (gvl i) z := V
      try dsimp only
      rw [if_neg (q_kgn V), q_bsc]
      cases o with
      | none =>
        have ho : x2 = 0 := ho
        rw [if_pos ho]
        exact ih (i + 1) n (gvl i) (some z) (by omega) (by omega) V
      | some w =>
        have ho : q_kg fb 162000 T b x2 w := ho
        rw [if_neg (q_kgn ho), c_kr (q_kgr V) (q_kgr ho)]
        have sc := q_sc0 (u := u) (q_ov3 20 z.1 z.2 w.1 w.2)
        change (0 ≤ q_ov2 20 z w * _) = _ at sc
        try dsimp only
        by_cases c : q_sgn u (q_ov2 20 z w) = -1
        · rw [if_neg (by rw [sc]; exact fun q => q c), if_pos c]
          exact ih (i + 1) n (gvl i) (some z) (by omega) (by omega) V
        · rw [if_pos (by rw [sc]; exact c), if_neg c]
          exact ih (i + 1) n x2 (some w) (by omega) (by omega) ho
theorem c_lst {b : Nat → UInt8} {fb T : Nat} {u : Bool} {gvl : Nat → Int32} {vs : List (Option q_V)} (hv : q_vr fb T b gvl vs) (hl : vs.length ≤ 200) : q_kz fb T b (tw_GR_least (iN vs.length) b gvl (if u = true then 1 else -1)) (q_bs u none (q_pv vs)) := by
  have h := c_lst_h (u := u) hv hl vs.length 0 (((iN vs.length).toInt - (0 : Int32).toInt).toNat + 1) 0 none (by omega) (by rw [iN_i (by omega)]; show _ < ((vs.length : Nat) - (0 : Int)).toNat + 1; omega) rfl
  rw [List.drop_zero] at h
  exact h
theorem c_fst {b : Nat → UInt8} {fb T : Nat} {gvl : Nat → Int32} {vs : List (Option q_V)} (hv : q_vr fb T b gvl vs) (hl : vs.length ≤ 200) : q_kz fb T b (tw_GR_outermost (iN vs.length) gvl 0) (vs.headD none) := by
  unfold tw_GR_outermost
  rw [if_pos (show (0 : Int32) = 0 from rfl)]
  cases vs with
  | nil =>
    rw [if_pos (show iN ([] : List (Option q_V)).length ≤ 0 by decide)]
    rfl
  | cons z r =>
    rw [if_neg (by rw [List.length_cons] at hl ⊢; simp (disch := omega) only [i_0, iN_a, iN_c, iN_le, iN_lt, iN_eq, iN_i]; omega)]
    exact hv 0 z rfl
theorem c_lat {b : Nat → UInt8} {fb T : Nat} {gvl : Nat → Int32} {vs : List (Option q_V)} (hv : q_vr fb T b gvl vs) (hl : vs.length ≤ 200) : q_kz fb T b (tw_GR_outermost (iN vs.length) gvl 1) (vs.getLastD none) := by
  unfold tw_GR_outermost
  rw [if_neg (show ¬ (1 : Int32) = 0 by decide)]
  cases hq : vs with
  | nil =>
    rw [if_pos (show iN ([] : List (Option q_V)).length - 1 < 0 by decide)]
    rfl
  | cons z r =>
    have ne : vs ≠ [] := by rw [hq]; simp
    have l0 : 0 < vs.length := List.length_pos_iff.2 ne
    rw [← hq, iN_s1 (by omega), if_neg (by simp (disch := omega) only [i_0, iN_a, iN_c, iN_le, iN_lt, iN_eq, iN_i]; omega), if_neg (by simp (disch := omega) only [iN_a, iN_c, iN_le, iN_lt, iN_eq, iN_i]; omega), if_neg (by simp (disch := omega) only [i_200, iN_a, iN_c, iN_le, iN_lt, iN_eq, iN_i]; omega), iN_c (by omega)]
    have e : vs[vs.length - 1]? = some (vs.getLastD none) := by
      rw [← List.getLast?_eq_getElem?, List.getLast?_eq_some_getLast ne, List.getLastD_eq_getLast?, List.getLast?_eq_some_getLast ne]
      rfl
    exact hv _ _ e
/-- the same value once -/
def q_uq1 (kp : List q_V) : List q_V → List q_V
  | [] => []
  | z :: r => if kp.any (fun w => decide (q_ov2 20 w z = 0)) = true then q_uq1 kp r else z :: q_uq1 (kp ++ [z]) r
def q_dtw (kp : List q_V) : List (Option q_V) → List (Option q_V)
  | [] => []
  | none :: r => none :: q_dtw kp r
  | some z :: r => if kp.any (fun w => decide (q_ov2 20 w z = 0)) = true then none :: q_dtw kp r else some z :: q_dtw (kp ++ [z]) r
theorem q_dtp : ∀ (vs : List (Option q_V)) (kp : List q_V), q_pv (q_dtw kp vs) = q_uq1 kp (q_pv vs) := by
  intro vs
  induction vs with
  | nil => exact fun _ => rfl
  | cons z r ih =>
    intro kp
    cases z with
    | none =>
      show q_pv (none :: q_dtw kp r) = _
      rw [q_pvc, q_pvc]
      exact ih kp
    | some z =>
      rw [q_pvc]
      show q_pv (if kp.any (fun w => decide (q_ov2 20 w z = 0)) = true then none :: q_dtw kp r else some z :: q_dtw (kp ++ [z]) r) = if kp.any (fun w => decide (q_ov2 20 w z = 0)) = true then q_uq1 kp (q_pv r) else z :: q_uq1 (kp ++ [z]) (q_pv r)
      by_cases c : kp.any (fun w => decide (q_ov2 20 w z = 0)) = true
      · rw [if_pos c, if_pos c, q_pvc]
        exact ih kp
      · rw [if_neg c, if_neg c, q_pvc]
        show z :: q_pv (q_dtw (kp ++ [z]) r) = _
        rw [ih]
theorem q_dtl : ∀ (vs : List (Option q_V)) (kp : List q_V), (q_dtw kp vs).length = vs.length := by
  intro vs
  induction vs with
  | nil => exact fun _ => rfl
  | cons z r ih =>
    intro kp
    cases z with
    | none =>
      show (q_dtw kp r).length + 1 = _
      rw [ih, List.length_cons]
    | some z =>
      show (if kp.any (fun w => decide (q_ov2 20 w z = 0)) = true then none :: q_dtw kp r else some z :: q_dtw (kp ++ [z]) r).length = _
      split
      · rw [List.length_cons, ih, List.length_cons]
      · rw [List.length_cons, ih, List.length_cons]
/-- one value among those before it -/
theorem c_dt1 {b : Nat → UInt8} {fb T x1 : Nat} {held : Int32} {K : Int32 → (Nat → Int32) → (Nat → Int32)} {ds : List (Option q_V)} (hx : x1 = ds.length) (hx2 : x1 < 200) :
    ∀ (m j n : Nat) (gvl : Nat → Int32) (z : Option q_V), j + m = x1 → m < n → q_vr fb T b gvl ds → q_kz fb T b (gvl x1) z → (∀ j' w, ds[j']? = some (some w) → j' < j → ∀ y, z = some y → q_ov2 20 w y ≠ 0) →
    ∃ x2' gvl' z', tw_GR_dropTwins_h12 held b K (iN x1) n (iN j) gvl = K x2' gvl' ∧ (∀ i, i ≠ x1 → gvl' i = gvl i) ∧ q_kz fb T b (gvl' x1) z' ∧ z' = (match z with | none => none | some y => if (q_pv ds).any (fun w => decide (q_ov2 20 w y = 0)) = true then none else some y) := by
  have pvm : ∀ w, w ∈ q_pv ds ↔ some w ∈ ds := by
    intro w
    unfold q_pv
    rw [List.mem_filterMap]
    constructor
    · rintro ⟨a, h1, h2⟩
      have : a = some w := h2
      rwa [this] at h1
    · intro h
      exact ⟨some w, h, rfl⟩
  intro m
  induction m with
  | zero =>
    intro j n gvl z hj hn hv hz H
    obtain ⟨n, rfl⟩ : ∃ m, n = m + 1 := ⟨n - 1, by omega⟩
    have : j = x1 := by omega
    subst this
    unfold tw_GR_dropTwins_h12
    rw [if_pos (Int32.le_refl _)]
    refine ⟨_, gvl, z, rfl, fun _ _ => rfl, hz, ?_⟩
    cases z with
    | none => rfl
    | some y =>
      try dsimp only
      rw [if_neg]
      intro q
      obtain ⟨w, w1, w2⟩ := List.any_eq_true.1 q
      obtain ⟨j', hj'⟩ := List.mem_iff_getElem?.1 ((pvm w).1 w1)
      have := (List.getElem?_eq_some_iff.1 hj').1
      exact H j' w hj' (by omega) y rfl (of_decide_eq_true w2)
  | succ m ih =>
    intro j n gvl z hj hn hv hz H
    obtain ⟨n, rfl⟩ : ∃ m, n = m + 1 := ⟨n - 1, by omega⟩
    have jl : j < ds.length := by omega
    have V := hv j _ (List.getElem?_eq_getElem jl)
    unfold tw_GR_dropTwins_h12
    rw [if_neg (by simp (disch := omega) only [iN_a, iN_c, iN_le, iN_lt, iN_eq, iN_i]; omega), iN_c (by omega), iN_c (by omega)]
    cases z with
    | none =>
      have hz : gvl x1 = 0 := hz
      rw [if_pos hz]
      exact ⟨_, gvl, none, rfl, fun _ _ => rfl, hz, rfl⟩
    | some y =>
      have hz : q_kg fb 162000 T b (gvl x1) y := hz
      rw [if_neg (q_kgn hz), show iN j + 1 = iN (j + 1) from iN_a j 1]
      have cm : ∃ w : q_V, q_kr b (gvl j) w ∧ (∀ u, ds[j] = some u → w = u) ∧ (ds[j] = none → w = (0, [])) := by
        cases hd : ds[j] with
        | none =>
          rw [hd] at V
          have V : gvl j = 0 := V
          exact ⟨(0, []), (by rw [V]; exact q_kr0 b), (fun u q => by cases q), fun _ => rfl⟩
        | some u =>
          rw [hd] at V
          exact ⟨u, q_kgr V, (fun u' q => by cases q; rfl), (fun q => by cases q)⟩
      obtain ⟨w, w1, w2, w3⟩ := cm
      rw [c_kr w1 (q_kgr hz)]
      by_cases c : q_ov2 20 w y = 0
      · rw [if_pos c]
        cases hd : ds[j] with
        | none =>
          have e := w3 hd
          subst e
          exfalso
          obtain ⟨P, _, y2, _⟩ := hz
          have kn := q_okn y2
          have cl : q_cl (0 : UInt8) ≠ q_cl y.1 := by
            rcases q_okk y2 with h | h | h | h | h | h | h <;> rw [h] <;> decide
          have := q_ovc 20 0 [] y.1 y.2 cl
          change q_ov2 20 (0, []) y = _ at this
          rw [this] at c
          split at c <;> exact absurd c (by decide)
        | some u =>
          have e := w2 u hd
          subst e
          have H2 : q_ov2 20 w y = 0 := c
          obtain ⟨x2', gvl', z', g1, g2, g3, g4⟩ := ih (j + 1) n (upd gvl x1 0) none (by omega) (by omega) (fun i q hi => by
            have := (List.getElem?_eq_some_iff.1 hi).1
            rw [q_upn (by omega)]
            exact hv i q hi) q_upe (fun _ _ _ _ y q => by cases q)
          refine ⟨x2', gvl', z', g1, fun i hi => (g2 i hi).trans (q_upn hi), g3, ?_⟩
          rw [g4]
          try dsimp only
          rw [if_pos]
          refine List.any_eq_true.2 ⟨w, (pvm w).2 ?_, decide_eq_true H2⟩
          rw [← hd]
          exact List.getElem_mem jl
      · rw [if_neg c]
        refine ih (j + 1) n gvl (some y) (by omega) (by omega) hv hz (fun j' u hj' hlt y' hy' => ?_)
        by_cases e : j' = j
        · subst e
          cases hy'
          rw [List.getElem?_eq_getElem jl] at hj'
          injection hj' with hj'
          rw [← w2 u hj']
          exact c
        · exact H j' u hj' (by omega) y' hy'
theorem c_dt_h {b : Nat → UInt8} {fb T : Nat} :
    ∀ (vs : List (Option q_V)) (ds : List (Option q_V)) (n : Nat) (gvl : Nat → Int32), ds.length + vs.length ≤ 200 → vs.length < n → q_vr fb T b gvl (ds ++ vs) → q_vr fb T b (tw_GR_dropTwins_h2 (iN (ds.length + vs.length)) b n (iN ds.length) gvl) (ds ++ q_dtw (q_pv ds) vs) := by
  intro vs
  induction vs with
  | nil =>
    intro ds n gvl hl hn hv
    obtain ⟨n, rfl⟩ : ∃ m, n = m + 1 := ⟨n - 1, by omega⟩
    unfold tw_GR_dropTwins_h2
    rw [List.length_nil, Nat.add_zero, if_pos (Int32.le_refl _)]
    exact hv
  | cons z vs ih =>
    intro ds n gvl hl hn hv
    rw [List.length_cons] at hl hn
    obtain ⟨n, rfl⟩ : ∃ m, n = m + 1 := ⟨n - 1, by omega⟩
    have vd : q_vr fb T b gvl ds := fun j u hj => hv j u (by rw [List.getElem?_append_left (List.getElem?_eq_some_iff.1 hj).1]; exact hj)
    have vz : q_kz fb T b (gvl ds.length) z := hv ds.length z (by rw [List.getElem?_append_right (Nat.le_refl _), Nat.sub_self]; rfl)
    unfold tw_GR_dropTwins_h2
    rw [List.length_cons, if_neg (by simp (disch := omega) only [iN_a, iN_c, iN_le, iN_lt, iN_eq, iN_i]; omega)]
    obtain ⟨x2', gvl', z', g1, g2, g3, g4⟩ := c_dt1 (held := iN (ds.length + (vs.length + 1))) (K := fun (x2_5 : Int32) (gvl_5 : Nat → Int32) => tw_GR_dropTwins_h2 (iN (ds.length + (vs.length + 1))) b n (iN ds.length + 1) gvl_5) (x1 := ds.length) rfl (by omega) ds.length 0 (((iN ds.length).toInt - (0 : Int32).toInt).toNat + 1) gvl z (by omega) (by rw [iN_i (by omega)]; show _ < ((ds.length : Nat) - (0 : Int)).toNat + 1; omega) vd vz (fun _ _ _ q => absurd q (by omega))
    rw [show iN 0 = (0 : Int32) from rfl] at g1
    rw [g1, show iN ds.length + 1 = iN (ds.length + 1) from iN_a _ 1]
    have I := ih (ds ++ [z']) n gvl' (by rw [List.length_append, List.length_singleton]; omega) (by omega) (fun j u hj => by
      by_cases c : j = ds.length
      · subst c
        rw [List.append_assoc, List.getElem?_append_right (Nat.le_refl _), Nat.sub_self] at hj
        injection hj with hj
        rw [← hj]
        exact g3
      · rw [g2 j c]
        refine hv j u ?_
        by_cases c2 : j < ds.length
        · rw [List.append_assoc, List.getElem?_append_left c2] at hj
          rw [List.getElem?_append_left c2]
          exact hj
        · rw [List.append_assoc, List.getElem?_append_right (by omega)] at hj
          rw [List.getElem?_append_right (by omega)]
          obtain ⟨i, hi⟩ : ∃ i, j - ds.length = i + 1 := ⟨j - ds.length - 1, by omega⟩
          rw [hi] at hj ⊢
          exact hj)
    rw [List.length_append, List.length_singleton, show ds.length + 1 + vs.length = ds.length + (vs.length + 1) by omega, List.append_assoc] at I
    have e : [z'] ++ q_dtw (q_pv (ds ++ [z'])) vs = q_dtw (q_pv ds) (z :: vs) := by
      have pa : q_pv (ds ++ [z']) = q_pv ds ++ q_pv [z'] := List.filterMap_append
      rw [pa]
      cases z with
      | none =>
        subst g4
        show none :: q_dtw (q_pv ds ++ []) vs = none :: q_dtw (q_pv ds) vs
        rw [List.append_nil]
      | some y =>
        show _ = if (q_pv ds).any (fun w => decide (q_ov2 20 w y = 0)) = true then none :: q_dtw (q_pv ds) vs else some y :: q_dtw (q_pv ds ++ [y]) vs
        dsimp only at g4
        by_cases c : (q_pv ds).any (fun w => decide (q_ov2 20 w y = 0)) = true
        · rw [if_pos c] at g4 ⊢
          subst g4
          show none :: q_dtw (q_pv ds ++ []) vs = none :: q_dtw (q_pv ds) vs
          rw [List.append_nil]
        · rw [if_neg c] at g4 ⊢
          subst g4
          rfl
    rw [e] at I
    exact I
theorem c_dt {b : Nat → UInt8} {fb T : Nat} {gvl : Nat → Int32} {vs : List (Option q_V)} (hv : q_vr fb T b gvl vs) (hl : vs.length ≤ 200) : q_vr fb T b (tw_GR_dropTwins (iN vs.length) b gvl) (q_dtw [] vs) := by
  unfold tw_GR_dropTwins
  cases vs with
  | nil =>
    intro j z hj
    cases hj
  | cons z r =>
    have h := c_dt_h (b := b) (fb := fb) (T := T) r [z] (((iN (z :: r).length).toInt - (1 : Int32).toInt).toNat + 1) gvl (by rw [List.length_singleton]; rw [List.length_cons] at hl; omega) (by rw [iN_i (by omega), List.length_cons]; show _ < ((r.length + 1 : Nat) - (1 : Int)).toNat + 1; omega) hv
    rw [List.length_singleton, show 1 + r.length = (z :: r).length by rw [List.length_cons]; omega] at h
    have e : [z] ++ q_dtw (q_pv [z]) r = q_dtw [] (z :: r) := by
      cases z <;> rfl
    rw [e] at h
    exact h
