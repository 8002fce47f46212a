/-! the pure part: the new belt -/
def q_more (N : Option (List (List UInt8))) (d : List UInt8) : Option (List (List UInt8)) :=
  match N with
  | none => none
  | some N => if q_room N d = true ∧ d.length ≤ 2000 ∧ q_dp 20 3 d ≤ 16 then some (N ++ [d]) else none
theorem q_moren (d : List UInt8) : q_more none d = none := rfl
theorem q_mores (N : List (List UInt8)) (d : List UInt8) : q_more (some N) d = if q_room N d = true ∧ d.length ≤ 2000 ∧ q_dp 20 3 d ≤ 16 then some (N ++ [d]) else none := rfl
def q_fr (st : Nat → Int32) (frs frt top : Int32) (tgr : Bool) (ffr fsz : Nat → Int32) (N : Option (List (List UInt8))) : Prop :=
  match N with
  | none => tgr = true
  | some N => tgr = false ∧ frs = iN N.length ∧ frt = iN N.flatten.length ∧ top = iN (80000 + N.flatten.length) ∧ (∀ i d, N[i]? = some d → ffr i = iN (80000 + q_pf N i) ∧ fsz i = iN d.length) ∧ sm st 80000 N.flatten ∧ q_FO N
def q_tp (N : Option (List (List UInt8))) : Nat :=
  match N with
  | none => 80000
  | some N => 80000 + N.flatten.length
theorem q_tpl {st : Nat → Int32} {frs frt top : Int32} {tgr : Bool} {ffr fsz : Nat → Int32} {N : Option (List (List UInt8))} (h : q_fr st frs frt top tgr ffr fsz N) : 80000 ≤ q_tp N ∧ q_tp N ≤ 120000 := by
  cases N with
  | none => exact ⟨Nat.le_refl _, by show 80000 ≤ 120000; omega⟩
  | some N =>
    have := h.2.2.2.2.2.2.2.1
    show 80000 ≤ 80000 + N.flatten.length ∧ 80000 + N.flatten.length ≤ 120000
    omega
theorem q_frf {st st' : Nat → Int32} {frs frt top : Int32} {tgr : Bool} {ffr fsz : Nat → Int32} {N : Option (List (List UInt8))} (h : q_fr st frs frt top tgr ffr fsz N) (hf : ∀ j, 80000 ≤ j → j < q_tp N → st' j = st j) : q_fr st' frs frt top tgr ffr fsz N := by
  cases N with
  | none => exact h
  | some N =>
    obtain ⟨h1, h2, h3, h4, h5, h6, h7⟩ := h
    exact ⟨h1, h2, h3, h4, h5, sm_fr h6 hf, h7⟩
theorem r_ba {fu : Nat} {st ffr fsz : Nat → Int32} {frs frt top : Int32} {tgr : Bool} : tw_MO_beginAll fu frs frt top tgr = some (0, 0, 80000, false) ∧ q_fr st 0 0 80000 false ffr fsz (some []) := by
  refine ⟨rfl, rfl, rfl, rfl, rfl, ?_, trivial, Nat.zero_le _, Nat.zero_le _, ?_⟩
  · intro i d h
    cases h
  · intro d hd
    cases hd
theorem r_bd {fu : Nat} {st ffr fsz : Nat → Int32} {frs frt top bgn mst : Int32} {tgr ovr : Bool} {N : Option (List (List UInt8))} (hf : 10 ≤ fu) (h : q_fr st frs frt top tgr ffr fsz N) :
    ∃ r, tw_MO_beginDocument fu tgr top bgn mst ovr st = some (iN (q_tp N), iN r.1, iN (q_tp N), iN 2001, r.2.1, r.2.2) ∧ q_W (q_tp N) 2001 (q_tp N) false st [0, 0, 0, 0] r := by
  obtain ⟨l1, l2⟩ := q_tpl h
  obtain ⟨r, r1, r2⟩ := r_op (fu := fu) (g := q_tp N) (m := 2001) (t := q_tp N) (o := false) (st := st) (by omega) (Nat.le_refl _) (by omega) hf
  have r3 := (r2.2.2.2.1 ⟨rfl, by simp only [List.length_cons, List.length_nil]; omega⟩).1
  simp only [List.length_cons, List.length_nil] at r3
  refine ⟨r, ?_, r2⟩
  have e : iN r.1 - 4 = iN (q_tp N) := by
    rw [show (4 : Int32) = iN 4 from rfl, iN_s (by omega)]
    exact congrArg iN (by omega)
  rw [e] at r1
  unfold tw_MO_beginDocument tw_MO_beginValue
  cases N with
  | none =>
    rw [show tgr = true from h, if_neg (by decide)]
    show ob4 (tw_MO_open fu (iN 80000) (iN 2001) (iN 80000) false st) _ = _
    rw [show iN 80000 = iN (q_tp none) from rfl, r1]
    rfl
  | some N =>
    have hg : tgr = false := h.1
    have ht : top = iN (80000 + N.flatten.length) := h.2.2.2.1
    rw [hg, if_pos (show b2i false = 0 from rfl), ht]
    show ob4 (tw_MO_open fu (iN (80000 + N.flatten.length)) (iN 2001) (iN (80000 + N.flatten.length)) false st) _ = _
    rw [show iN (80000 + N.flatten.length) = iN (q_tp (some N)) from rfl, r1]
    rfl
theorem q_o3e {Z : Type} (r : q_R) (f : Int32 → Bool → (Nat → Int32) → Option Z) : ob3 (q_e3 r) f = f (iN r.1) r.2.1 r.2.2 := rfl
theorem r_ed {fu D : Nat} {st ffr fsz : Nat → Int32} {frs frt top : Int32} {tgr : Bool} {N : Option (List (List UInt8))} {ps : List q_P} {r : q_R} (hf : 2500 ≤ fu) (h : q_fr st frs frt top tgr ffr fsz N) (hr : q_W (q_tp N) 2001 (q_tp N) false st ([0, 0, 0, 0] ++ q_en ps) r) (ho : q_ok D 3 (q_bx ps)) (hD : D < 20) :
    ∃ fs ft tp ov tg st' ff fz, tw_MO_endDocument fu (iN (q_tp N)) (iN 2001) frs frt (iN r.1) r.2.1 tgr r.2.2 ffr fsz (iN (q_tp N)) = some (fs, ft, tp, ov, tg, st', ff, fz) ∧ q_fr st' fs ft tp tg ff fz (q_more N (q_bx ps)) ∧ (∀ j, j < q_tp N ∨ q_tp N + 2001 ≤ j → st' j = st j) := by
  obtain ⟨l1, l2⟩ := q_tpl h
  obtain ⟨s, s1, s2⟩ := r_cls (fu := fu) (a := iN (q_tp N)) (by omega) (by omega) hr (Nat.le_refl _) (fun _ => rfl)
  unfold tw_MO_endDocument
  rw [s1, q_o3e]
  change q_W (q_tp N) 2001 (q_tp N) false st (q_bx ps) s at s2
  generalize q_bx ps = d at *
  obtain ⟨w1, w2, w3, w4, w5⟩ := s2
  by_cases c1 : d.length ≤ 2001
  rotate_left
  · have e := w5 (fun z => c1 (by omega))
    rw [e, if_neg (by decide)]
    refine ⟨_, _, _, _, _, _, _, _, rfl, ?_, w1⟩
    cases N with
    | none => rfl
    | some N =>
      rw [q_mores, if_neg (by omega)]
      rfl
  obtain ⟨e1, e2, e3⟩ := w4 ⟨rfl, by omega⟩
  rw [e2, if_pos (show b2i false = 0 from rfl), e1, iN_s (by omega), show q_tp N + d.length - q_tp N = d.length by omega]
  by_cases c2 : d.length ≤ 2000
  rotate_left
  · rw [if_pos (by simp (disch := omega) only [i_2000, iN_a, iN_c, iN_le, iN_lt, iN_eq, iN_i]; omega)]
    refine ⟨_, _, _, _, _, _, _, _, rfl, ?_, w1⟩
    cases N with
    | none => rfl
    | some N =>
      rw [q_mores, if_neg (by omega)]
      rfl
  rw [if_neg (by simp (disch := omega) only [i_2000, iN_a, iN_c, iN_le, iN_lt, iN_eq, iN_i]; omega), show (3 : Int32) = iN (3 : UInt8).toNat from rfl, r_dp0 hf ho e3 (by omega) (by omega) hD, obs1]
  have dl := q_dpl (m := 20) ho (by omega)
  cases N with
  | none =>
    have tg : tgr = true := h
    subst tg
    rw [if_neg (show ¬ b2i true = 0 by decide)]
    repeat' split
    all_goals exact ⟨_, _, _, _, _, _, _, _, rfl, rfl, w1⟩
  | some N =>
    obtain ⟨h1, h2, h3, h4, h5, h6, h71, h72, h73⟩ := h
    subst h1
    rw [if_pos (show b2i false = 0 from rfl), h2, h3, q_mores]
    unfold q_room
    by_cases c3 : N.length = 200
    · rw [if_pos (by rw [c3]; rfl), if_neg (by rw [decide_eq_true_eq]; omega)]
      exact ⟨_, _, _, _, _, _, _, _, rfl, rfl, w1⟩
    rw [if_neg (by simp (disch := omega) only [i_200, iN_a, iN_c, iN_le, iN_lt, iN_eq, iN_i]; omega), iN_a]
    by_cases c4 : N.flatten.length + d.length ≤ 40000
    rotate_left
    · rw [if_pos (by simp (disch := omega) only [i_40000, iN_a, iN_c, iN_le, iN_lt, iN_eq, iN_i]; omega), if_neg (by rw [decide_eq_true_eq]; omega)]
      exact ⟨_, _, _, _, _, _, _, _, rfl, rfl, w1⟩
    rw [if_neg (by simp (disch := omega) only [i_40000, iN_a, iN_c, iN_le, iN_lt, iN_eq, iN_i]; omega)]
    by_cases c5 : q_dp 20 3 d ≤ 16
    rotate_left
    · rw [if_neg (by simp (disch := omega) only [i_16, iN_a, iN_c, iN_le, iN_lt, iN_eq, iN_i]; omega), if_neg (by omega)]
      exact ⟨_, _, _, _, _, _, _, _, rfl, rfl, w1⟩
    rw [if_pos (by simp (disch := omega) only [i_16, iN_a, iN_c, iN_le, iN_lt, iN_eq, iN_i]; omega), if_pos (by simp (disch := omega) only [i_0, i_200, iN_a, iN_c, iN_le, iN_lt, iN_eq, iN_i]; omega), if_pos (by rw [decide_eq_true_eq]; omega), iN_c (by omega)]
    have fl := q_fla N d
    refine ⟨_, _, _, _, _, _, _, _, rfl, ⟨rfl, ?_, ?_, ?_, ?_, ?_, ?_, ?_, ?_⟩, w1⟩
    · rw [List.length_append]
      exact iN_a N.length 1
    · rw [fl, List.length_append]
    · rw [fl, List.length_append, ← Nat.add_assoc]
      rfl
    · intro i e hi
      have il := (List.getElem?_eq_some_iff.1 hi).1
      rw [List.length_append, List.length_singleton] at il
      by_cases c : i = N.length
      · subst c
        rw [List.getElem?_append_right (Nat.le_refl _), Nat.sub_self] at hi
        have : d = e := by simpa using hi
        subst this
        rw [q_upe, q_upe, q_pfa (Nat.le_refl _), q_pfn]
        exact ⟨rfl, rfl⟩
      · rw [List.getElem?_append_left (by omega)] at hi
        rw [q_upn c, q_upn c, q_pfa (by omega)]
        exact h5 i e hi
    · rw [fl]
      exact sm_ap.2 ⟨sm_fr h6 (fun j u v => w1 j (Or.inl v)), e3⟩
    · rw [List.length_append, List.length_singleton]
      omega
    · rw [fl, List.length_append]
      omega
    · intro x hx
      rcases List.mem_append.1 hx with hx | hx
      · exact h73 x hx
      · rw [List.mem_singleton.1 hx]
        exact ⟨q_dpo ho (by omega) (by omega) c5, c2⟩
