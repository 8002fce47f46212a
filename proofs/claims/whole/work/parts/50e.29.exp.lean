/-! the pure part: which stage, which work, expressions -/
def q_wn (nm : List UInt8) : Nat := if nm = q_sn 0 then 1 else if nm = q_sn 1 then 2 else if nm = q_sn 2 then 3 else if nm = q_sn 3 then 4 else if nm = q_sn 4 then 5 else if nm = q_sn 5 then 6 else if nm = q_sn 6 then 7 else 0
def q_wk (nm : List UInt8) : Nat := if nm = q_sn 8 then 1 else if nm = q_sn 9 then 2 else if nm = q_sn 10 then 3 else if nm = q_sn 11 then 4 else if nm = q_sn 12 then 5 else if nm = q_sn 13 then 6 else if nm = q_sn 14 then 7 else if nm = q_sn 15 then 8 else 0
theorem q_b2 {A : Type} (p : Prop) (d : Decidable p) (x y : A) : (if b2i (@decide p d) = 0 then x else y) = if p then y else x := by
  by_cases c : p
  · rw [if_pos c, decide_eq_true c, if_neg (by decide)]
  · rw [if_neg c, decide_eq_false c, if_pos (show b2i false = 0 from rfl)]
theorem r_so {fu e : Nat} {st : Nat → Int32} {x : q_P} (h : sm st e (q_e1 x)) (hm : (0 : UInt8) ∉ x.2.1) (he : e + x.2.1.length + 2 ≤ 136400) (hf : 20 ≤ fu) : tw_MO_stageOf fu st (iN e) = some (iN (q_wn x.2.1)) := by
  have N : ∀ (i : Nat) (l : Int64), i < 19 → q_nv (q_sn i) < 9223372036854775808 → l = Int64.ofNat (q_nv (q_sn i)) → tw_MO_isNamed fu st (iN e) l = some (decide (x.2.1 = q_sn i)) := by
    intro i l hi hq hl
    exact r_nd h hm he (q_sn0 i hi) hq hl (by have := (q_snl i hi).2; omega)
  unfold tw_MO_stageOf q_wn
  rw [N 0 _ (by omega) (by decide) (by decide), obs1, q_b2]
  split
  · rfl
  rw [N 1 _ (by omega) (by decide) (by decide), obs1, q_b2]
  split
  · rfl
  rw [N 2 _ (by omega) (by decide) (by decide), obs1, q_b2]
  split
  · rfl
  rw [N 3 _ (by omega) (by decide) (by decide), obs1, q_b2]
  split
  · rfl
  rw [N 4 _ (by omega) (by decide) (by decide), obs1, q_b2]
  split
  · rfl
  rw [N 5 _ (by omega) (by decide) (by decide), obs1, q_b2]
  split
  · rfl
  rw [N 6 _ (by omega) (by decide) (by decide), obs1, q_b2]
  split <;> rfl
theorem r_set_h {fu e : Nat} {K : Int64 → Int32 → Option Bool} {st : Nat → Int32} (hK : ∀ a k, K a k = some true) (he : e + 11 ≤ 136400) : ∀ (w l : List UInt8) (k n : Nat), sm st (e + k) l → k + w.length = 9 → l.length = w.length → q_nv w < 9223372036854775808 → w.length < n → tw_MO_isSet_h35 fu K st (iN e) n (Int64.ofNat (q_nv w)) (iN k) = some (decide (l = w)) := by
  intro w
  induction w with
  | nil =>
    intro l k n h hk hl _ hn
    obtain ⟨n, rfl⟩ : ∃ m, n = m + 1 := ⟨n - 1, by omega⟩
    have : l = [] := List.eq_nil_of_length_eq_zero hl
    subst this
    simp only [List.length_nil, Nat.add_zero] at hk
    unfold tw_MO_isSet_h35
    rw [if_pos (by rw [hk]; decide), hK]
    rfl
  | cons y w ih =>
    intro l k n h hk hl hq hn
    obtain ⟨n, rfl⟩ : ∃ m, n = m + 1 := ⟨n - 1, by omega⟩
    rw [List.length_cons] at hk hl hn
    obtain ⟨z, l, rfl⟩ := List.exists_cons_of_ne_nil (show l ≠ [] by intro q; rw [q] at hl; cases hl)
    rw [List.length_cons] at hl
    have hq2 : y.toNat + 256 * q_nv w < 9223372036854775808 := hq
    obtain ⟨l1, l2⟩ := r_lt y (q_nv w) hq2
    have uy := q_u8 y
    have uz := q_u8 z
    unfold tw_MO_isSet_h35
    rw [if_neg (by simp (disch := omega) only [i_9, iN_a, iN_c, iN_le, iN_lt, iN_eq, iN_i]; omega), show iN e + iN k = iN (e + k) from iN_a e k, if_pos (by simp (disch := omega) only [i_0, i_136400, iN_a, iN_c, iN_le, iN_lt, iN_eq, iN_i]; omega), iN_c (by omega), h.1]
    rw [show q_nv (y :: w) = y.toNat + 256 * q_nv w from rfl, l1, l2, show iN k + 1 = iN (k + 1) from iN_a k 1]
    by_cases c : z = y
    · rw [if_pos (by rw [c]), ih l (k + 1) n (by rw [← Nat.add_assoc]; exact h.2) (by omega) (by omega) (by omega) (by omega), c]
      exact congrArg some (decide_eq_decide.2 (by simp))
    · rw [if_neg (fun q => c (UInt8.toNat_inj.1 ((iN_eq (by omega) (by omega)).1 q)))]
      exact congrArg some (decide_eq_false (fun q => c (List.cons.inj q).1)).symm
theorem r_set {fu e : Nat} {st : Nat → Int32} {x : q_P} (h : sm st e (q_e1 x)) (hm : (0 : UInt8) ∉ x.2.1) (he : e + x.2.1.length + 2 ≤ 136400) (hf : x.2.1.length + 20 ≤ fu) : tw_MO_isSet fu st (iN e) = some (decide (x.2.1 = q_sn 15)) := by
  obtain ⟨a1, a2, a3, _⟩ := sm_e1 h
  have s15 : q_sn 15 = [36, 97, 100, 100, 84, 111, 83, 101] ++ [116] := by decide
  unfold tw_MO_isSet
  rw [r_ne h hm (by omega) (by omega), obs1, show iN e + 10 = iN (e + 10) from iN_a e 10]
  by_cases c : x.2.1.length = 9
  · rw [if_pos (congrArg iN (by omega)), show iN e + 9 = iN (e + 9) from iN_a e 9, if_pos (by simp (disch := omega) only [i_0, i_136400, iN_a, iN_c, iN_le, iN_lt, iN_eq, iN_i]; omega), iN_c (by omega)]
    obtain ⟨u, y, e1⟩ : ∃ u y, x.2.1 = u ++ [y] := by
      have hne : x.2.1 ≠ [] := by
        intro q
        rw [q] at c
        cases c
      exact ⟨x.2.1.dropLast, x.2.1.getLast hne, (List.dropLast_concat_getLast hne).symm⟩
    have ul : u.length = 8 := by
      rw [e1, List.length_append] at c
      simpa using c
    rw [e1] at a2
    obtain ⟨b1, b2⟩ := sm_ap.1 a2
    have b3 : st (e + 9) = iN y.toNat := by
      have := b2.1
      rwa [ul] at this
    have uy := q_u8 y
    have key := r_set_h (fu := fu) (e := e) (K := fun (x2_8 : Int64) (x4_8 : Int32) => some true) (st := st) (fun _ _ => rfl) (by omega) [36, 97, 100, 100, 84, 111, 83, 101] u 1 fu b1 rfl ul (by decide) (by show 8 < fu; omega)
    rw [b3]
    by_cases c2 : y = 116
    · rw [if_pos (by rw [c2]; rfl)]
      refine Eq.trans ?_ (key.trans ?_)
      · rfl
      · rw [e1, s15, c2]
        exact congrArg some (decide_eq_decide.2 ⟨fun q => by rw [q], fun q => (List.append_inj' q rfl).1⟩)
    · rw [if_neg (fun q => c2 (by have := (iN_eq (a := y.toNat) (b := 116) (by omega) (by omega)).1 q; rw [q_u8e this]; rfl))]
      rw [e1, s15]
      have nq : ¬ (u ++ [y] = ([36, 97, 100, 100, 84, 111, 83, 101] : List UInt8) ++ [116]) := fun q => c2 (List.singleton_inj.1 (List.append_inj' q rfl).2)
      exact congrArg some (decide_eq_false nq).symm
  · rw [if_neg (fun q => c (by have := (iN_eq (by omega) (by omega)).1 q; omega))]
    exact congrArg some (decide_eq_false (fun q => c (by rw [q]; decide))).symm
theorem r_go {fu e : Nat} {st : Nat → Int32} {x : q_P} (h : sm st e (q_e1 x)) (hm : (0 : UInt8) ∉ x.2.1) (he : e + x.2.1.length + 2 ≤ 136400) (hf : x.2.1.length + 20 ≤ fu) : tw_MO_gatherOf fu st (iN e) = some (iN (q_wk x.2.1)) := by
  have N : ∀ (i : Nat) (l : Int64), i < 19 → q_nv (q_sn i) < 9223372036854775808 → l = Int64.ofNat (q_nv (q_sn i)) → tw_MO_isNamed fu st (iN e) l = some (decide (x.2.1 = q_sn i)) := by
    intro i l hi hq hl
    exact r_nd h hm (by omega) (q_sn0 i hi) hq hl (by have := (q_snl i hi).2; omega)
  unfold tw_MO_gatherOf q_wk
  rw [N 8 _ (by omega) (by decide) (by decide), obs1, q_b2]
  split
  · rfl
  rw [N 9 _ (by omega) (by decide) (by decide), obs1, q_b2]
  split
  · rfl
  rw [N 10 _ (by omega) (by decide) (by decide), obs1, q_b2]
  split
  · rfl
  rw [N 11 _ (by omega) (by decide) (by decide), obs1, q_b2]
  split
  · rfl
  rw [N 12 _ (by omega) (by decide) (by decide), obs1, q_b2]
  split
  · rfl
  rw [N 13 _ (by omega) (by decide) (by decide), obs1, q_b2]
  split
  · rfl
  rw [N 14 _ (by omega) (by decide) (by decide), obs1, q_b2]
  split
  · rfl
  rw [r_set h hm he hf, obs1, q_b2]
  split <;> rfl
/-- the class: work and stage by the name of a document's first element -/
theorem c_wk {b : Nat → UInt8} {d p : Nat} {x : q_P} {r : List q_P} {k : UInt8} (hk : k = 3 ∨ k = 4) (h : sb b p (q_bx (x :: r))) (ho : q_op d (x :: r)) (hp : p + (q_bx (x :: r)).length ≤ 202000) : tw_GR_workOf b (iN (32 * p + k.toNat)) = iN (q_wk x.2.1) := by
  have bl := q_bxl (x :: r)
  have e2 := q_enl x r
  obtain ⟨h1, _⟩ := sb_en (sb_bx h).2.1
  obtain ⟨hm, hb⟩ := ho x List.mem_cons_self
  have kx := (q_okn hb).1
  have s1 := sb_e1 h1
  have kk : k.toNat < 32 := by rcases hk with rfl | rfl <;> decide
  have pl : tw_ST_placeOf (iN (32 * p + k.toNat)) = iN p := q_p (by omega) kk
  have pl2 : tw_ST_placeOf (iN (32 * (p + 4 + x.2.1.length + 2) + x.1.toNat)) = iN (p + 4 + x.2.1.length + 2) := q_p (by omega) kx
  have N : ∀ i, i < 19 → tw_ST_named i b (iN (p + 5)) (iN (p + 5 + x.2.1.length)) = decide (x.2.1 = q_sn i) := fun i hi => c_nd hi s1.2.1 (by omega)
  unfold tw_GR_workOf q_wk
  rw [pl, show iN p + 5 = iN (p + 5) from iN_a p 5, iN_s1 (by omega), show p + 5 - 1 = p + 4 by omega, q_vo h1 kx hm (by omega), pl2, iN_s1 (by omega), show p + 4 + x.2.1.length + 2 - 1 = p + 5 + x.2.1.length by omega]
  rw [N 8 (by omega), N 9 (by omega), N 10 (by omega), N 11 (by omega), N 12 (by omega), N 13 (by omega), N 14 (by omega), N 15 (by omega)]
  simp only [q_b2]
  repeat' split
  all_goals rfl
theorem c_sg {b : Nat → UInt8} {d : Nat} {ps : List q_P} (h : sb b 0 (q_bx ps)) (ho : q_op d ps) (hl : (q_bx ps).length ≤ 2000) : tw_PB_stageOnTape b = iN (match ps with | [x] => q_wn x.2.1 | _ => 0) := by
  have bl := q_bxl ps
  have cp := q_cp (k := 3) (Or.inl rfl) h ho (by omega) (by omega)
  unfold tw_PB_stageOnTape
  rw [show tw_ST_ref 3 0 = iN (32 * 0 + (3 : UInt8).toNat) from rfl, cp]
  have pl := q_psl ps
  match ps, h, ho, hl, bl with
  | [], _, _, _, _ => rfl
  | [x], h, ho, hl, bl =>
    have e2 := q_enl x []
    obtain ⟨h1, _⟩ := sb_en (sb_bx h).2.1
    obtain ⟨hm, hb⟩ := ho x List.mem_cons_self
    have kx := (q_okn hb).1
    have s1 := sb_e1 h1
    have pl2 : tw_ST_placeOf (iN (32 * (4 + x.2.1.length + 2) + x.1.toNat)) = iN (4 + x.2.1.length + 2) := q_p (by omega) kx
    rw [Nat.zero_add] at h1 s1
    have N : ∀ i, i < 19 → tw_ST_named i b 5 (iN (5 + x.2.1.length)) = decide (x.2.1 = q_sn i) := fun i hi => c_nd (a := 5) hi s1.2.1 (by omega)
    rw [if_pos (show iN [x].length = 1 from rfl), show tw_ST_valueOf b 4 = _ from q_vo (p := 4) h1 kx hm (by omega), pl2, iN_s1 (by omega), show 4 + x.2.1.length + 2 - 1 = 5 + x.2.1.length by omega]
    rw [N 0 (by omega), N 1 (by omega), N 2 (by omega), N 3 (by omega), N 4 (by omega), N 5 (by omega), N 6 (by omega)]
    show _ = iN (q_wn x.2.1)
    unfold q_wn
    simp only [q_b2]
    repeat' split
    all_goals rfl
  | x :: y :: r, _, _, hl, bl =>
    rw [if_neg]
    · rfl
    · intro q
      simp only [List.length_cons] at pl q
      have := (iN_eq (b := 1) (by omega) (by omega)).1 q
      omega
/-- an expression: a text with $ ahead has a path behind it -/
def q_ex (k : UInt8) (v : List UInt8) : Bool := decide (k = 2) && decide ((q_tt v).headD 0 = 36)
def q_xt (v : List UInt8) : List UInt8 := (q_tt v).tail
/-- 3 when it is a text with $ ahead and no path behind it -/
def q_xf (k : UInt8) (v : List UInt8) : Nat := if q_ex k v = true then (if (q_po (q_xt v)).isSome = true then 0 else 3) else 0
def q_xv (k : UInt8) (v doc : List UInt8) : Option q_V := if q_ex k v = true then (match q_po (q_xt v) with | some xs => q_vD xs doc | none => none) else some (k, v)
theorem q_tx2 {d : Nat} {v : List UInt8} (h : q_ok d 2 v) : ∃ t, v = q_tx t := by
  have l1 := q_okl h (by decide) (by decide)
  unfold q_lf at l1
  rcases l1 with ⟨e, _⟩ | ⟨e, _⟩ | ⟨e, _⟩ | ⟨e, _⟩ | ⟨_, t, e⟩
  any_goals cases e
  exact ⟨t, rfl⟩
theorem q_po1 (t : List UInt8) : (q_po t).isSome = decide (q_gp true t = true ∧ q_dc t < 8) := by
  unfold q_po
  split
  · next c => rw [decide_eq_true c]; rfl
  · next c => rw [decide_eq_false c]; rfl
theorem c_sd {b : Nat → UInt8} {d p : Nat} {k : UInt8} {v : List UInt8} (ho : q_ok d k v) (h : sb b p v) (hp : p + v.length ≤ 202000) : tw_PA_startsWithDollar b (iN (32 * p + k.toNat)) = q_ex k v := by
  have kn := q_okn ho
  have kd := q_k31 (p := p) (by omega) kn.1
  have pl : tw_ST_placeOf (iN (32 * p + k.toNat)) = iN p := q_p (by omega) kn.1
  unfold tw_PA_startsWithDollar q_ex
  rw [kd, pl, i_2, qy_2]
  by_cases k2 : k = 2
  · subst k2
    obtain ⟨t, rfl⟩ := q_tx2 ho
    rw [q_txl] at hp
    rw [if_pos rfl, q_ttt, show iN p + 4 = iN (p + 4) from iN_a p 4, q_at (by omega)]
    have s := (sb_ap.1 h).2
    rw [q_l4l] at s
    cases t with
    | nil =>
      have : b (p + 4) = 0 := s.1
      rw [this]
      rfl
    | cons y t =>
      have : b (p + 4) = y := s.1
      rw [this, i_36, qy_36]
      by_cases c : y = 36
      · rw [if_pos c, c]
        rfl
      · rw [if_neg c]
        show false = (true && decide (y = 36))
        rw [decide_eq_false c]
        rfl
  · rw [if_neg k2, decide_eq_false k2]
    rfl
theorem r_iep {fu e d : Nat} {st : Nat → Int32} {x : q_P} (h : sm st e (q_e1 x)) (hm : (0 : UInt8) ∉ x.2.1) (ho : q_ok d x.1 x.2.2) (he : e + (q_e1 x).length ≤ 136400) (hl : (q_e1 x).length ≤ 2005) (hf : 2500 ≤ fu) : tw_MO_isExpressionPath fu st (iN e) = some (q_ex x.1 x.2.2) := by
  have el := q_e1l x
  have s1 := sm_e1 h
  unfold tw_MO_isExpressionPath q_ex
  rw [if_pos (by simp (disch := omega) only [i_0, i_136400, iN_a, iN_c, iN_le, iN_lt, iN_eq, iN_i]; omega), iN_c (by omega), s1.1, i_2, qy_2]
  by_cases k2 : x.1 = 2
  · rw [if_pos k2, r_vo h hm (by omega) (by omega), obs1, decide_eq_true k2]
    rw [k2] at ho
    obtain ⟨t, e1⟩ := q_tx2 ho
    have s2 := s1.2.2.2
    rw [e1] at s2 el
    rw [q_txl] at el
    have s3 := (sm_ap.1 s2)
    rw [q_l4l] at s3
    rw [r_wh s3.1 (by omega) (by omega), obs1, e1, q_ttt]
    cases t with
    | nil =>
      rw [if_pos (by decide)]
      rfl
    | cons y t =>
      have h0 : st (e + x.2.1.length + 2 + 4) = iN y.toNat := s3.2.1
      rw [List.length_cons] at el
      rw [if_neg (by simp (disch := omega) only [List.length_cons, i_1, iN_a, iN_c, iN_le, iN_lt, iN_eq, iN_i]; omega), show iN (e + x.2.1.length + 2) + 4 = iN (e + x.2.1.length + 2 + 4) from iN_a _ 4, if_pos (by simp (disch := omega) only [i_0, i_136400, iN_a, iN_c, iN_le, iN_lt, iN_eq, iN_i]; omega), iN_c (by omega), h0, i_36, qy_36]
      show _ = some (true && decide (y = 36))
      by_cases c : y = 36
      · rw [if_pos c, decide_eq_true c]
        rfl
      · rw [if_neg c, decide_eq_false c]
        rfl
  · rw [if_neg k2, decide_eq_false k2]
    rfl
theorem q_exp {d : Nat} {k : UInt8} {v : List UInt8} (ho : q_ok d k v) (h : q_ex k v = true) : k = 2 ∧ v = q_tx (36 :: q_xt v) := by
  unfold q_ex at h
  rw [Bool.and_eq_true, decide_eq_true_eq, decide_eq_true_eq] at h
  obtain ⟨rfl, h⟩ := h
  obtain ⟨t, rfl⟩ := q_tx2 ho
  refine ⟨rfl, ?_⟩
  unfold q_xt
  rw [q_ttt] at h ⊢
  cases t with
  | nil => exact absurd h (by decide)
  | cons y t =>
    have : y = 36 := h
    rw [this]
    rfl
theorem r_xf {fu e d : Nat} {st : Nat → Int32} {x : q_P} (h : sm st e (q_e1 x)) (hm : (0 : UInt8) ∉ x.2.1) (ho : q_ok d x.1 x.2.2) (he : e + (q_e1 x).length ≤ 136400) (hl : (q_e1 x).length ≤ 2005) (hf : 2500 ≤ fu) : tw_MO_expressionFault fu st (iN e) = some (iN (q_xf x.1 x.2.2)) := by
  have el := q_e1l x
  have s1 := sm_e1 h
  unfold tw_MO_expressionFault q_xf
  rw [r_iep h hm ho he hl hf, obs1]
  cases c : q_ex x.1 x.2.2 with
  | false => rfl
  | true =>
    rw [if_neg (show ¬ b2i true = 0 by decide), if_pos rfl, r_vo h hm (by omega) (by omega), obs1]
    obtain ⟨_, e1⟩ := q_exp ho c
    have s2 := s1.2.2.2
    rw [e1] at s2
    have l2 : x.2.2.length = (q_xt x.2.2).length + 6 := by
      conv => lhs; rw [e1]
      rw [q_txl, List.length_cons]
    have s3 := sm_ap.1 s2
    rw [q_l4l] at s3
    have s4 : sm st (e + x.2.1.length + 2 + 5) (q_xt x.2.2) := (sm_ap.1 s3.2.2).1
    rw [r_wh s3.1 (by rw [List.length_cons]; omega) (by omega), obs1, List.length_cons, show iN (e + x.2.1.length + 2) + 5 = iN (e + x.2.1.length + 2 + 5) from iN_a _ 5, show iN ((q_xt x.2.2).length + 1 + 1) - 2 = iN (q_xt x.2.2).length by rw [i_2, iN_s (by omega)]; exact congrArg iN (by omega), r_ip s4 (by omega) (by omega) (by omega), obs1, q_b2, q_po1]
    by_cases c2 : q_gp true (q_xt x.2.2) = true ∧ q_dc (q_xt x.2.2) < 8
    · rw [if_pos c2, if_pos (decide_eq_true c2)]
      rfl
    · rw [if_neg c2, if_neg (by rw [decide_eq_false c2]; decide)]
      rfl
