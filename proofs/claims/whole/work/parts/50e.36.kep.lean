/-! the pure part: keep, next, accept, finish -/
theorem q_mk {N : Option (List (List UInt8))} {d : List UInt8} (ho : q_ok 16 3 d) (hl : d.length ≤ 2000) : q_more N d = match N with | none => none | some N => if q_room N d = true then some (N ++ [d]) else none := by
  have := q_dpl (m := 20) ho (by omega)
  cases N with
  | none => rfl
  | some N =>
    rw [q_mores]
    show _ = if q_room N d = true then some (N ++ [d]) else none
    by_cases c : q_room N d = true
    · rw [if_pos ⟨c, hl, this⟩, if_pos c]
    · rw [if_neg (fun z => c z.1), if_neg c]
theorem obs6 {T1 T2 T3 T4 T5 T6 Z : Type} (x1 : T1) (x2 : T2) (x3 : T3) (x4 : T4) (x5 : T5) (x6 : T6) (f : T1 → T2 → T3 → T4 → T5 → T6 → Option Z) : ob6 (some (x1, x2, x3, x4, x5, x6)) f = f x1 x2 x3 x4 x5 x6 := rfl
theorem obs8 {T1 T2 T3 T4 T5 T6 T7 T8 Z : Type} (x1 : T1) (x2 : T2) (x3 : T3) (x4 : T4) (x5 : T5) (x6 : T6) (x7 : T7) (x8 : T8) (f : T1 → T2 → T3 → T4 → T5 → T6 → T7 → T8 → Option Z) : ob8 (some (x1, x2, x3, x4, x5, x6, x7, x8)) f = f x1 x2 x3 x4 x5 x6 x7 x8 := rfl
theorem obs10 {T1 T2 T3 T4 T5 T6 T7 T8 T9 T10 Z : Type} (x1 : T1) (x2 : T2) (x3 : T3) (x4 : T4) (x5 : T5) (x6 : T6) (x7 : T7) (x8 : T8) (x9 : T9) (x10 : T10) (f : T1 → T2 → T3 → T4 → T5 → T6 → T7 → T8 → T9 → T10 → Option Z) : ob10 (some (x1, x2, x3, x4, x5, x6, x7, x8, x9, x10)) f = f x1 x2 x3 x4 x5 x6 x7 x8 x9 x10 := rfl
theorem r_keep {fu k : Nat} {st dcs tot frm siz ffr fsz : Nat → Int32} {frs frt top bgn mst : Int32} {tgr ovr : Bool} {F : List (List UInt8)} {N : Option (List (List UInt8))} {d : List UInt8} (hf : 2500 ≤ fu) (hb : q_rb st 0 dcs tot frm siz F) (h : q_fr st frs frt top tgr ffr fsz N) (hk : F[k]? = some d) :
    ∃ fs ft tp bg ms ov tg st' ff fz, tw_MO_keep fu frm siz frs frt top bgn mst ovr tgr st ffr fsz (iN k) = some (fs, ft, tp, bg, ms, ov, tg, st', ff, fz) ∧ q_fr st' fs ft tp tg ff fz (q_more N d) ∧ (∀ j, j < 80000 ∨ 122001 ≤ j → st' j = st j) := by
  obtain ⟨l1, l2⟩ := q_tpl h
  obtain ⟨d1, d2, d3, d4⟩ := q_rbd hb hk
  obtain ⟨f1, f2⟩ := hb.2.2.1 k d hk
  have kl := (List.getElem?_eq_some_iff.1 hk).1
  have F1 := hb.2.2.2.2.1
  have F2 := hb.2.2.2.2.2.1
  simp only [Nat.mul_zero, Nat.zero_add] at f1 f2 d1
  obtain ⟨e, ps, _, rfl, o1, o2⟩ := q_okd d2 (Or.inl rfl)
  have bl : (q_bx ps).length = (q_en ps).length + 5 := q_bxl ps
  obtain ⟨r, r1, r2⟩ := r_bd (fu := fu) (bgn := bgn) (mst := mst) (ovr := ovr) (by omega) h
  have s0 := (sm_bx d1).2
  have r3 := r2.2.1
  obtain ⟨s, s1, s2⟩ := r_cp (fu := fu) (g := q_tp N) (m := 2001) (a := q_pf F k + 4) (t := r.1) (o := r.2.1) (st := r.2.2) (l := q_en ps) (by omega) (sm_fr s0.1 (fun j u v => r2.1 j (by omega))) (by omega) (by omega) r2.2.1 r2.2.2.1 (by omega)
  obtain ⟨fs, ft, tp, ov, tg, st', ff, fz, e1, e2, e3⟩ := r_ed (fu := fu) (r := s) hf h (q_Wa r2 s2) d2 (by omega)
  unfold tw_MO_keep
  rw [if_pos (by simp (disch := omega) only [i_0, i_400, iN_a, iN_c, iN_le, iN_lt, iN_eq, iN_i]; omega), r1, obs6, iN_c (by omega), f1, f2, show iN (q_pf F k) + 4 = iN (q_pf F k + 4) from iN_a _ 4, show (5 : Int32) = iN 5 from rfl, iN_s (by omega), show (q_bx ps).length - 5 = (q_en ps).length by omega, s1, q_o3e, e1, obs8]
  exact ⟨fs, ft, tp, _, _, ov, tg, st', ff, fz, rfl, e2, fun j hj => e3 j (by omega)⟩
theorem c_keep {b : Nat → UInt8} {fb nb k : Nat} {fcnt ncnt place limit : Int32} {full : Bool} {fsts nsts : Nat → Int32} {F N : List (List UInt8)} {d : List UInt8} (hb : q_be b fb fcnt fsts F) (h : q_be b nb ncnt nsts N) (hd : fb + 40000 ≤ nb ∨ nb + 40000 ≤ fb) (hk : F[k]? = some d) :
    ∃ p' l' f' b' c' s', tw_BS_keep (iN fb) (iN nb) fcnt fsts place limit full b ncnt nsts (iN k) = ((q_more (some N) d).isSome, p', l', f', b', c', s') ∧ q_be b' nb c' s' ((q_more (some N) d).getD N) ∧ (∀ j, j < nb ∨ nb + 40000 ≤ j → b' j = b j) := by
  obtain ⟨d1, d2, d3, d4⟩ := q_bed hb hk
  have kl := (List.getElem?_eq_some_iff.1 hk).1
  have F2 := hb.2.2.2.1.2.1
  have F3 := hb.2.2.2.2.1
  have N3 := h.2.2.2.2.1
  unfold tw_BS_keep
  rw [q_bes hb (by omega), show iN k + 1 = iN (k + 1) from iN_a k 1, q_bes hb (by omega), q_pfs hk, iN_s (by omega), show fb + (q_pf F k + d.length) - (fb + q_pf F k) = d.length by omega, q_mk d2 d3]
  obtain ⟨p', l', f', b', a1, a2, a3⟩ := c_app (place := place) (limit := limit) (full := full) h d1 (by omega) (by omega) d2 d3
  show ∃ p' l' f' b' c' s', _ = ((if q_room N d = true then some (N ++ [d]) else none).isSome, _) ∧ q_be b' nb c' s' ((if q_room N d = true then some (N ++ [d]) else none).getD N) ∧ _
  cases rm : q_room N d
  · obtain ⟨a4, a5⟩ := a3 rm
    rw [a4, if_neg (by decide)]
    exact ⟨_, _, _, _, _, _, rfl, a5, fun j hj => a1 j (by omega)⟩
  · obtain ⟨c', s', a4, a5⟩ := a2 rm
    rw [a4, if_pos rfl]
    exact ⟨_, _, _, _, _, _, rfl, a5, fun j hj => a1 j (by omega)⟩
/-- where the writer of the next document ends -/
def q_nL (nb : Nat) (N : List (List UInt8)) : Nat := nb + N.flatten.length + (if 40000 - N.flatten.length < 2000 then 40000 - N.flatten.length else 2000)
theorem c_next {b : Nat → UInt8} {nb : Nat} {ncnt place limit : Int32} {full : Bool} {nsts : Nat → Int32} {N : List (List UInt8)} (h : q_be b nb ncnt nsts N) :
    tw_BS_next (iN nb) ncnt nsts place limit full = (iN (nb + N.flatten.length), iN (q_nL nb N), false) ∧ nb + N.flatten.length ≤ q_nL nb N ∧ q_nL nb N ≤ nb + 40000 ∧ q_nL nb N ≤ 122000 := by
  have bee := q_bee h
  have N2 := h.2.2.2.1.2.1
  have N3 := h.2.2.2.2.1
  unfold q_nL tw_BS_next
  rw [bee, show iN nb + 40000 = iN (nb + 40000) from iN_a nb 40000, iN_s (by omega), show nb + 40000 - (nb + N.flatten.length) = 40000 - N.flatten.length by omega]
  by_cases c : 40000 - N.flatten.length < 2000
  · rw [if_pos c, if_pos (by simp (disch := omega) only [i_2000, iN_a, iN_c, iN_le, iN_lt, iN_eq, iN_i]; omega), c_aim (by omega)]
    refine ⟨rfl, ?_, ?_, ?_⟩ <;> omega
  · rw [if_neg c, if_neg (by simp (disch := omega) only [i_2000, iN_a, iN_c, iN_le, iN_lt, iN_eq, iN_i]; omega), show (2000 : Int32) = iN 2000 from rfl, c_aim (by omega)]
    refine ⟨rfl, ?_, ?_, ?_⟩ <;> omega
theorem c_acc {b : Nat → UInt8} {nb D : Nat} {ncnt limit : Int32} {nsts : Nat → Int32} {N : List (List UInt8)} {d : List UInt8} {r : q_T} (h : q_be b nb ncnt nsts N) (hr : q_C (q_nL nb N) (nb + N.flatten.length) false b d r) (ho : q_ok D 3 d) (hD : D ≤ 20) :
    ∃ c' s', tw_BS_accept (iN nb) (iN r.1) limit r.2.1 r.2.2 ncnt nsts = ((q_more (some N) d).isSome, c', s') ∧ q_be r.2.2 nb c' s' ((q_more (some N) d).getD N) := by
  have N2 := h.2.2.2.1.2.1
  have N3 := h.2.2.2.2.1
  obtain ⟨w1, w2, w3, w4, w5⟩ := hr
  have hb : q_be r.2.2 nb ncnt nsts N := q_bef h (fun j u v => w1 j (Or.inl v))
  have bee := q_bee hb
  have nl : q_nL nb N = nb + N.flatten.length + (if 40000 - N.flatten.length < 2000 then 40000 - N.flatten.length else 2000) := rfl
  unfold tw_BS_accept
  rw [q_mores]
  by_cases c1 : nb + N.flatten.length + d.length ≤ q_nL nb N
  rotate_left
  · have e := w5 (fun z => c1 z.2)
    rw [e, if_neg (by decide)]
    have : ¬ (q_room N d = true ∧ d.length ≤ 2000 ∧ q_dp 20 3 d ≤ 16) := by
      unfold q_room
      rw [decide_eq_true_eq]
      intro z
      apply c1
      rw [nl]
      split <;> omega
    rw [if_neg this]
    exact ⟨_, _, rfl, hb⟩
  obtain ⟨e1, e2, e3⟩ := w4 ⟨rfl, c1⟩
  have dl : d.length ≤ 2000 := by
    rw [nl] at c1
    split at c1 <;> omega
  have lim : nb + N.flatten.length + d.length ≤ nb + 40000 := by
    rw [nl] at c1
    split at c1 <;> omega
  rw [e2, if_pos (show b2i false = 0 from rfl), bee]
  have rf : tw_ST_ref 3 (iN (nb + N.flatten.length)) = iN (32 * (nb + N.flatten.length) + (3 : UInt8).toNat) := q_rff (k := 3) (by omega) (by decide)
  rw [rf, q_td1 (Or.inl rfl) ho hD e3 (by omega) (by omega), e1, iN_s (by omega), show nb + N.flatten.length + d.length - (nb + N.flatten.length) = d.length by omega]
  by_cases c5 : q_dp 20 3 d ≤ 16
  rotate_left
  · rw [decide_eq_true (by omega), if_neg (show ¬ b2i true = 0 by decide), if_neg (by omega)]
    exact ⟨_, _, rfl, hb⟩
  rw [decide_eq_false (by omega), if_pos (show b2i false = 0 from rfl)]
  have ok := q_dpo ho hD (by omega) c5
  obtain ⟨a1, a2⟩ := c_add hb e3 ok dl
  cases rm : q_room N d
  · rw [a2 rm, if_neg (fun z => by cases z.1)]
    exact ⟨_, _, rfl, hb⟩
  · obtain ⟨c', s', a3, a4⟩ := a1 rm
    rw [a3, if_pos ⟨rfl, dl, c5⟩]
    exact ⟨_, _, rfl, a4⟩
