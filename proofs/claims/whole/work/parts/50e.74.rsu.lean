/-! the pure part: the reference's sums -/
theorem q_tdv (a : Int) : ∃ q r : Int, a.tdiv 1000000000 = q ∧ a = q * 1000000000 + r ∧ -1000000000 < r ∧ r < 1000000000 ∧ (0 ≤ a → 0 ≤ r) ∧ (a ≤ 0 → r ≤ 0) := by
  refine ⟨a.tdiv 1000000000, a.tmod 1000000000, rfl, ?_, ?_, ?_, ?_, ?_⟩
  · have := Int.mul_tdiv_add_tmod a 1000000000
    omega
  · exact Int.lt_tmod_of_pos a (by decide)
  · exact Int.tmod_lt_of_pos a (by decide)
  · exact fun h => Int.tmod_nonneg _ h
  · intro h
    have := Int.tmod_nonneg 1000000000 (show 0 ≤ -a by omega)
    rw [Int.neg_tmod] at this
    omega
theorem q_6d (a : Int64) : ∃ q r : Int, (a / 1000000000).toInt = q ∧ (a - a / 1000000000 * 1000000000).toInt = r ∧ a.toInt = q * 1000000000 + r ∧ -1000000000 < r ∧ r < 1000000000 ∧ (0 ≤ a.toInt → 0 ≤ r) ∧ (a.toInt ≤ 0 → r ≤ 0) := by
  obtain ⟨q, r, h1, h2, h3, h4, h5, h6⟩ := q_tdv a.toInt
  have b := q_64 a
  have e : (1000000000 : Int64).toInt = 1000000000 := by decide
  have e1 : (a / 1000000000).toInt = q := by
    rw [Int64.toInt_div_of_ne_right a 1000000000 (by decide), e, h1]
  have e2 : (a / 1000000000 * 1000000000).toInt = q * 1000000000 := by
    rw [q_6m (by rw [e1, e]; omega) (by rw [e1, e]; omega), e1, e]
  refine ⟨q, r, e1, ?_, h2, h3, h4, h5, h6⟩
  rw [q_6s (by rw [e2]; omega) (by rw [e2]; omega), e2]
  omega
theorem q_bd1 {a r M : Int} {i : Nat} (h1 : -(M * (i : Int)) ≤ a) (h2 : -M ≤ r) : -(M * ((i + 1 : Nat) : Int)) ≤ a + r := by
  have : M * ((i + 1 : Nat) : Int) = M * (i : Int) + M := by
    rw [Int.natCast_add, Int.mul_add]
    simp
  omega
theorem q_bd2 {a r M : Int} {i : Nat} (h1 : a ≤ M * (i : Int)) (h2 : r ≤ M) : a + r ≤ M * ((i + 1 : Nat) : Int) := by
  have : M * ((i + 1 : Nat) : Int) = M * (i : Int) + M := by
    rw [Int.natCast_add, Int.mul_add]
    simp
  omega
abbrev q_O8 : Type := Option (Bool × Int32 × Int32 × Int32 × Bool × Int64 × Int64 × (Nat → Int32))
theorem r_sum_h {fu e d g : Nat} {dfl : Bool} {dcs tot frm siz grp : Nat → Int32} {p2 x4 : Int32} {C : Int32 → Int32 → Int32 → Int32 → Bool → Int64 → Int64 → (Nat → Int32) → q_O8} {F : List (List UInt8)} {K : Nat → q_V} {w : q_P} (hf : 2500 ≤ fu) (hm : (0 : UInt8) ∉ w.2.1) (ho : q_ok d w.1 w.2.2) (he : e + (q_e1 w).length ≤ 136400) (hl : (q_e1 w).length ≤ 2000) (hge : 134400 ≤ e) (hx : q_xf w.1 w.2.2 = 0) (hg : g < 1000) (hgn : ∀ j, j < F.length → q_gn K j < 1000) (hgrp : ∀ j, j < F.length → grp j = iN (q_gn K j)) :
    ∀ (m i n : Nat) (top bgn mst : Int32) (ovr : Bool) (hgh loo : Int64) (st : Nat → Int32) (S : Int), i + m = F.length → m < n → sm st e (q_e1 w) → q_rb st 0 dcs tot frm siz F → hgh.toInt * 1000000000 + loo.toInt + q_sm1 (q_gv w F (((List.range F.length).drop i).filter (fun j => decide (q_gn K j = g)))) = S → -(9223372037 * (i : Int)) ≤ hgh.toInt → hgh.toInt ≤ 9223372037 * (i : Int) → -(1000000000 * (i : Int)) ≤ loo.toInt → loo.toInt ≤ 1000000000 * (i : Int) →
    ∃ tp bg ms ov hgh' loo' st', tw_MO_sum_h19 fu dfl dcs frm grp C (iN e) (iN g) p2 x4 n (iN i) top bgn mst ovr hgh loo st = C (iN F.length) tp bg ms ov hgh' loo' st' ∧ hgh'.toInt * 1000000000 + loo'.toInt = S ∧ -2000000000000 ≤ hgh'.toInt ∧ hgh'.toInt ≤ 2000000000000 ∧ -200000000000 ≤ loo'.toInt ∧ loo'.toInt ≤ 200000000000 ∧ (∀ j, j < 124000 ∨ 128100 ≤ j → st' j = st j) := by
  intro m
  induction m with
  | zero =>
    intro i n top bgn mst ovr hgh loo st S hi hn hs hb hS h1 h2 h3 h4
    obtain ⟨n, rfl⟩ : ∃ m, n = m + 1 := ⟨n - 1, by omega⟩
    have F1 := hb.2.2.2.2.1
    have : i = F.length := by omega
    subst this
    rw [List.drop_eq_nil_of_le (by rw [List.length_range]; exact Nat.le_refl _)] at hS
    have hS : hgh.toInt * 1000000000 + loo.toInt + 0 = S := hS
    unfold tw_MO_sum_h19
    rw [show dcs (0 : Int32).toNatClampNeg = iN F.length from hb.1, if_pos (Int32.le_refl _)]
    exact ⟨_, _, _, _, hgh, loo, st, rfl, by omega, by omega, by omega, by omega, by omega, fun _ _ => rfl⟩
  | succ m ih =>
    intro i n top bgn mst ovr hgh loo st S hi hn hs hb hS h1 h2 h3 h4
    obtain ⟨n, rfl⟩ : ∃ m, n = m + 1 := ⟨n - 1, by omega⟩
    have F1 := hb.2.2.2.2.1
    have F2 := hb.2.2.2.2.2.1
    have il : i < F.length := by omega
    have e1 := q_e1l w
    have hki : F[i]? = some F[i] := List.getElem?_eq_getElem il
    obtain ⟨d1, d2, d3, d4⟩ := q_rbd hb hki
    obtain ⟨f1, f2⟩ := hb.2.2.1 i _ hki
    simp only [Nat.mul_zero, Nat.zero_add] at f1 f2 d1 d4
    have gd := q_gdd hki
    have gi := hgn i il
    have dr : (List.range F.length).drop i = i :: (List.range F.length).drop (i + 1) := by
      rw [List.drop_eq_getElem_cons (by rw [List.length_range]; exact il), List.getElem_range]
    rw [dr] at hS
    unfold tw_MO_sum_h19 tw_MO_sum_r30
    rw [show dcs (0 : Int32).toNatClampNeg = iN F.length from hb.1, if_neg (by simp (disch := omega) only [iN_a, iN_c, iN_le, iN_lt, iN_eq, iN_i]; omega), if_pos (show 0 ≤ iN i ∧ iN i < 200 by simp (disch := omega) only [i_0, i_200, iN_a, iN_c, iN_le, iN_lt, iN_eq, iN_i]; omega), iN_c (show i < 2147483648 by omega), hgrp i il, show iN i + 1 = iN (i + 1) from iN_a i 1]
    by_cases c : q_gn K i = g
    rotate_left
    · rw [List.filter_cons_of_neg (by rw [decide_eq_false c]; decide)] at hS
      rw [if_neg (by simp (disch := omega) only [iN_a, iN_c, iN_le, iN_lt, iN_eq, iN_i]; omega)]
      try dsimp only
      rw [if_neg (show ¬ (0 : Int32) = 16 by decide), if_neg (show ¬ (0 : Int32) = 18 by decide)]
      exact ih (i + 1) n top bgn mst ovr hgh loo st S (by omega) (by omega) hs hb hS (by omega) (by omega) (by omega) (by omega)
    rw [List.filter_cons_of_pos (by exact decide_eq_true c)] at hS
    have hS : hgh.toInt * 1000000000 + loo.toInt + (q_n1v (q_xv w.1 w.2.2 (F.getD i [])) + q_sm1 (q_gv w F (((List.range F.length).drop (i + 1)).filter (fun j => decide (q_gn K j = g))))) = S := hS
    rw [gd] at hS
    have X := r_ev (fu := fu) (g := 124000) (top := top) (bgn := bgn) (mst := mst) (ovr := ovr) hf hs hm ho he hl (by omega) hx d2 (by omega) d1 (by omega) d3
    rw [if_pos (by rw [c]), if_pos (by simp (disch := omega) only [i_0, i_400, iN_a, iN_c, iN_le, iN_lt, iN_eq, iN_i]; omega), f1, show (124000 : Int32) = iN 124000 from rfl]
    generalize tw_MO_evaluate fu top bgn mst ovr st (iN e) (iN (q_pf F i)) (iN 124000) = R at X ⊢
    cases hz : q_xv w.1 w.2.2 F[i] with
    | none =>
      rw [hz] at X hS
      have X : R = some (iN 0, iN 124000, iN 124000, iN 4100, false, st) := X
      have hS : hgh.toInt * 1000000000 + loo.toInt + (0 + q_sm1 (q_gv w F (((List.range F.length).drop (i + 1)).filter (fun j => decide (q_gn K j = g))))) = S := hS
      rw [X, obs6]
      try dsimp only
      rw [if_neg (show ¬ iN 0 = 16 by decide), if_neg (show ¬ iN 0 = 18 by decide)]
      exact ih (i + 1) n _ _ _ _ hgh loo st S (by omega) (by omega) hs hb (by omega) (by omega) (by omega) (by omega) (by omega)
    | some z =>
      rw [hz] at X hS
      obtain ⟨st1, x1, x2, x3⟩ := X
      obtain ⟨zl, zo⟩ := q_xvp ho d2 d3 (by omega) hz
      have kz := (q_okn zo).1
      have hs1 : sm st1 e (q_e1 w) := sm_fr hs (fun j u v => x3 j (by omega))
      have hb1 : q_rb st1 0 dcs tot frm siz F := q_rbf hb (fun j u v => x3 j (by omega))
      rw [x1, obs6]
      try dsimp only
      have fin : ∀ (hgh' loo' : Int64), hgh'.toInt * 1000000000 + loo'.toInt = hgh.toInt * 1000000000 + loo.toInt + q_n1v (some z) → -(9223372037 * ((i + 1 : Nat) : Int)) ≤ hgh'.toInt → hgh'.toInt ≤ 9223372037 * ((i + 1 : Nat) : Int) → -(1000000000 * ((i + 1 : Nat) : Int)) ≤ loo'.toInt → loo'.toInt ≤ 1000000000 * ((i + 1 : Nat) : Int) → ∃ tp bg ms ov h2 l2 st', tw_MO_sum_h19 fu dfl dcs frm grp C (iN e) (iN g) p2 x4 n (iN (i + 1)) (iN (124000 + z.2.length)) (iN 124000) (iN 4100) false hgh' loo' st1 = C (iN F.length) tp bg ms ov h2 l2 st' ∧ h2.toInt * 1000000000 + l2.toInt = S ∧ -2000000000000 ≤ h2.toInt ∧ h2.toInt ≤ 2000000000000 ∧ -200000000000 ≤ l2.toInt ∧ l2.toInt ≤ 200000000000 ∧ (∀ j, j < 124000 ∨ 128100 ≤ j → st' j = st j) := by
        intro hgh' loo' q1 q2 q3 q4 q5
        obtain ⟨a1, a2, a3, a4, a5, a6, a7, u1, u2, u3, u4, u5, u6, u7⟩ := ih (i + 1) n (iN (124000 + z.2.length)) (iN 124000) (iN 4100) false hgh' loo' st1 S (by omega) (by omega) hs1 hb1 (by omega) q2 q3 q4 q5
        exact ⟨a1, a2, a3, a4, a5, a6, a7, u1, u2, u3, u4, u5, u6, fun j hj => (u7 j hj).trans (x3 j (by omega))⟩
      have num : q_cl z.1 = 2 → ∃ tp bg ms ov h2 l2 st', ob1 (tw_MO_number fu st1 (iN z.1.toNat) (iN 124000)) (fun r_8 => tw_MO_sum_h19 fu dfl dcs frm grp C (iN e) (iN g) p2 x4 n (iN (i + 1)) (iN (124000 + z.2.length)) (iN 124000) (iN 4100) false (hgh + (r_8 / 1000000000)) (loo + (r_8 - r_8 / 1000000000 * 1000000000)) st1) = C (iN F.length) tp bg ms ov h2 l2 st' ∧ h2.toInt * 1000000000 + l2.toInt = S ∧ -2000000000000 ≤ h2.toInt ∧ h2.toInt ≤ 2000000000000 ∧ -200000000000 ≤ l2.toInt ∧ l2.toInt ≤ 200000000000 ∧ (∀ j, j < 124000 ∨ 128100 ≤ j → st' j = st j) := by
        intro hc
        have nb := q_64 (q_nu z.1 z.2)
        obtain ⟨q, r, t1, t2, t3, t4, t5, _⟩ := q_6d (q_nu z.1 z.2)
        rw [r_num zo (Or.inl hc) x2 (by omega) (by omega), obs1]
        have v1 : (hgh + q_nu z.1 z.2 / 1000000000).toInt = hgh.toInt + q := by
          rw [q_6a (by rw [t1]; omega) (by rw [t1]; omega), t1]
        have v2 : (loo + (q_nu z.1 z.2 - q_nu z.1 z.2 / 1000000000 * 1000000000)).toInt = loo.toInt + r := by
          rw [q_6a (by rw [t2]; omega) (by rw [t2]; omega), t2]
        have nv : q_n1v (some z) = (q_nu z.1 z.2).toInt := if_pos hc
        have qb : -9223372037 ≤ q ∧ q ≤ 9223372037 := by
          clear v1 v2 fin ih hS x3
          omega
        refine fin _ _ ?_ ?_ ?_ ?_ ?_
        · rw [v1, v2, nv, t3]
          clear v1 v2 fin ih hS x3 h1 h2 h3 h4 nb t1 t2 t3
          omega
        · rw [v1]
          exact q_bd1 h1 qb.1
        · rw [v1]
          exact q_bd2 h2 qb.2
        · rw [v2]
          exact q_bd1 h3 (Int.le_of_lt t4)
        · rw [v2]
          exact q_bd2 h4 (Int.le_of_lt t5)
      by_cases c16 : z.1 = 16
      · rw [if_pos (show iN z.1.toNat = 16 by rw [c16]; rfl)]
        exact num (q_cl2.2 (Or.inl c16))
      rw [if_neg (fun q => c16 (by rw [show (16 : Int32) = iN 16 from rfl, iN_eq (by omega) (by omega), q_ko z.1 16 (by omega)] at q; exact q))]
      by_cases c18 : z.1 = 18
      · rw [if_pos (show iN z.1.toNat = 18 by rw [c18]; rfl)]
        exact num (q_cl2.2 (Or.inr c18))
      rw [if_neg (fun q => c18 (by rw [show (18 : Int32) = iN 18 from rfl, iN_eq (by omega) (by omega), q_ko z.1 18 (by omega)] at q; exact q))]
      have nv : q_n1v (some z) = 0 := if_neg (fun q => by
        rcases q_cl2.1 q with z | z
        · exact c16 z
        · exact c18 z)
      exact fin hgh loo (by rw [nv]; omega) (by omega) (by omega) (by omega) (by omega)
theorem q_S3 {S : Int} {h l : Int64} (hl : l.toInt + h.toInt * 1000000000 = S) : h * 1000000000 + l = Int64.ofInt S := by
  rw [← hl, Int64.ofInt_add, Int64.ofInt_mul, Int64.ofInt_toInt, Int64.ofInt_toInt]
  show h * 1000000000 + l = l + h * 1000000000
  exact Int64.add_comm _ _
/-- the sum of a part in a group: does it hold, and what is it -/
theorem r_sum {fu e d g : Nat} {dfl ovr : Bool} {dcs tot frm siz grp st : Nat → Int32} {top bgn mst p2 : Int32} {hgh loo : Int64} {F : List (List UInt8)} {K : Nat → q_V} {w : q_P} (hf : 2500 ≤ fu) (hm : (0 : UInt8) ∉ w.2.1) (ho : q_ok d w.1 w.2.2) (he : e + (q_e1 w).length ≤ 136400) (hl : (q_e1 w).length ≤ 2000) (hge : 134400 ≤ e) (hx : q_xf w.1 w.2.2 = 0) (hg : g < 1000) (hgn : ∀ j, j < F.length → q_gn K j < 1000) (hgrp : ∀ j, j < F.length → grp j = iN (q_gn K j)) (hs : sm st e (q_e1 w)) (hb : q_rb st 0 dcs tot frm siz F) :
    ∃ hgh' loo' st', tw_MO_sum fu dfl dcs frm grp top bgn mst ovr hgh loo st (iN e) (iN g) p2 = some (q_in6 (q_sm1 (q_gv w F (q_gm K F.length g))), top, p2, 2001, dfl, hgh', loo', st') ∧ hgh' * 1000000000 + loo' = Int64.ofInt (q_sm1 (q_gv w F (q_gm K F.length g))) ∧ (∀ j, j < 124000 ∨ 128100 ≤ j → st' j = st j) := by
  have F1 := hb.2.2.2.2.1
  have H := fun (C : Int32 → Int32 → Int32 → Int32 → Bool → Int64 → Int64 → (Nat → Int32) → q_O8) => r_sum_h (fu := fu) (e := e) (g := g) (dfl := dfl) (dcs := dcs) (tot := tot) (frm := frm) (siz := siz) (grp := grp) (p2 := p2) (x4 := top) (C := C) (F := F) (K := K) hf hm ho he hl hge hx hg hgn hgrp F.length 0 fu top bgn mst ovr 0 0 st (q_sm1 (q_gv w F (q_gm K F.length g))) (by omega) (by omega) hs hb (by rw [List.drop_zero]; show 0 * 1000000000 + 0 + q_sm1 (q_gv w F (q_gm K F.length g)) = _; omega) (by decide) (by decide) (by decide) (by decide)
  generalize q_sm1 (q_gv w F (q_gm K F.length g)) = S at *
  unfold tw_MO_sum
  obtain ⟨tp, bg, ms, ov, h1, l1, st', u1, u2, u3, u4, u5, u6, u7⟩ := H _
  rw [show iN 0 = (0 : Int32) from rfl] at u1
  rw [u1]
  try dsimp only
  unfold tw_MO_resume
  rw [obs4]
  obtain ⟨q, r, t1, t2, t3, t4, t5, t6, t7⟩ := q_6d l1
  have v1 : (h1 + l1 / 1000000000).toInt = h1.toInt + q := by
    rw [q_6a (by rw [t1]; omega) (by rw [t1]; omega), t1]
  generalize h1 + l1 / 1000000000 = H2 at *
  generalize l1 - l1 / 1000000000 * 1000000000 = L2 at *
  have S2 : H2.toInt * 1000000000 + L2.toInt = S := by
    rw [v1, t2, ← u2, t3]
    clear v1 t2 u2 t3 u1 u7 H
    omega
  have b1 : -3000000000000 ≤ H2.toInt ∧ H2.toInt ≤ 3000000000000 := by
    rw [v1]
    clear S2 u1 u2 u7 H
    omega
  have b2 : -1000000000 < L2.toInt ∧ L2.toInt < 1000000000 := by
    rw [t2]
    exact ⟨t4, t5⟩
  clear t1 t2 t3 t4 t5 t6 t7 v1 u1 u2 u3 u4 u5 u6 H
  have tail : ∀ (a c : Int64), a.toInt * 1000000000 + c.toInt = S → -1000000000 < c.toInt → c.toInt < 1000000000 → (0 < a.toInt → 0 ≤ c.toInt) → (a.toInt < 0 → c.toInt ≤ 0) → ∃ hgh' loo' st2, (if 0 ≤ (lg_cmp a 9223372036) then
        if (lg_cmp a 9223372036) = 0 then
          if (lg_cmp c 854775807) ≤ 0 then
            some (true, top, p2, (2001 : Int32), dfl, a, c, st')
          else
            if (lg_cmp a (-9223372036)) = 0 then
              if (lg_cmp c (-854775808)) < 0 then
                some (false, top, p2, 2001, dfl, a, c, st')
              else
                some (true, top, p2, 2001, dfl, a, c, st')
            else
              some (false, top, p2, 2001, dfl, a, c, st')
        else
          if (lg_cmp a (-9223372036)) = 0 then
            if (lg_cmp c (-854775808)) < 0 then
              some (false, top, p2, 2001, dfl, a, c, st')
            else
              some (true, top, p2, 2001, dfl, a, c, st')
          else
            some (false, top, p2, 2001, dfl, a, c, st')
      else
        if 0 < (lg_cmp a (-9223372036)) then
          some (true, top, p2, 2001, dfl, a, c, st')
        else
          if (lg_cmp a 9223372036) = 0 then
            if (lg_cmp c 854775807) ≤ 0 then
              some (true, top, p2, 2001, dfl, a, c, st')
            else
              if (lg_cmp a (-9223372036)) = 0 then
                if (lg_cmp c (-854775808)) < 0 then
                  some (false, top, p2, 2001, dfl, a, c, st')
                else
                  some (true, top, p2, 2001, dfl, a, c, st')
              else
                some (false, top, p2, 2001, dfl, a, c, st')
          else
            if (lg_cmp a (-9223372036)) = 0 then
              if (lg_cmp c (-854775808)) < 0 then
                some (false, top, p2, 2001, dfl, a, c, st')
              else
                some (true, top, p2, 2001, dfl, a, c, st')
            else
              some (false, top, p2, 2001, dfl, a, c, st')) = some (q_in6 S, top, p2, 2001, dfl, hgh', loo', st2) ∧ hgh' * 1000000000 + loo' = Int64.ofInt S ∧ (∀ j, j < 124000 ∨ 128100 ≤ j → st2 j = st j) := by
    intro a c hS hc1 hc2 hp hn
    have e1 : (9223372036 : Int64).toInt = 9223372036 := by decide
    have e2 : (854775807 : Int64).toInt = 854775807 := by decide
    have e3 : (-9223372036 : Int64).toInt = -9223372036 := by decide
    have e4 : (-854775808 : Int64).toInt = -854775808 := by decide
    have g1 : (0 ≤ lg_cmp a 9223372036) = (9223372036 ≤ a.toInt) := by rw [q_lgg, e1]
    have g2 : (lg_cmp a 9223372036 = 0) = (a.toInt = 9223372036) := by rw [q_lgz, ← Int64.toInt_inj, e1]
    have g3 : (lg_cmp c 854775807 ≤ 0) = (c.toInt ≤ 854775807) := by
      have s3 := q_lc3 c 854775807
      have := q_lgl c 854775807
      have z := q_lgz c 854775807
      rw [← Int64.toInt_inj, e2] at z
      rw [e2] at this
      refine propext ⟨fun q => ?_, fun q => ?_⟩
      · rcases s3 with s | s | s
        · rw [s] at z
          have := z.mp rfl
          omega
        · rw [s] at q
          exact absurd q (by decide)
        · rw [s] at this
          have := this.mp (by decide)
          omega
      · rcases s3 with s | s | s
        · rw [s]
          decide
        · rw [s] at this z
          exfalso
          by_cases y : c.toInt = 854775807
          · exact absurd (z.mpr y) (by decide)
          · exact absurd (this.mpr (by omega)) (by decide)
        · rw [s]
          decide
    have g4 : (lg_cmp a (-9223372036) = 0) = (a.toInt = -9223372036) := by rw [q_lgz, ← Int64.toInt_inj, e3]
    have g5 : (lg_cmp c (-854775808) < 0) = (c.toInt < -854775808) := by rw [q_lgl, e4]
    have g6 : (0 < lg_cmp a (-9223372036)) = (-9223372036 < a.toInt) := by
      have s3 := q_lc3 a (-9223372036)
      have := q_lgg a (-9223372036)
      rw [e3] at this
      refine propext ⟨fun q => ?_, fun q => ?_⟩
      · rcases s3 with s | s | s
        · rw [s] at q
          exact absurd q (by decide)
        · rw [s] at this g4
          have := this.mp (by decide)
          by_cases y : a.toInt = -9223372036
          · exact absurd (g4.mpr y) (by decide)
          · omega
        · rw [s] at q
          exact absurd q (by decide)
      · rcases s3 with s | s | s
        · rw [s] at g4
          have := g4.mp rfl
          omega
        · rw [s]
          decide
        · rw [s] at this
          exact absurd (this.mpr (by omega)) (by decide)
    simp only [g1, g2, g3, g4, g5, g6]
    have fin : ∀ (B : Bool), B = q_in6 S → ∃ hgh' loo' st2, some (B, top, p2, (2001 : Int32), dfl, a, c, st') = some (q_in6 S, top, p2, 2001, dfl, hgh', loo', st2) ∧ hgh' * 1000000000 + loo' = Int64.ofInt S ∧ (∀ j, j < 124000 ∨ 128100 ≤ j → st2 j = st j) := by
      intro B hB
      rw [hB]
      exact ⟨a, c, st', rfl, q_S3 (by omega), u7⟩
    have T : (-9223372036854775808 ≤ S ∧ S < 9223372036854775808) → true = q_in6 S := fun q => (decide_eq_true q).symm
    have N : ¬ (-9223372036854775808 ≤ S ∧ S < 9223372036854775808) → false = q_in6 S := fun q => (decide_eq_false q).symm
    repeat' split
    all_goals first
      | (refine fin true (T ?_); omega)
      | (refine fin false (N ?_); omega)
  unfold tw_MO_sum_r159
  have z0 : (0 : Int64).toInt = 0 := by decide
  have le0 : ∀ a : Int64, (lg_cmp a 0 ≤ 0) = (a.toInt ≤ 0) := by
    intro a
    have s3 := q_lc3 a 0
    have h1 := q_lgl a 0
    have h2 := q_lgg a 0
    have h3 := q_lgz a 0
    rw [← Int64.toInt_inj, z0] at h3
    rw [z0] at h1 h2
    refine propext ⟨fun q => ?_, fun q => ?_⟩
    · rcases s3 with s | s | s
      · rw [s] at h3
        have := h3.mp rfl
        omega
      · rw [s] at q
        exact absurd q (by decide)
      · rw [s] at h1
        have := h1.mp (by decide)
        omega
    · rcases s3 with s | s | s
      · rw [s]
        decide
      · rw [s] at h1 h3
        exfalso
        by_cases y : a.toInt = 0
        · exact absurd (h3.mpr y) (by decide)
        · exact absurd (h1.mpr (by omega)) (by decide)
      · rw [s]
        decide
  have ge0 : ∀ a : Int64, (0 ≤ lg_cmp a 0) = (0 ≤ a.toInt) := by
    intro a
    rw [q_lgg, z0]
  have e9 : (1000000000 : Int64).toInt = 1000000000 := by decide
  have e1 : (1 : Int64).toInt = 1 := by decide
  by_cases c1 : H2.toInt ≤ 0
  · rw [if_pos (by rw [le0]; exact c1)]
    by_cases c2 : 0 ≤ H2.toInt
    · rw [if_pos (by rw [ge0]; exact c2)]
      exact tail H2 L2 S2 b2.1 b2.2 (by omega) (by omega)
    · rw [if_neg (by rw [ge0]; exact c2)]
      by_cases c3 : L2.toInt ≤ 0
      · rw [if_pos (by rw [le0]; exact c3)]
        exact tail H2 L2 S2 b2.1 b2.2 (by omega) (by omega)
      · rw [if_neg (by rw [le0]; exact c3)]
        have w1 : (H2 + 1).toInt = H2.toInt + 1 := by
          rw [q_6a (by rw [e1]; omega) (by rw [e1]; omega), e1]
        have w2 : (L2 - 1000000000).toInt = L2.toInt - 1000000000 := by
          rw [q_6s (by rw [e9]; omega) (by rw [e9]; omega), e9]
        generalize H2 + 1 = A at *
        generalize L2 - 1000000000 = B at *
        exact tail A B (by omega) (by omega) (by omega) (by omega) (by omega)
  · rw [if_neg (by rw [le0]; exact c1)]
    by_cases c3 : 0 ≤ L2.toInt
    · rw [if_pos (by rw [ge0]; exact c3), if_pos (by rw [ge0]; omega)]
      exact tail H2 L2 S2 b2.1 b2.2 (by omega) (by omega)
    · rw [if_neg (by rw [ge0]; exact c3)]
      have w1 : (H2 - 1).toInt = H2.toInt - 1 := by
        rw [q_6s (by rw [e1]; omega) (by rw [e1]; omega), e1]
      have w2 : (L2 + 1000000000).toInt = L2.toInt + 1000000000 := by
        rw [q_6a (by rw [e9]; omega) (by rw [e9]; omega), e9]
      generalize H2 - 1 = A at *
      generalize L2 + 1000000000 = B at *
      exact tail A B (by omega) (by omega) (by omega) (by omega) (by omega)
