/-! the pure part: the reference's $lookup and its fault -/
theorem q_lk0 {ps : List q_P} (h : q_lkf ps = 0) : ∃ x y z, ps = [x, y, z] ∧ q_is 16 x = true ∧ q_is 17 y = true ∧ q_is 18 z = true ∧ q_pln (q_tt z.2.2) = true ∧ (q_po (q_tt x.2.2)).isSome = true ∧ (q_po (q_tt y.2.2)).isSome = true := by
  match ps, h with
  | [x, y, z], h =>
    have h : (if (q_is 16 x && (q_is 17 y && q_is 18 z)) = true then (if q_pln (q_tt z.2.2) = true then (if (q_po (q_tt x.2.2)).isSome = true then (if (q_po (q_tt y.2.2)).isSome = true then 0 else 3) else 3) else 2) else 2) = 0 := h
    by_cases c1 : (q_is 16 x && (q_is 17 y && q_is 18 z)) = true
    rotate_left
    · rw [if_neg c1] at h
      cases h
    rw [if_pos c1] at h
    by_cases c2 : q_pln (q_tt z.2.2) = true
    rotate_left
    · rw [if_neg c2] at h
      cases h
    rw [if_pos c2] at h
    by_cases c3 : (q_po (q_tt x.2.2)).isSome = true
    rotate_left
    · rw [if_neg c3] at h
      cases h
    rw [if_pos c3] at h
    by_cases c4 : (q_po (q_tt y.2.2)).isSome = true
    rotate_left
    · rw [if_neg c4] at h
      cases h
    rw [Bool.and_eq_true, Bool.and_eq_true] at c1
    exact ⟨x, y, z, rfl, c1.1, c1.2.1, c1.2.2, c2, c3, c4⟩
  | [], h => cases h
  | [_], h => cases h
  | [_, _], h => cases h
  | _ :: _ :: _ :: _ :: _, h => cases h
theorem q_is2 {i d : Nat} {x : q_P} (h : q_is i x = true) (ho : q_ok d x.1 x.2.2) : x.1 = 2 ∧ x.2.1 = q_sn i ∧ x.2.2 = q_tx (q_tt x.2.2) := by
  unfold q_is at h
  rw [Bool.and_eq_true] at h
  have k := of_decide_eq_true h.1
  rw [k] at ho
  obtain ⟨t, e⟩ := q_tx2 ho
  refine ⟨k, of_decide_eq_true h.2, ?_⟩
  rw [e, q_ttt]
theorem r_lk {fu d P : Nat} {dcs tot frm siz st ffr fsz lkd lat : Nat → Int32} {frs frt top bgn mst lvs : Int32} {ovr tgr : Bool} {F B : List (List UInt8)} {ps : List q_P} (hf : 60000 ≤ fu) (hs : sm st P (q_bx ps)) (ho : q_op d ps) (hP : 134400 ≤ P) (hP2 : P + (q_bx ps).length ≤ 136400) (hl : (q_bx ps).length ≤ 2000) (h0 : q_lkf ps = 0) (hb0 : q_rb st 0 dcs tot frm siz F) (hb1 : q_rb st 1 dcs tot frm siz B) (h : q_fr st frs frt top tgr ffr fsz (some [])) :
    ∃ fs ft tp bg ms ov tg lv st' ff fz lk la, tw_MO_lookup fu dcs frm siz frs frt top bgn mst ovr tgr lvs st ffr fsz lkd lat (iN P) = some (fs, ft, tp, bg, ms, ov, tg, lv, st', ff, fz, lk, la) ∧ q_fr st' fs ft tp tg ff fz (q_run (some []) (q_lks (q_bx ps) F B)) ∧ (∀ j, j < 80000 ∨ 122001 ≤ j → st' j = st j) := by
  obtain ⟨x, y, z, rfl, ix, iy, iz, pz, px, py⟩ := q_lk0 h0
  have bl := q_bxl [x, y, z]
  have F1 := hb0.2.2.2.2.1
  have l1 := q_e1l x
  have l2 := q_e1l y
  have l3 := q_e1l z
  have en : (q_en [x, y, z]).length = (q_e1 x).length + ((q_e1 y).length + (q_e1 z).length) := by
    rw [q_enc, q_enc, q_enc]
    simp [q_en]
  have en2 : (q_en [y, z]).length = (q_e1 y).length + (q_e1 z).length := by
    rw [q_enc, q_enc]
    simp [q_en]
  have hen : sm st (P + 4) (q_en [x, y, z] ++ [0]) := (sm_ap.1 hs).2
  obtain ⟨hx1, hr1⟩ := sm_en hen
  obtain ⟨hy1, hr2⟩ := sm_en hr1
  obtain ⟨hz1, _⟩ := sm_en hr2
  obtain ⟨xm, xo⟩ := ho x List.mem_cons_self
  obtain ⟨ym, yo⟩ := ho y (List.mem_cons_of_mem _ List.mem_cons_self)
  obtain ⟨zm, zo⟩ := ho z (List.mem_cons_of_mem _ (List.mem_cons_of_mem _ List.mem_cons_self))
  obtain ⟨_, _, ex⟩ := q_is2 ix xo
  obtain ⟨_, _, ey⟩ := q_is2 iy yo
  obtain ⟨_, _, ez⟩ := q_is2 iz zo
  obtain ⟨xs, hxs⟩ := Option.isSome_iff_exists.1 px
  obtain ⟨ys, hys⟩ := Option.isSome_iff_exists.1 py
  obtain ⟨_, xs0, xs8, xsg⟩ := q_pok hxs
  obtain ⟨_, ys0, ys8, ysg⟩ := q_pok hys
  have H := fun C => r_22 (fu := fu) (ex := P + 4) (ey := P + 4 + (q_e1 x).length) (ez := P + 4 + (q_e1 x).length + (q_e1 y).length) (dx := 0) (dcs := dcs) (tot := tot) (frm := frm) (siz := siz) (C := C) (F := F) (B := B) (xs := xs) (ys := ys) (x := x) (y := y) (z := z) hf xsg xs0 xs8 ysg ys0 ys8 hxs hys pz xm ex (by omega) (by omega) (by omega) ym ey (by omega) (by omega) (by omega) zm ez (by omega) (by omega) (by omega) F.length 0 fu frs frt top bgn mst ovr tgr lvs st ffr fsz lkd lat (some []) (by omega) (by omega) hx1 hy1 hz1 hb0 hb1 h
  unfold tw_MO_lookup
  rw [r_fo hs ho (by omega), obs1, q_ptc, r_no hen ho (by omega) (by omega), obs1, q_ptc, r_no hr1 (fun u hu => ho u (List.mem_cons_of_mem _ hu)) (by omega) (by omega), obs1, q_ptc]
  obtain ⟨a1, a2, a3, a4, a5, a6, a7, a8, st', a10, a11, a12, a13, u1, u2, u3⟩ := H _
  rw [show iN 0 = (0 : Int32) from rfl] at u1
  rw [u1]
  rw [List.drop_zero] at u2
  refine ⟨a1, a2, a3, a4, a5, a6, a7, a8, st', a10, a11, a12, a13, rfl, ?_, u3⟩
  unfold q_lks q_stp
  rw [q_psb ho (by omega)]
  dsimp only
  rw [hxs, hys]
  exact u2
theorem r_it {fu e : Nat} {st : Nat → Int32} {x : q_P} (h : sm st e (q_e1 x)) (he : 0 < e) (he2 : e < 136400) : tw_MO_isText fu st (iN e) = some (decide (x.1 = 2)) := by
  have s1 := sm_e1 h
  have ux := q_u8 x.1
  unfold tw_MO_isText
  rw [if_neg (by simp (disch := omega) only [i_0, iN_a, iN_c, iN_le, iN_lt, iN_eq, iN_i]; omega), if_pos (by simp (disch := omega) only [i_0, i_136400, iN_a, iN_c, iN_le, iN_lt, iN_eq, iN_i]; omega), iN_c (by omega), s1.1]
  by_cases c : x.1 = 2
  · rw [if_pos (by rw [c]; rfl), decide_eq_true c]
  · rw [if_neg (fun z => c (by rw [show (2 : Int32) = iN 2 from rfl, iN_eq (by omega) (by omega), q_ko x.1 2 (by omega)] at z; exact z)), decide_eq_false c]
theorem r_lkf {fu d P : Nat} {st : Nat → Int32} {ps : List q_P} (hf : 2500 ≤ fu) (hs : sm st P (q_bx ps)) (ho : q_op d ps) (hP : 0 < P) (hP2 : P + (q_bx ps).length ≤ 136400) (hl : (q_bx ps).length ≤ 2000) : tw_MO_lookupFault fu st (iN P) = some (iN (q_lkf ps)) := by
  have bl := q_bxl ps
  have pl := q_psl ps
  unfold tw_MO_lookupFault
  rw [r_co hs ho hP2 (by omega) hf, obs1]
  by_cases c3 : ps.length = 3
  rotate_left
  · have f2 : q_lkf ps = 2 := by
      unfold q_lkf
      match ps, c3 with
      | [], _ => rfl
      | [_], _ => rfl
      | [_, _], _ => rfl
      | [_, _, _], q => exact absurd rfl q
      | _ :: _ :: _ :: _ :: _, _ => rfl
    rw [if_neg (by simp (disch := omega) only [i_3, iN_a, iN_c, iN_le, iN_lt, iN_eq, iN_i]; omega), f2]
    rfl
  match ps, c3 with
  | [x, y, z], _ =>
    have l1 := q_e1l x
    have l2 := q_e1l y
    have l3 := q_e1l z
    have en : (q_en [x, y, z]).length = (q_e1 x).length + ((q_e1 y).length + (q_e1 z).length) := by
      rw [q_enc, q_enc, q_enc]
      simp [q_en]
    have en2 : (q_en [y, z]).length = (q_e1 y).length + (q_e1 z).length := by
      rw [q_enc, q_enc]
      simp [q_en]
    have hen : sm st (P + 4) (q_en [x, y, z] ++ [0]) := (sm_ap.1 hs).2
    obtain ⟨hx1, hr1⟩ := sm_en hen
    obtain ⟨hy1, hr2⟩ := sm_en hr1
    obtain ⟨hz1, _⟩ := sm_en hr2
    obtain ⟨xm, xo⟩ := ho x List.mem_cons_self
    obtain ⟨ym, yo⟩ := ho y (List.mem_cons_of_mem _ List.mem_cons_self)
    obtain ⟨zm, zo⟩ := ho z (List.mem_cons_of_mem _ (List.mem_cons_of_mem _ List.mem_cons_self))
    have lkf : q_lkf [x, y, z] = if (q_is 16 x && (q_is 17 y && q_is 18 z)) = true then (if q_pln (q_tt z.2.2) = true then (if (q_po (q_tt x.2.2)).isSome = true then (if (q_po (q_tt y.2.2)).isSome = true then 0 else 3) else 3) else 2) else 2 := rfl
    have sl : ∀ i, i < 19 → (q_sn i).length < 10 := fun i hi => (q_snl i hi).2
    rw [if_pos (show iN [x, y, z].length = 3 from rfl), r_fo hs ho (by omega), obs1, q_ptc, r_no hen ho (by omega) (by omega), obs1, q_ptc, r_no hr1 (fun u hu => ho u (List.mem_cons_of_mem _ hu)) (by omega) (by omega), obs1, q_ptc, r_it hx1 (by omega) (by omega), obs1, r_it hy1 (by omega) (by omega), obs1, r_it hz1 (by omega) (by omega), obs1]
    unfold tw_MO_lookupFault_r30
    rw [r_nd (w := q_sn 16) hx1 xm (by omega) (by decide +kernel) (by decide +kernel) (by decide +kernel) (by have := sl 16 (by omega); omega), obs1, r_nd (w := q_sn 17) hy1 ym (by omega) (by decide +kernel) (by decide +kernel) (by decide +kernel) (by have := sl 17 (by omega); omega), obs1, r_nd (w := q_sn 18) hz1 zm (by omega) (by decide +kernel) (by decide +kernel) (by decide +kernel) (by have := sl 18 (by omega); omega), obs1, lkf]
    rw [q_b2, q_b2, q_b2, q_b2, q_b2, q_b2]
    have no : ∀ (X : Nat) (A B : Bool), (A && B) = false → (if (A && B) = true then X else 2) = 2 := fun X A B q => by rw [q]; rfl
    have nf : some (2 : Int32) = some (iN 2) := rfl
    by_cases n1 : x.2.1 = q_sn 16
    rotate_left
    · have e : (q_is 16 x && (q_is 17 y && q_is 18 z)) = false := by
        unfold q_is
        rw [decide_eq_false n1, Bool.and_false, Bool.false_and]
      rw [if_neg n1]
      dsimp only
      rw [if_pos (show b2i false = 0 from rfl), no _ _ _ e]
      rfl
    rw [if_pos n1]
    by_cases n2 : y.2.1 = q_sn 17
    rotate_left
    · have e : (q_is 16 x && (q_is 17 y && q_is 18 z)) = false := by
        unfold q_is
        rw [decide_eq_false n2, Bool.and_false, Bool.false_and, Bool.and_false]
      rw [if_neg n2]
      dsimp only
      rw [if_pos (show b2i false = 0 from rfl), no _ _ _ e]
      rfl
    rw [if_pos n2]
    by_cases n3 : z.2.1 = q_sn 18
    rotate_left
    · have e : (q_is 16 x && (q_is 17 y && q_is 18 z)) = false := by
        unfold q_is
        rw [decide_eq_false n3, Bool.and_false, Bool.and_false, Bool.and_false]
      rw [if_neg n3]
      dsimp only
      rw [if_pos (show b2i false = 0 from rfl), no _ _ _ e]
      rfl
    rw [if_pos n3]
    dsimp only
    rw [if_neg (show ¬ b2i true = 0 by decide)]
    by_cases k1 : x.1 = 2
    rotate_left
    · have e : (q_is 16 x && (q_is 17 y && q_is 18 z)) = false := by
        unfold q_is
        rw [decide_eq_false k1, Bool.false_and, Bool.false_and]
      rw [if_neg k1, no _ _ _ e]
      rfl
    rw [if_pos k1]
    by_cases k2 : y.1 = 2
    rotate_left
    · have e : (q_is 16 x && (q_is 17 y && q_is 18 z)) = false := by
        unfold q_is
        rw [decide_eq_false k2, Bool.false_and, Bool.false_and, Bool.and_false]
      rw [if_neg k2, no _ _ _ e]
      rfl
    rw [if_pos k2]
    by_cases k3 : z.1 = 2
    rotate_left
    · have e : (q_is 16 x && (q_is 17 y && q_is 18 z)) = false := by
        unfold q_is
        rw [decide_eq_false k3, Bool.false_and, Bool.and_false, Bool.and_false]
      rw [if_neg k3, no _ _ _ e]
      rfl
    rw [if_pos k3]
    have all : (q_is 16 x && (q_is 17 y && q_is 18 z)) = true := by
      unfold q_is
      rw [decide_eq_true k1, decide_eq_true k2, decide_eq_true k3, decide_eq_true n1, decide_eq_true n2, decide_eq_true n3]
      rfl
    have i1 : q_is 16 x = true := by
      unfold q_is
      rw [decide_eq_true k1, decide_eq_true n1]
      rfl
    have i2 : q_is 17 y = true := by
      unfold q_is
      rw [decide_eq_true k2, decide_eq_true n2]
      rfl
    have i3 : q_is 18 z = true := by
      unfold q_is
      rw [decide_eq_true k3, decide_eq_true n3]
      rfl
    obtain ⟨_, _, ex⟩ := q_is2 i1 xo
    obtain ⟨_, _, ey⟩ := q_is2 i2 yo
    obtain ⟨_, _, ez⟩ := q_is2 i3 zo
    have lx : x.2.2.length = (q_tt x.2.2).length + 5 := by
      conv => lhs; rw [ex]
      rw [q_txl]
    have ly : y.2.2.length = (q_tt y.2.2).length + 5 := by
      conv => lhs; rw [ey]
      rw [q_txl]
    have lz : z.2.2.length = (q_tt z.2.2).length + 5 := by
      conv => lhs; rw [ez]
      rw [q_txl]
    obtain ⟨vx1, vx2, vx3⟩ := r_ts (d := 0) (fu := fu) hx1 xm ex (by omega) (by omega) hf
    obtain ⟨vy1, vy2, vy3⟩ := r_ts (d := 0) (fu := fu) hy1 ym ey (by omega) (by omega) hf
    obtain ⟨vz1, vz2, vz3⟩ := r_ts (d := 0) (fu := fu) hz1 zm ez (by omega) (by omega) hf
    rw [if_pos all, vz1, obs1, vz2, obs1, show iN (P + 4 + (q_e1 x).length + (q_e1 y).length + z.2.1.length + 2) + 4 = iN (P + 4 + (q_e1 x).length + (q_e1 y).length + z.2.1.length + 2 + 4) from iN_a _ 4, r_pl2 (sm_ap.1 vz3).1 (by omega) (by omega) (by omega), obs1, vx1, obs1, vx2, obs1, show iN (P + 4 + x.2.1.length + 2) + 4 = iN (P + 4 + x.2.1.length + 2 + 4) from iN_a _ 4, r_ip (sm_ap.1 vx3).1 (by omega) (by omega) (by omega), obs1, vy1, obs1, vy2, obs1, show iN (P + 4 + (q_e1 x).length + y.2.1.length + 2) + 4 = iN (P + 4 + (q_e1 x).length + y.2.1.length + 2 + 4) from iN_a _ 4, r_ip (sm_ap.1 vy3).1 (by omega) (by omega) (by omega), obs1, q_b2, q_b2, q_po1, q_po1]
    cases pz : q_pln (q_tt z.2.2) with
    | false =>
      rw [if_pos (show b2i false = 0 from rfl), if_neg (show ¬ false = true by decide)]
      rfl
    | true =>
      rw [if_neg (show ¬ b2i true = 0 by decide), if_pos (show true = true from rfl)]
      by_cases g1 : q_gp true (q_tt x.2.2) = true ∧ q_dc (q_tt x.2.2) < 8
      · rw [if_pos g1, if_pos (decide_eq_true g1)]
        by_cases g2 : q_gp true (q_tt y.2.2) = true ∧ q_dc (q_tt y.2.2) < 8
        · rw [if_pos g2, if_pos (decide_eq_true g2)]
          rfl
        · rw [if_neg g2, if_neg (by rw [decide_eq_false g2]; decide)]
          rfl
      · rw [if_neg g1, if_neg (by rw [decide_eq_false g1]; decide)]
        rfl
