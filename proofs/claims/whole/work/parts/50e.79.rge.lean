/-! the pure part: the reference's element of a part -/
theorem obs9 {T1 T2 T3 T4 T5 T6 T7 T8 T9 Z : Type} (x1 : T1) (x2 : T2) (x3 : T3) (x4 : T4) (x5 : T5) (x6 : T6) (x7 : T7) (x8 : T8) (x9 : T9) (f : T1 → T2 → T3 → T4 → T5 → T6 → T7 → T8 → T9 → Option Z) : ob9 (some (x1, x2, x3, x4, x5, x6, x7, x8, x9)) f = f x1 x2 x3 x4 x5 x6 x7 x8 x9 := rfl
theorem obs12 {T1 T2 T3 T4 T5 T6 T7 T8 T9 T10 T11 T12 Z : Type} (x1 : T1) (x2 : T2) (x3 : T3) (x4 : T4) (x5 : T5) (x6 : T6) (x7 : T7) (x8 : T8) (x9 : T9) (x10 : T10) (x11 : T11) (x12 : T12) (f : T1 → T2 → T3 → T4 → T5 → T6 → T7 → T8 → T9 → T10 → T11 → T12 → Option Z) : ob12 (some (x1, x2, x3, x4, x5, x6, x7, x8, x9, x10, x11, x12)) f = f x1 x2 x3 x4 x5 x6 x7 x8 x9 x10 x11 x12 := rfl
abbrev q_O12 : Type := Option (Bool × Int32 × Int32 × Int32 × Bool × Int32 × Int64 × Int64 × Bool × (Nat → Int32) × (Nat → Int32) × (Nat → Int32))
theorem r_54 {fu g : Nat} {dcs frm grp st ikd iat : Nat → Int32} {x1 top bgn mst its : Int32} {x6 ovr dfl : Bool} {hgh loo : Int64} {C : Int64 → Int32 → Int32 → Int32 → Int32 → Bool → Int32 → Int64 → Int64 → Bool → (Nat → Int32) → (Nat → Int32) → (Nat → Int32) → q_O12} {F : List (List UInt8)} {K : Nat → q_V} (hF : F.length ≤ 200) (hdcs : dcs 0 = iN F.length) (hg : g < 1000) (hgn : ∀ j, j < F.length → q_gn K j < 1000) (hgrp : ∀ j, j < F.length → grp j = iN (q_gn K j)) :
    ∀ (m i n c : Nat), i + m = F.length → m < n → tw_MO_gather_h54 fu dcs frm grp C x1 (iN g) x6 n (Int64.ofNat c) (iN i) top bgn mst ovr its hgh loo dfl st ikd iat = C (Int64.ofNat (c + (q_gr K F.length g i).length)) (iN F.length) top bgn mst ovr its hgh loo dfl st ikd iat := by
  intro m
  induction m with
  | zero =>
    intro i n c hi hn
    obtain ⟨n, rfl⟩ : ∃ m, n = m + 1 := ⟨n - 1, by omega⟩
    have : i = F.length := by omega
    subst this
    unfold tw_MO_gather_h54
    rw [show dcs (0 : Int32).toNatClampNeg = iN F.length from hdcs, if_pos (Int32.le_refl _), q_gre]
    rfl
  | succ m ih =>
    intro i n c hi hn
    obtain ⟨n, rfl⟩ : ∃ m, n = m + 1 := ⟨n - 1, by omega⟩
    have il : i < F.length := by omega
    have gi := hgn i il
    unfold tw_MO_gather_h54
    rw [show dcs (0 : Int32).toNatClampNeg = iN F.length from hdcs, if_neg (by simp (disch := omega) only [iN_a, iN_c, iN_le, iN_lt, iN_eq, iN_i]; omega), if_pos (by simp (disch := omega) only [i_0, i_200, iN_a, iN_c, iN_le, iN_lt, iN_eq, iN_i]; omega), iN_c (by omega), hgrp i il, show iN i + 1 = iN (i + 1) from iN_a i 1, q_grs K il]
    by_cases k : q_gn K i = g
    · rw [if_pos (by rw [k]), if_pos k, show Int64.ofNat c + 1 = Int64.ofNat (c + 1) from (Int64.ofNat_add c 1).symm, ih (i + 1) n (c + 1) (by omega) (by omega), List.length_cons, show c + 1 + (q_gr K F.length g (i + 1)).length = c + ((q_gr K F.length g (i + 1)).length + 1) by omega]
    · rw [if_neg (by simp (disch := omega) only [iN_a, iN_c, iN_le, iN_lt, iN_eq, iN_i]; omega), if_neg k, Int64.add_zero, ih (i + 1) n c (by omega) (by omega)]
theorem r_gp {fu ey d g G t : Nat} {o dfl : Bool} {its : Int32} {hgh loo : Int64} {dcs tot frm siz grp st0 ikd iat : Nat → Int32} {F : List (List UInt8)} {K : Nat → q_V} {y : q_P} {pre : List UInt8} {r : q_R} (hf : 5000 ≤ fu) (hyn : (0 : UInt8) ∉ y.2.1) (hyo : q_ok d y.1 y.2.2) (hd16 : d ≤ 16) (hye : ey + (q_e1 y).length ≤ 136400) (hyl : (q_e1 y).length ≤ 2000) (hyg : 134400 ≤ ey) (hgp : q_gpf y = 0) (hg : g < 1000) (hgn : ∀ j, j < F.length → q_gn K j < 1000) (hgrp : ∀ j, j < F.length → grp j = iN (q_gn K j)) (hne : q_gm K F.length g ≠ [])
    (hG : 80000 ≤ G) (hG2 : G ≤ 120000) (hy : sm st0 ey (q_e1 y)) (hb : q_rb st0 0 dcs tot frm siz F) (ht : G ≤ t) (hr : q_W G 2001 t o st0 pre r) :
    ∃ its' hgh' loo' dfl' ikd' iat' r' st1, tw_MO_gather fu dcs frm grp (iN r.1) (iN G) (iN 2001) r.2.1 its hgh loo dfl r.2.2 ikd iat (iN ey) (iN g) (iN G) = some (if q_wk (q_told y).2.1 = 2 then q_gsh K F y g else true, iN r'.1, iN G, iN 2001, r'.2.1, its', hgh', loo', dfl', r'.2.2, ikd', iat') ∧ (∀ j, j < 124000 ∨ 132300 ≤ j → st1 j = st0 j) ∧ q_W G 2001 t o st1 (pre ++ q_e1 (q_gelm F (q_gm K F.length g) y)) r' := by
  have F2 := hb.2.2.2.2.2.1
  have F1 := hb.2.2.2.2.1
  have e1 := q_e1l y
  have r2 := hr.2.1
  have r3 := hr.2.2.1
  have fr : ∀ j, j < t ∨ G + 2001 ≤ j → r.2.2 j = st0 j := hr.1
  obtain ⟨_, y3, psy, wk0, xf⟩ := q_gp0 hgp
  have s1 := sm_e1 hy
  have ho3 := hyo
  rw [y3] at ho3
  obtain ⟨e', ws, de, ew, o1, o2⟩ := q_okd ho3 (Or.inl rfl)
  have sv := s1.2.2.2
  rw [ew] at sv
  have bl := q_bxl ws
  have yl : y.2.2.length = (q_bx ws).length := by rw [ew]
  have psw : q_ps y.2.2 = ws := q_psb' ew o1 (by omega)
  rw [psy] at psw
  subst psw
  have gsh : q_gsh K F y g = q_in6 (q_sm1 (q_gv (q_told y) F (q_gm K F.length g))) := rfl
  have gel : q_gelm F (q_gm K F.length g) y = ((q_gval (q_wk (q_told y).2.1) (q_gv (q_told y) F (q_gm K F.length g))).1, y.2.1, (q_gval (q_wk (q_told y).2.1) (q_gv (q_told y) F (q_gm K F.length g))).2) := rfl
  rw [gsh, gel]
  generalize q_told y = w at *
  have wm := o1 w List.mem_cons_self
  have sw : sm st0 (ey + y.2.1.length + 2 + 4) (q_e1 w) := (sm_en (sm_ap.1 sv).2).1
  have w1 := q_e1l w
  have wl : (q_en [w]).length = (q_e1 w).length := by
    rw [q_enc]
    simp [q_en]
  have w9 := q_wk9 w.2.1
  have frE : ∀ j, 134400 ≤ j → r.2.2 j = st0 j := fun j hj => fr j (by omega)
  have hy' : sm r.2.2 ey (q_e1 y) := sm_fr hy (fun j u v => frE j (by omega))
  have sv' : sm r.2.2 (ey + y.2.1.length + 2) (q_bx [w]) := sm_fr sv (fun j u v => frE j (by omega))
  have sw' : sm r.2.2 (ey + y.2.1.length + 2 + 4) (q_e1 w) := sm_fr sw (fun j u v => frE j (by omega))
  unfold tw_MO_gather
  rw [r_vo hy' hyn (by omega) (by omega), obs1, r_fo sv' o1 (by omega), obs1, q_ptc, r_go sw' wm.1 (by omega) (by omega), obs1]
  -- head and eight bytes
  have w8 : ∀ (v : Int64) (st' : Nat → Int32), (∀ j, j < 124000 ∨ 132300 ≤ j → st' j = r.2.2 j) → ∃ s r' : q_R, tw_MO_head fu (iN G) (iN 2001) (iN r.1) r.2.1 st' 18 (iN ey) = q_e3 s ∧ tw_MO_putLow fu (iN G) (iN 2001) (iN s.1) s.2.1 s.2.2 v 8 = q_e3 r' ∧ ∃ st1, (∀ j, j < 124000 ∨ 132300 ≤ j → st1 j = st0 j) ∧ q_W G 2001 t o st1 (pre ++ q_e1 (18, y.2.1, q_l8 v)) r' := by
    intro v st' hst
    obtain ⟨st1, m1, m2⟩ := q_Wn (st' := st') (by omega) hr hst
    obtain ⟨s, a1, a2⟩ := r_hd2 (fu := fu) (g := G) (m := 2001) (t := r.1) (e := ey) (o := r.2.1) (st := st') (k := 18) (x := y) (by omega) (by omega) r3 (sm_fr hy' (fun j u v => hst j (by omega))) hyn (by omega) (by omega) (by omega)
    obtain ⟨r', b1, b2⟩ := r_w8 (fu := fu) (g := G) (m := 2001) (t := s.1) (o := s.2.1) (st := s.2.2) (v := v) (by omega) (by have := a2.2.1; omega) a2.2.2.1 (by omega)
    refine ⟨s, r', a1, b1, st1, m1, ?_⟩
    have W := q_Wa (q_Wa m2 a2) b2
    rw [show pre ++ ((18 : UInt8) :: (y.2.1 ++ [0])) ++ q_l8 v = pre ++ q_e1 (18, y.2.1, q_l8 v) by unfold q_e1; simp] at W
    exact W
  unfold q_gval tw_MO_gather_r45 tw_MO_gather_r138
  have wk8 : q_wk w.2.1 = 1 ∨ q_wk w.2.1 = 2 ∨ (q_wk w.2.1 = 3 ∨ q_wk w.2.1 = 4 ∨ q_wk w.2.1 = 5 ∨ q_wk w.2.1 = 6) ∨ q_wk w.2.1 = 7 ∨ q_wk w.2.1 = 8 := by omega
  rcases wk8 with k | k | k | k | k
  · rw [k, if_pos (show iN 1 = 1 from rfl), if_pos (show iN 1 = 1 from rfl), if_neg (show ¬ 1 = 2 by decide), if_pos (show 1 = 1 from rfl)]
    have h54 := fun (C : Int64 → Int32 → Int32 → Int32 → Int32 → Bool → Int32 → Int64 → Int64 → Bool → (Nat → Int32) → (Nat → Int32) → (Nat → Int32) → q_O12) => r_54 (fu := fu) (g := g) (dcs := dcs) (frm := frm) (grp := grp) (st := r.2.2) (ikd := ikd) (iat := iat) (x1 := iN ey) (top := iN r.1) (bgn := iN G) (mst := iN 2001) (its := its) (x6 := true) (ovr := r.2.1) (dfl := r.2.1) (hgh := hgh) (loo := loo) (C := C) (F := F) (K := K) F1 hb.1 hg hgn hgrp F.length 0 fu 0 (by omega) (by omega)
    obtain ⟨s, r', b1, b2, st1, b3, b4⟩ := w8 (Int64.ofNat (q_gm K F.length g).length) r.2.2 (fun _ _ => rfl)
    rw [q_gr0] at h54
    have h54' := fun C => h54 C
    rw [show (0 : Int64) = Int64.ofNat 0 from rfl, show (0 : Int32) = iN 0 from rfl, h54', Nat.zero_add]
    try dsimp only
    rw [b1, q_o3e, b2, q_o3e]
    refine ⟨_, _, _, _, _, _, r', st1, rfl, b3, ?_⟩
    have e : (q_gv w F (q_gm K F.length g)).length = (q_gm K F.length g).length := by
      unfold q_gv
      rw [List.length_map]
    rw [e]
    exact b4
  · rw [k, if_neg (show ¬ iN 2 = 1 by decide), if_pos (show iN 2 = 2 from rfl), if_neg (show ¬ iN 2 = 1 by decide), if_pos (show 2 = 2 from rfl), if_neg (show ¬ 2 = 1 by decide), if_pos (show 2 = 2 from rfl)]
    obtain ⟨h', l', st', u1, u2, u3⟩ := r_sum (fu := fu) (dfl := r.2.1) (ovr := r.2.1) (top := iN r.1) (bgn := iN G) (mst := iN 2001) (p2 := iN G) (hgh := hgh) (loo := loo) (by omega) wm.1 wm.2 (by omega) (by omega) (by omega) xf hg hgn hgrp sw' (q_rbf hb (fun j u v => fr j (by omega)))
    obtain ⟨s, r', b1, b2, st1, b3, b4⟩ := w8 (Int64.ofInt (q_sm1 (q_gv w F (q_gm K F.length g)))) st' (fun j hj => u3 j (by omega))
    rw [u1, obs8]
    try dsimp only
    rw [show (2001 : Int32) = iN 2001 from rfl, b1, q_o3e, u2, b2, q_o3e]
    exact ⟨_, _, _, _, _, _, r', st1, rfl, b3, b4⟩
  · have k1 : q_wk w.2.1 ≠ 1 := by omega
    have k2 : q_wk w.2.1 ≠ 2 := by omega
    have k7 : q_wk w.2.1 ≠ 7 := by omega
    have k8 : q_wk w.2.1 ≠ 8 := by omega
    obtain ⟨r', st1, u1, u2, u3⟩ := r_pick (fu := fu) (wk := q_wk w.2.1) (y := y) hf wm.1 wm.2 (by omega) (by omega) (by omega) (by omega) xf hg hgn hgrp k hne hG hG2 hyn (by omega) hyl hyg sw hy hb ht hr
    rw [if_neg (by simp (disch := omega) only [i_1, iN_a, iN_c, iN_le, iN_lt, iN_eq, iN_i]; omega), if_neg (by simp (disch := omega) only [i_2, iN_a, iN_c, iN_le, iN_lt, iN_eq, iN_i]; omega), if_neg (by simp (disch := omega) only [i_7, iN_a, iN_c, iN_le, iN_lt, iN_eq, iN_i]; omega), u1, obs5, if_neg k2, if_neg k1, if_neg k2, if_neg k7, if_neg k8]
    exact ⟨_, _, _, _, _, _, r', st1, rfl, u2, u3⟩
  · obtain ⟨a1, a2, a3, a4, r', st1, u1, u2, u3⟩ := r_row (fu := fu) (u := false) (dfl := r.2.1) (its := its) (ikd := ikd) (iat := iat) (y := y) hf wm.1 wm.2 (by omega) (by omega) (by omega) (by omega) xf hg hgn hgrp hG hG2 hyn (by omega) hyl hyg sw hy hb ht hr
    rw [k, if_neg (show ¬ iN 7 = 1 by decide), if_neg (show ¬ iN 7 = 2 by decide), if_pos (show (7 : Int32) ≤ iN 7 by decide), if_neg (show ¬ iN 7 = 8 by decide), show tw_MO_rowOf fu dcs frm grp (iN r.1) (iN G) (iN 2001) r.2.1 its r.2.1 r.2.2 ikd iat (iN ey) (iN (ey + y.2.1.length + 2 + 4)) (iN g) 0 (iN G) = _ from u1, obs9, if_neg (show ¬ 7 = 2 by decide)]
    exact ⟨_, _, _, _, _, _, r', st1, rfl, u2, u3⟩
  · obtain ⟨a1, a2, a3, a4, r', st1, u1, u2, u3⟩ := r_row (fu := fu) (u := true) (dfl := r.2.1) (its := its) (ikd := ikd) (iat := iat) (y := y) hf wm.1 wm.2 (by omega) (by omega) (by omega) (by omega) xf hg hgn hgrp hG hG2 hyn (by omega) hyl hyg sw hy hb ht hr
    rw [k, if_neg (show ¬ iN 8 = 1 by decide), if_neg (show ¬ iN 8 = 2 by decide), if_pos (show (7 : Int32) ≤ iN 8 by decide), if_pos (show iN 8 = 8 from rfl), show tw_MO_rowOf fu dcs frm grp (iN r.1) (iN G) (iN 2001) r.2.1 its r.2.1 r.2.2 ikd iat (iN ey) (iN (ey + y.2.1.length + 2 + 4)) (iN g) 1 (iN G) = _ from u1, obs9, if_neg (show ¬ 8 = 2 by decide)]
    exact ⟨_, _, _, _, _, _, r', st1, rfl, u2, u3⟩
