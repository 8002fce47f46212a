/-! the pure part: the reference's pick as a whole -/
/-- the documents of a group from document i on -/
def q_gr (K : Nat → q_V) (n g i : Nat) : List Nat := ((List.range n).drop i).filter (fun j => decide (q_gn K j = g))
theorem q_gr0 (K : Nat → q_V) (n g : Nat) : q_gr K n g 0 = q_gm K n g := by
  unfold q_gr
  rw [List.drop_zero]
  rfl
theorem q_gre (K : Nat → q_V) (n g : Nat) : q_gr K n g n = [] := by
  unfold q_gr
  rw [List.drop_eq_nil_of_le (by rw [List.length_range]; exact Nat.le_refl _)]
  rfl
theorem q_grs (K : Nat → q_V) {n g i : Nat} (h : i < n) : q_gr K n g i = if q_gn K i = g then i :: q_gr K n g (i + 1) else q_gr K n g (i + 1) := by
  unfold q_gr
  rw [List.drop_eq_getElem_cons (by rw [List.length_range]; exact h), List.getElem_range]
  by_cases c : q_gn K i = g
  · rw [if_pos c, List.filter_cons_of_pos (by exact decide_eq_true c)]
  · rw [if_neg c, List.filter_cons_of_neg (by rw [decide_eq_false c]; decide)]
theorem r_pk_h {fu e d g wk : Nat} {dfl : Bool} {dcs tot frm siz grp : Nat → Int32} {p0 p4 x6 : Int32} {C : Int32 → Int32 → Bool → Int32 → Int32 → Int32 → Int32 → Bool → (Nat → Int32) → q_O5b} {F : List (List UInt8)} {K : Nat → q_V} {w : q_P} (hf : 5000 ≤ fu) (hm : (0 : UInt8) ∉ w.2.1) (ho : q_ok d w.1 w.2.2) (hd16 : d ≤ 16) (he : e + (q_e1 w).length ≤ 136400) (hl : (q_e1 w).length ≤ 2000) (hge : 134400 ≤ e) (hx : q_xf w.1 w.2.2 = 0) (hg : g < 1000) (hgn : ∀ j, j < F.length → q_gn K j < 1000) (hgrp : ∀ j, j < F.length → grp j = iN (q_gn K j)) (hwk : wk = 3 ∨ wk = 4 ∨ wk = 5 ∨ wk = 6) :
    ∀ (m i n : Nat) (x7 x8 : Int32) (f : Bool) (top bgn mst : Int32) (ovr : Bool) (st : Nat → Int32) (o : Option q_V), i + m = F.length → m < n → sm st e (q_e1 w) → q_rb st 0 dcs tot frm siz F → q_pst st x7 x8 o →
    ∃ x7' x8' f' tp bg ms ov st', tw_MO_pick_h18 fu dfl dcs frm grp C p0 (iN e) (iN g) (iN wk) p4 x6 n x7 x8 f (iN i) top bgn mst ovr st = C x7' x8' f' (iN F.length) tp bg ms ov st' ∧ q_pst st' x7' x8' (q_pfw wk o f (q_gv w F (q_gr K F.length g i))) ∧ (∀ j, j < 124000 ∨ 132300 ≤ j → st' j = st j) := by
  intro m
  induction m with
  | zero =>
    intro i n x7 x8 f top bgn mst ovr st o hi hn hs hb hp
    obtain ⟨n, rfl⟩ : ∃ m, n = m + 1 := ⟨n - 1, by omega⟩
    have : i = F.length := by omega
    subst this
    unfold tw_MO_pick_h18
    rw [show dcs (0 : Int32).toNatClampNeg = iN F.length from hb.1, if_pos (Int32.le_refl _), q_gre]
    exact ⟨_, _, _, _, _, _, _, _, rfl, hp, fun _ _ => rfl⟩
  | succ m ih =>
    intro i n x7 x8 f top bgn mst ovr st o hi hn hs hb hp
    obtain ⟨n, rfl⟩ : ∃ m, n = m + 1 := ⟨n - 1, by omega⟩
    have il : i < F.length := by omega
    have F1 := hb.2.2.2.2.1
    have F2 := hb.2.2.2.2.2.1
    have H := fun (C' : Int32 → Int32 → Bool → Int32 → Int32 → Int32 → Bool → (Nat → Int32) → q_O5b) => r_29 (fu := fu) (e := e) (g := g) (i := i) (wk := wk) (dfl := dfl) (f := f) (dcs := dcs) (tot := tot) (frm := frm) (siz := siz) (grp := grp) (st := st) (top := top) (bgn := bgn) (mst := mst) (x1 := p0) (x5 := p4) (x6 := x6) (x7 := x7) (x8 := x8) (ovr := ovr) (C := C') hf hm ho hd16 he hl hge hx hg (hgn i il) (hgrp i il) hwk il hs hb hp
    unfold tw_MO_pick_h18
    rw [show dcs (0 : Int32).toNatClampNeg = iN F.length from hb.1, if_neg (by simp (disch := omega) only [iN_a, iN_c, iN_le, iN_lt, iN_eq, iN_i]; omega)]
    obtain ⟨y7, y8, y9, tp, bg, ms, ov, st1, u1, u2, u3, u4⟩ := H _
    rw [u1]
    try dsimp only
    rw [show iN i + 1 = iN (i + 1) from iN_a i 1]
    obtain ⟨a1, a2, a3, a4, a5, a6, a7, a8, w1, w2, w3⟩ := ih (i + 1) n y7 y8 y9 tp bg ms ov st1 _ (by omega) (by omega) (sm_fr hs (fun j u v => u4 j (by omega))) (q_rbf hb (fun j u v => u4 j (by omega))) u2
    refine ⟨a1, a2, a3, a4, a5, a6, a7, a8, w1, ?_, fun j hj => (w3 j hj).trans (u4 j hj)⟩
    rw [q_grs K il]
    by_cases c : q_gn K i = g
    · rw [if_pos c] at w2 u3 ⊢
      rw [u3] at w2
      exact w2
    · rw [if_neg c] at w2 u3 ⊢
      rw [u3] at w2
      exact w2
theorem q_Wn {g m t : Nat} {o : Bool} {st0 st' : Nat → Int32} {w : List UInt8} {r : q_R} (hL : g + m ≤ 124000) (h : q_W g m t o st0 w r) (hb : ∀ j, j < 124000 ∨ 132300 ≤ j → st' j = r.2.2 j) : ∃ st1, (∀ j, j < 124000 ∨ 132300 ≤ j → st1 j = st0 j) ∧ q_W g m t o st1 w (r.1, r.2.1, st') := by
  obtain ⟨h1, h2, h3, h4, h5⟩ := h
  refine ⟨fun j => if j < 124000 ∨ 132300 ≤ j then st0 j else st' j, fun j hj => if_pos hj, ?_, h2, h3, ?_, h5⟩
  · intro j hj
    show st' j = if j < 124000 ∨ 132300 ≤ j then st0 j else st' j
    by_cases c : j < 124000 ∨ 132300 ≤ j
    · rw [if_pos c, hb j c, h1 j hj]
    · rw [if_neg c]
  · intro q
    obtain ⟨a1, a2, a3⟩ := h4 q
    exact ⟨a1, a2, sm_fr a3 (fun j u v => hb j (by omega))⟩
theorem r_pick {fu e ey d g wk G t : Nat} {o : Bool} {dcs tot frm siz grp st0 : Nat → Int32} {F : List (List UInt8)} {K : Nat → q_V} {w y : q_P} {pre : List UInt8} {r : q_R} (hf : 5000 ≤ fu) (hm : (0 : UInt8) ∉ w.2.1) (ho : q_ok d w.1 w.2.2) (hd16 : d ≤ 16) (he : e + (q_e1 w).length ≤ 136400) (hl : (q_e1 w).length ≤ 2000) (hge : 134400 ≤ e) (hx : q_xf w.1 w.2.2 = 0) (hg : g < 1000) (hgn : ∀ j, j < F.length → q_gn K j < 1000) (hgrp : ∀ j, j < F.length → grp j = iN (q_gn K j)) (hwk : wk = 3 ∨ wk = 4 ∨ wk = 5 ∨ wk = 6) (hne : q_gm K F.length g ≠ [])
    (hG : 80000 ≤ G) (hG2 : G ≤ 120000) (hyn : (0 : UInt8) ∉ y.2.1) (hye : ey + (q_e1 y).length ≤ 136400) (hyl : (q_e1 y).length ≤ 2000) (hyg : 134400 ≤ ey) (hs : sm st0 e (q_e1 w)) (hy : sm st0 ey (q_e1 y)) (hb : q_rb st0 0 dcs tot frm siz F) (ht : G ≤ t) (hr : q_W G 2001 t o st0 pre r) :
    ∃ r' st1, tw_MO_pick fu r.2.1 dcs frm grp (iN r.1) (iN G) (iN 2001) r.2.1 r.2.2 (iN ey) (iN e) (iN g) (iN wk) (iN G) = some (iN r'.1, iN G, iN 2001, r'.2.1, r'.2.2) ∧ (∀ j, j < 124000 ∨ 132300 ≤ j → st1 j = st0 j) ∧ q_W G 2001 t o st1 (pre ++ q_e1 ((q_pk wk (q_gv w F (q_gm K F.length g))).1, y.2.1, (q_pk wk (q_gv w F (q_gm K F.length g))).2)) r' := by
  have F2 := hb.2.2.2.2.2.1
  have F1 := hb.2.2.2.2.1
  have ey1 := q_e1l y
  have r2 := hr.2.1
  have r3 := hr.2.2.1
  have fr : ∀ j, j < t ∨ G + 2001 ≤ j → r.2.2 j = st0 j := hr.1
  have H := fun (C : Int32 → Int32 → Bool → Int32 → Int32 → Int32 → Int32 → Bool → (Nat → Int32) → q_O5b) => r_pk_h (fu := fu) (e := e) (g := g) (wk := wk) (dfl := r.2.1) (dcs := dcs) (tot := tot) (frm := frm) (siz := siz) (grp := grp) (p0 := iN ey) (p4 := iN G) (x6 := iN r.1) (C := C) (F := F) (K := K) hf hm ho hd16 he hl hge hx hg hgn hgrp hwk F.length 0 fu 0 0 false (iN r.1) (iN G) (iN 2001) r.2.1 r.2.2 none (by omega) (by omega) (sm_fr hs (fun j u v => fr j (by omega))) (q_rbf hb (fun j u v => fr j (by omega))) rfl
  unfold tw_MO_pick
  obtain ⟨x7, x8, f', tp, bg, ms, ov, st', u1, u2, u3⟩ := H _
  rw [show iN 0 = (0 : Int32) from rfl] at u1
  rw [u1]
  try dsimp only
  rw [q_gr0] at u2
  unfold tw_MO_resume
  rw [obs4, ← q_pfk hwk (by unfold q_gv; exact fun q => hne (List.map_eq_nil_iff.1 q))]
  obtain ⟨st1, m1, m2⟩ := q_Wn (st' := st') (by omega) hr u3
  have hy1 : sm st' ey (q_e1 y) := sm_fr hy (fun j u v => (u3 j (by omega)).trans (fr j (by omega)))
  unfold tw_MO_pick_r249
  rw [show (2001 : Int32) = iN 2001 from rfl]
  cases hz : q_pfw wk none false (q_gv w F (q_gm K F.length g)) with
  | none =>
    rw [hz] at u2
    have u2 : x7 = 0 := u2
    obtain ⟨s, s1, s2⟩ := r_hd2 (fu := fu) (g := G) (m := 2001) (t := r.1) (e := ey) (o := r.2.1) (st := st') (k := 10) (x := y) (by omega) (by omega) r3 hy1 hyn (by omega) (by omega) (by omega)
    rw [show (10 : Int32) = iN (10 : UInt8).toNat from rfl]
    rw [if_pos u2, s1, q_o3e, if_pos u2]
    refine ⟨s, st1, rfl, m1, ?_⟩
    have W := q_Wa m2 s2
    rw [show (10 : UInt8) :: (y.2.1 ++ [0]) = q_e1 (10, y.2.1, []) by unfold q_e1; simp] at W
    exact W
  | some z =>
    rw [hz] at u2
    obtain ⟨p1, p2, p3, p4, p5⟩ := u2
    have kz := q_okn p4
    have nx : ¬ x7 = 0 := by
      rw [p1]
      simp (disch := omega) only [i_0, iN_a, iN_c, iN_le, iN_lt, iN_eq, iN_i]
      omega
    obtain ⟨s, s1, s2⟩ := r_hd2 (fu := fu) (g := G) (m := 2001) (t := r.1) (e := ey) (o := r.2.1) (st := st') (k := z.1) (x := y) (by omega) (by omega) r3 hy1 hyn (by omega) (by omega) (by omega)
    have s3 := s2.2.1
    obtain ⟨c, c1, c2⟩ := r_cp (fu := fu) (g := G) (m := 2001) (a := 128200) (t := s.1) (o := s.2.1) (st := s.2.2) (l := z.2) (by omega) (sm_fr p3 (fun j u v => s2.1 j (by omega))) (by omega) (by omega) (by omega) s2.2.2.1 (by omega)
    rw [if_neg nx, p1, s1, q_o3e]
    rw [p1] at nx
    rw [if_neg nx, p2, show (128200 : Int32) = iN 128200 from rfl, c1, q_o3e]
    refine ⟨c, st1, rfl, m1, ?_⟩
    have W := q_Wa (q_Wa m2 s2) c2
    rw [show pre ++ (z.1 :: (y.2.1 ++ [0])) ++ z.2 = pre ++ q_e1 (z.1, y.2.1, z.2) by unfold q_e1; simp] at W
    exact W
