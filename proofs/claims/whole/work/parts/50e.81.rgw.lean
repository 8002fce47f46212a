/-! the pure part: the reference's $group -/
theorem q_hls (K : Nat → q_V) (F : List (List UInt8)) (ps : List q_P) : (List.range (q_gf K F.length).length).all (fun g => ps.all (fun y => if q_wk (q_told y).2.1 = 2 then q_gsh K F y g else true)) = q_hld K F ps := by
  rw [Bool.eq_iff_iff]
  unfold q_hld
  rw [List.all_eq_true, List.all_eq_true]
  constructor
  · intro h y hy
    by_cases c : q_wk (q_told y).2.1 = 2
    · rw [decide_eq_false (fun z => z c), Bool.false_or, List.all_eq_true]
      intro g hg
      have := List.all_eq_true.1 (h g hg) y hy
      rwa [if_pos c] at this
    · rw [decide_eq_true c, Bool.true_or]
  · intro h g hg
    rw [List.all_eq_true]
    intro y hy
    have := h y hy
    by_cases c : q_wk (q_told y).2.1 = 2
    · rw [decide_eq_false (fun z => z c), Bool.false_or, List.all_eq_true] at this
      rw [if_pos c]
      exact this g hg
    · rw [if_neg c]
theorem r_gr {fu d P : Nat} {dcs tot frm siz st ffr fsz odr grp ikd iat : Nat → Int32} {frs frt top bgn mst its : Int32} {ovr tgr dfl : Bool} {hgh loo : Int64} {F : List (List UInt8)} {x0 : q_P} {ps : List q_P} (hf : 5000 ≤ fu) (hd16 : d ≤ 16) (ho : q_op d (x0 :: ps)) (hnk : q_nk 3 (x0 :: ps)) (hP : 134400 ≤ P) (hP2 : P + (q_bx (x0 :: ps)).length ≤ 136400) (hl : (q_bx (x0 :: ps)).length ≤ 2000) (hxf : q_xf x0.1 x0.2.2 = 0) (hgf : q_gff ps = 0) (hs : sm st P (q_bx (x0 :: ps))) (hb : q_rb st 0 dcs tot frm siz F) :
    ∃ fs ft tp bg ms ov tg its' hgh' loo' dfl' st' ff fz odr' grp' ikd' iat', tw_MO_group fu dcs frm frs frt top bgn mst ovr tgr its hgh loo dfl st ffr fsz odr grp ikd iat (iN P) = some (if q_hld (q_gk x0 F) F ps = true then 0 else 4, fs, ft, tp, bg, ms, ov, tg, its', hgh', loo', dfl', st', ff, fz, odr', grp', ikd', iat') ∧ q_fr st' fs ft tp tg ff fz (q_run (some []) (q_gds x0 ps F)) ∧ (∀ j, j < 80000 ∨ 132300 ≤ j → st' j = st j) := by
  have bl := q_bxl (x0 :: ps)
  have l1 := q_e1l x0
  have l2 := q_enl x0 ps
  have F1 := hb.2.2.2.2.1
  have F2 := hb.2.2.2.2.2.1
  have hen : sm st (P + 4) (q_en (x0 :: ps) ++ [0]) := (sm_ap.1 hs).2
  obtain ⟨hxn, hxo⟩ := ho x0 List.mem_cons_self
  unfold tw_MO_group
  rw [r_fo hs ho (by omega), obs1, q_ptc]
  have H := fun (C : Int32 → Int32 → q_G18) => r_11 (fu := fu) (e := P + 4) (dcs := dcs) (tot := tot) (frm := frm) (siz := siz) (ffr := ffr) (fsz := fsz) (ikd := ikd) (iat := iat) (frs := frs) (frt := frt) (its := its) (tgr := tgr) (dfl := dfl) (hgh := hgh) (loo := loo) (K := C) (F := F) (x0 := x0) (by omega) hxn hxo hd16 (by omega) (by omega) (by omega) hxf F.length 0 fu top bgn mst ovr st odr grp (by omega) (by omega) (sm_en hen).1 hb (q_ar0 _ _) (fun j q => absurd q (by omega))
  obtain ⟨tp, bg, ms, ov, st1, odr1, grp1, u1, u2, u3, u4⟩ := H _
  have z0 : (q_gf (q_gk x0 F) 0).length = 0 := rfl
  rw [z0, show iN 0 = (0 : Int32) from rfl] at u1
  rw [u1]
  try dsimp only
  obtain ⟨b1, b2⟩ := r_ba (fu := fu) (st := st1) (ffr := ffr) (fsz := fsz) (frs := frs) (frt := frt) (top := tp) (tgr := tgr)
  rw [b1, obs4]
  have H2 := fun (C : Bool → Int32 → q_G18) => r_132 (fu := fu) (P := P) (dcs := dcs) (tot := tot) (frm := frm) (siz := siz) (odr := odr1) (grp := grp1) (C := C) (F := F) (x0 := x0) (ps := ps) hf hd16 ho hnk hP hP2 hl hxf hgf u2 u3 F1 (q_gf (q_gk x0 F) F.length).length 0 fu true 0 0 80000 bg ms ov false its hgh loo dfl st1 ffr fsz ikd iat (some []) (by omega) (by have := q_gfl (q_gk x0 F) F.length; omega) (sm_fr hs (fun j u v => u4 j (by omega))) (q_rbf hb (fun j u v => u4 j (by omega))) b2
  obtain ⟨c1, c2, c3, c4, c5, c6, c7, c8, c9, c10, c11, c12, c13, c14, c15, c16, c17, w1, w2, w3⟩ := H2 _
  rw [show iN 0 = (0 : Int32) from rfl] at w1
  rw [w1]
  try dsimp only
  rw [List.drop_zero] at w2 ⊢
  rw [Bool.true_and, q_hls]
  have fr : ∀ j, j < 80000 ∨ 132300 ≤ j → c13 j = st j := fun j hj => (w3 j hj).trans (u4 j (by omega))
  cases hh : q_hld (q_gk x0 F) F ps with
  | false =>
    rw [if_pos (show b2i false = 0 from rfl), if_neg (show ¬ false = true by decide)]
    exact ⟨_, _, _, _, _, _, _, _, _, _, _, c13, _, _, _, _, _, _, rfl, w2, fr⟩
  | true =>
    rw [if_neg (show ¬ b2i true = 0 by decide), if_pos (show true = true from rfl)]
    exact ⟨_, _, _, _, _, _, _, _, _, _, _, c13, _, _, _, _, _, _, rfl, w2, fr⟩
