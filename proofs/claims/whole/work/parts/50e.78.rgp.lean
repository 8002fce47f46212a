/-! the pure part: the reference gathers a part of a group -/
theorem q_by8 (x : Int64) : (x &&& 255).toInt32 = iN (q_by x.toInt32).toNat := by
  apply q_bvi
  rw [q_bv]
  have l : (x &&& 255).toInt32.toBitVec.toNat = x.toBitVec.toNat % 256 := by
    show ((x.toBitVec &&& (255 : Int64).toBitVec).signExtend 32).toNat = _
    rw [BitVec.signExtend_eq_setWidth_of_le _ (by omega), BitVec.toNat_setWidth, BitVec.toNat_and]
    show (x.toBitVec.toNat &&& (2 ^ 8 - 1)) % 4294967296 = _
    rw [Nat.and_two_pow_sub_one_eq_mod]
    omega
  have r : (q_by x.toInt32).toNat = x.toBitVec.toNat % 256 := by
    show ((x.toBitVec.signExtend 32).signExtend 8).toNat = _
    rw [BitVec.signExtend_eq_setWidth_of_le _ (by omega), BitVec.signExtend_eq_setWidth_of_le _ (by omega), BitVec.toNat_setWidth, BitVec.toNat_setWidth]
    omega
  rw [l, r]
  omega
theorem q_l8g (v : Int64) (i : Nat) (h : i < (q_l8 v).length) : (q_l8 v)[i] = q_by ((v >>> ((iN (8 * i)).toInt64 &&& 63)).toInt32) := by
  have e : (q_l8 v)[i]? = some (q_by ((v >>> ((iN (8 * i)).toInt64 &&& 63)).toInt32)) := by
    have h8 := h
    rw [q_l8l] at h8
    unfold q_l8
    rw [List.getElem?_map, List.getElem?_range h8]
    rfl
  exact (List.getElem?_eq_some_iff.1 e).2
theorem r_w8 {fu g m t : Nat} {o : Bool} {st : Nat → Int32} {v : Int64} (hg : g + m ≤ 136400) (ht : g ≤ t) (ht2 : t ≤ g + m) (hf : 10 ≤ fu) : ∃ r, tw_MO_putLow fu (iN g) (iN m) (iN t) o st v 8 = q_e3 r ∧ q_W g m t o st (q_l8 v) r := by
  refine r_pl (n0 := 8) hg (fun i hi => ?_) (q_l8l v) (by omega) ht ht2 (by omega)
  rw [q_by8, show (8 : Int32) * iN i = iN (8 * i) from iN_m 8 i]
  rw [q_l8g v i hi]
theorem r_row {fu e ey d g G t : Nat} {o u dfl : Bool} {its : Int32} {dcs tot frm siz grp st0 ikd iat : Nat → Int32} {F : List (List UInt8)} {K : Nat → q_V} {w y : q_P} {pre : List UInt8} {r : q_R} (hf : 5000 ≤ fu) (hm : (0 : UInt8) ∉ w.2.1) (ho : q_ok d w.1 w.2.2) (hd16 : d ≤ 16) (he : e + (q_e1 w).length ≤ 136400) (hl : (q_e1 w).length ≤ 2000) (hge : 134400 ≤ e) (hx : q_xf w.1 w.2.2 = 0) (hg : g < 1000) (hgn : ∀ j, j < F.length → q_gn K j < 1000) (hgrp : ∀ j, j < F.length → grp j = iN (q_gn K j))
    (hG : 80000 ≤ G) (hG2 : G ≤ 120000) (hyn : (0 : UInt8) ∉ y.2.1) (hye : ey + (q_e1 y).length ≤ 136400) (hyl : (q_e1 y).length ≤ 2000) (hyg : 134400 ≤ ey) (hs : sm st0 e (q_e1 w)) (hy : sm st0 ey (q_e1 y)) (hb : q_rb st0 0 dcs tot frm siz F) (ht : G ≤ t) (hr : q_W G 2001 t o st0 pre r) :
    ∃ its' dfl' ikd' iat' r' st1, tw_MO_rowOf fu dcs frm grp (iN r.1) (iN G) (iN 2001) r.2.1 its dfl r.2.2 ikd iat (iN ey) (iN e) (iN g) (b2i u) (iN G) = some (iN r'.1, iN G, iN 2001, r'.2.1, its', dfl', r'.2.2, ikd', iat') ∧ (∀ j, j < 124000 ∨ 132300 ≤ j → st1 j = st0 j) ∧ q_W G 2001 t o st1 (pre ++ q_e1 (4, y.2.1, q_bx (q_rn 0 (q_kpt u [] (q_pv (q_gv w F (q_gm K F.length g))))))) r' := by
  have F2 := hb.2.2.2.2.2.1
  have F1 := hb.2.2.2.2.1
  have ey1 := q_e1l y
  have r2 := hr.2.1
  have r3 := hr.2.2.1
  have fr : ∀ j, j < t ∨ G + 2001 ≤ j → r.2.2 j = st0 j := hr.1
  obtain ⟨s, s1, s2⟩ := r_hd2 (fu := fu) (g := G) (m := 2001) (t := r.1) (e := ey) (o := r.2.1) (st := r.2.2) (k := 4) (x := y) (by omega) (by omega) r3 (sm_fr hy (fun j u v => fr j (by omega))) hyn (by omega) (by omega) (by omega)
  have s3 := s2.2.1
  have s4 := s2.2.2.1
  have W0 := q_Wa hr s2
  have fs : ∀ j, j < t ∨ G + 2001 ≤ j → s.2.2 j = st0 j := W0.1
  obtain ⟨p, p1, p2⟩ := r_op (fu := fu) (g := G) (m := 2001) (t := s.1) (o := s.2.1) (st := s.2.2) (by omega) (by omega) s4 (by omega)
  have H := fun (C : Int32 → q_C9) => r_20 (fu := fu) (e := e) (g := g) (G := G) (t := s.1) (o := s.2.1) (u := u) (dcs := dcs) (tot := tot) (frm := frm) (siz := siz) (grp := grp) (x6 := iN p.1 - 4) (C := C) (F := F) (K := K) (w := w) hf hm ho hd16 he hl hge hx hg hgn hgrp hG hG2 (by omega) F.length 0 fu dfl ikd iat [] [] p s.2.2 (by omega) (by omega) (Nat.le_refl _) (Nat.le_refl _) (sm_fr hs (fun j u v => fs j (by omega))) (q_rbf hb (fun j u v => fs j (by omega))) p2 (fun j z q => by cases q) (fun _ => rfl)
  unfold tw_MO_rowOf
  rw [show (4 : Int32) = iN (4 : UInt8).toNat from rfl, s1, q_o3e, p1, obs4]
  obtain ⟨a1, a2, a3, a4, r4, st1, u1, u2, u3⟩ := H _
  rw [show iN 0 = (0 : Int32) from rfl, List.length_nil, show iN 0 = (0 : Int32) from rfl] at u1
  rw [q_gr0, List.nil_append] at u3
  obtain ⟨r5, v1, v2⟩ := r_cls (fu := fu) (a := iN p.1 - 4) (by omega) (by omega) u3 (by omega) (fun q => by
    have fit : s.2.1 = false ∧ s.1 + (([0, 0, 0, 0] : List UInt8) ++ q_en (q_rn 0 (q_kpt u [] (q_pv (q_gv w F (q_gm K F.length g)))))).length ≤ G + 2001 := by
      by_cases z : s.2.1 = false ∧ s.1 + (([0, 0, 0, 0] : List UInt8) ++ q_en (q_rn 0 (q_kpt u [] (q_pv (q_gv w F (q_gm K F.length g)))))).length ≤ G + 2001
      · exact z
      · have := u3.2.2.2.2 z
        rw [q] at this
        cases this
    rw [List.length_append] at fit
    have l4 : ([0, 0, 0, 0] : List UInt8).length = 4 := rfl
    have := (p2.2.2.2.1 ⟨fit.1, by omega⟩).1
    rw [this, show (4 : Int32) = iN 4 from rfl, iN_s (by omega)]
    exact congrArg iN (by omega))
  rw [u1]
  try dsimp only
  rw [v1, q_o3e]
  obtain ⟨st2, m1, m2⟩ := q_Wn (st' := st1) (by omega) W0 u2
  refine ⟨_, _, _, _, r5, st2, rfl, m1, ?_⟩
  have W := q_Wa m2 v2
  rw [show pre ++ ((4 : UInt8) :: (y.2.1 ++ [0])) ++ (q_l4 ((q_en (q_rn 0 (q_kpt u [] (q_pv (q_gv w F (q_gm K F.length g)))))).length + 5) ++ (q_en (q_rn 0 (q_kpt u [] (q_pv (q_gv w F (q_gm K F.length g))))) ++ [0])) = pre ++ q_e1 (4, y.2.1, q_bx (q_rn 0 (q_kpt u [] (q_pv (q_gv w F (q_gm K F.length g)))))) by unfold q_e1 q_bx; simp] at W
  exact W
