/-! the pure part: the class's $project, all documents -/
def q_pjD (ps : List q_P) (doc : List UInt8) : List UInt8 := q_bx (ps.filterMap (q_pe1 (q_ps doc) doc))
theorem q_pjn {ds : List q_P} {doc : List UInt8} (ps : List q_P) : ((ps.filterMap (q_pe1 ds doc)).map (fun x => x.2.1)).Sublist (ps.map (fun x => x.2.1)) := by
  induction ps with
  | nil => exact List.Sublist.refl _
  | cons x ps ih =>
    rw [q_fmc, List.map_cons]
    cases hz : q_pe1 ds doc x with
    | none => exact List.Sublist.cons _ ih
    | some y =>
      have e : y.2.1 = x.2.1 := by
        unfold q_pe1 at hz
        cases hq : q_p1 ds doc x with
        | none =>
          rw [hq] at hz
          cases hz
        | some z =>
          rw [hq] at hz
          cases hz
          rfl
      show ((y :: ps.filterMap (q_pe1 ds doc)).map (fun x => x.2.1)).Sublist _
      rw [List.map_cons, e]
      exact List.Sublist.cons_cons _ ih
theorem q_pjo {d d2 : Nat} {ps ds : List q_P} (ho : q_op d ps) (hn : q_nk 3 ps) (hl : (q_en ps).length ≤ 2000) (hd : q_op d2 ds) (hdd : q_ok (d2 + 1) 3 (q_bx ds)) (hv : (q_bx ds).length ≤ 2000) : q_ok (max d (d2 + 1) + 1) 3 (q_pjD ps (q_bx ds)) := by
  unfold q_pjD
  rw [q_psb hd (by omega)]
  refine q_okb (Or.inl rfl) ?_ ⟨fun _ => (q_pjn ps).nodup (hn.1 rfl), fun q => absurd q (by decide)⟩
  intro y hy
  obtain ⟨x, hx, hz⟩ := List.mem_filterMap.1 hy
  have := q_enm hx
  unfold q_pe1 at hz
  cases hq : q_p1 ds (q_bx ds) x with
  | none =>
    rw [hq] at hz
    cases hz
  | some z =>
    rw [hq] at hz
    cases hz
    exact ⟨(ho x hx).1, (q_p1o (ho x hx).2 (by omega) hd hdd hv hq).1⟩
theorem c_wpj {b : Nat → UInt8} {nb p P d d2 : Nat} {ncnt place limit : Int32} {full : Bool} {nsts : Nat → Int32} {N : List (List UInt8)} {ps ds : List q_P} {pcnt pown vplace vlimit : Int32} {pfix vfull : Bool} {pst pen pix : Nat → Int32} (h : q_be b nb ncnt nsts N) (hs : sb b p (q_bx ps)) (hp : p + (q_bx ps).length ≤ 2000) (ho : q_op d ps) (hx : ∀ x ∈ ps, q_xf x.1 x.2.2 = 0) (hok : q_ok (d + 1) 3 (q_bx ps))
    (hd : q_op d2 ds) (hdd : q_ok (d2 + 1) 3 (q_bx ds)) (hd2 : d2 < 20) (hD : sb b P (q_bx ds)) (hP : 2000 ≤ P) (hP2 : P + (q_bx ds).length ≤ 122000) (hv : (q_bx ds).length ≤ 2000) (hPd : P + (q_bx ds).length ≤ nb ∨ nb + 40000 ≤ P) :
    ∃ r' b1 pc pf po vp vl vf ps' pe px, tw_SH_writeProjected (iN nb) ncnt nsts place limit full b pcnt pfix pown vplace vlimit vfull pst pen pix (iN (32 * p + 3)) (iN (32 * P + 3)) = (iN r'.1, iN (q_nL nb N), r'.2.1, r'.2.2, pc, pf, po, vp, vl, vf, ps', pe, px) ∧ (∀ j, j < 162000 → b1 j = b j) ∧ q_C (q_nL nb N) (nb + N.flatten.length) false b1 (q_pjD ps (q_bx ds)) r' := by
  obtain ⟨n1, n2, n3, n4⟩ := c_next (place := place) (limit := limit) (full := full) h
  have nb2 := h.2.2.2.2.2
  have bl := q_bxl ps
  have pl := q_psl ps
  obtain ⟨r, r1, r2⟩ := c_op (L := q_nL nb N) (t := nb + N.flatten.length) (o := false) (b := b) n2 (by omega)
  have lo : ∀ j, j < nb + N.flatten.length → r.2.2 j = b j := fun j hj => r2.1 j (Or.inl hj)
  have eo : tw_ST_endOf r.2.2 (iN (32 * p + 3)) = iN (p + (q_bx ps).length) := q_eo (k := 3) hok (sb_fr hs (fun j u v => lo j (by omega))) (by omega)
  unfold tw_SH_writeProjected
  rw [n1, q_tp3]
  dsimp only
  rw [r1, q_tp5]
  dsimp only
  rw [eo, iN_s1 (by omega), show tw_ST_placeOf (iN (32 * p + 3)) = iN p from q_p (k := 3) (by omega) (by decide), show iN p + 4 = iN (p + 4) from iN_a p 4, show (0 : Int32) = iN 0 from rfl]
  obtain ⟨r', b1, pc, pf, po, vp, vl, vf, ps', pe, px, k1, k2, k3⟩ := c_wpj_h (nbase := iN nb) (ncnt := ncnt) (nsts := nsts) (L := q_nL nb N) (t := nb + N.flatten.length) (P := P) (E := p + (q_bx ps).length - 1) (ds := ds) n4 (by omega) n2 (by omega) hd hdd hd2 hP hP2 hv (by omega) ps (p + 4) (((1000 : Int32).toInt - (iN 0).toInt).toNat + 1) 0 b [] r pcnt pfix pown vplace vlimit vfull pst pen pix (sb_bx hs).2.1 ho hx (by omega) (by rw [show ((1000 : Int32).toInt - (iN 0).toInt).toNat + 1 = 1001 from rfl]; omega) (by omega) hD (by rw [List.append_nil]; exact r2)
  refine ⟨r', b1, pc, pf, po, vp, vl, vf, ps', pe, px, k1, k2, ?_⟩
  rw [List.nil_append] at k3
  unfold q_pjD
  rw [q_psb hd (by omega)]
  exact k3
theorem q_bsd {b : Nat → UInt8} {base i : Nat} {cnt : Int32} {sts : Nat → Int32} {F : List (List UInt8)} (h : q_be b base cnt sts F) (hi : i ≤ F.length) : tw_BS_document (iN base) cnt sts (iN i) = iN (32 * (base + q_pf F i) + 3) := by
  have := h.2.2.2.2.1
  have := h.2.2.2.1.2.1
  have := q_pfl F i
  unfold tw_BS_document
  rw [q_bes h hi]
  exact q_rff (k := 3) (by omega) (by omega)
theorem q_tp13 {T1 T2 T3 T4 T5 T6 T7 T8 T9 T10 T11 T12 T13 Z : Type} (x1 : T1) (x2 : T2) (x3 : T3) (x4 : T4) (x5 : T5) (x6 : T6) (x7 : T7) (x8 : T8) (x9 : T9) (x10 : T10) (x11 : T11) (x12 : T12) (x13 : T13) (f : T1 → T2 → T3 → T4 → T5 → T6 → T7 → T8 → T9 → T10 → T11 → T12 → T13 → Z) : tp13 (x1, x2, x3, x4, x5, x6, x7, x8, x9, x10, x11, x12, x13) f = f x1 x2 x3 x4 x5 x6 x7 x8 x9 x10 x11 x12 x13 := rfl
theorem c_pj_h {fb nb p d : Nat} {fcnt : Int32} {fsts : Nat → Int32} {F : List (List UInt8)} {ps : List q_P} (hd : fb + 40000 ≤ nb ∨ nb + 40000 ≤ fb) (hp : p + (q_bx ps).length ≤ 2000) (ho : q_op d ps) (hnk : q_nk 3 ps) (hd16 : d ≤ 16) (hx : ∀ x ∈ ps, q_xf x.1 x.2.2 = 0) :
    ∀ (m i n : Nat) (b : Nat → UInt8) (place limit : Int32) (full : Bool) (ncnt : Int32) (nsts : Nat → Int32) (N : List (List UInt8)) (pcnt : Int32) (pfix : Bool) (pown vplace vlimit : Int32) (vfull : Bool) (pst pen pix : Nat → Int32), i + m = F.length → m < n → sb b p (q_bx ps) → q_be b fb fcnt fsts F → q_be b nb ncnt nsts N →
    ∃ pl l f b' c s pc pf po vp vl vf ps' pe px M, tw_SH_project_h8 (iN nb) (iN fb) fcnt fsts (iN (32 * p + 3)) n 0 (iN i) place limit full b ncnt nsts pcnt pfix pown vplace vlimit vfull pst pen pix = (q_05 (q_run (some N) ((F.drop i).map (q_pjD ps))), pl, l, f, b', c, s, pc, pf, po, vp, vl, vf, ps', pe, px) ∧ q_be b' nb c s M ∧ (∀ R, q_run (some N) ((F.drop i).map (q_pjD ps)) = some R → M = R) ∧ (∀ j, j < 162000 → j < nb ∨ nb + 40000 ≤ j → b' j = b j) := by
  intro m
  induction m with
  | zero =>
    intro i n b place limit full ncnt nsts N pcnt pfix pown vplace vlimit vfull pst pen pix hi hn hs hb h
    obtain ⟨n, rfl⟩ : ∃ m, n = m + 1 := ⟨n - 1, by omega⟩
    have : i = F.length := by omega
    subst this
    unfold tw_SH_project_h8
    rw [if_pos rfl, hb.1, if_pos (Int32.le_refl _), List.drop_length, List.map_nil, q_run0]
    exact ⟨_, _, _, _, _, _, _, _, _, _, _, _, _, _, _, N, rfl, h, (fun R q => by cases q; rfl), fun _ _ _ => rfl⟩
  | succ m ih =>
    intro i n b place limit full ncnt nsts N pcnt pfix pown vplace vlimit vfull pst pen pix hi hn hs hb h
    obtain ⟨n, rfl⟩ : ∃ m, n = m + 1 := ⟨n - 1, by omega⟩
    have il : i < F.length := by omega
    have F1 := hb.2.2.2.1.1
    have F2 := hb.2.2.2.1.2.1
    have F5 := hb.2.2.2.2.1
    have F6 := hb.2.2.2.2.2
    have N5 := h.2.2.2.2.1
    have N6 := h.2.2.2.2.2
    have bl := q_bxl ps
    have hk : F[i]? = some F[i] := List.getElem?_eq_getElem il
    obtain ⟨d1, d2, d3, d4⟩ := q_bed hb hk
    have bsd := q_bsd hb (show i ≤ F.length by omega)
    rw [List.drop_eq_getElem_cons il, List.map_cons, q_runc]
    generalize F[i] = D at *
    obtain ⟨e, ds, he, rfl, o1, o2⟩ := q_okd d2 (Or.inl rfl)
    obtain rfl : e = 15 := by omega
    obtain ⟨r', b1, pc, pf, po, vp, vl, vf, ps', pe, px, k1, k2, k3⟩ := c_wpj (place := place) (limit := limit) (full := full) (pcnt := pcnt) (pown := pown) (vplace := vplace) (vlimit := vlimit) (pfix := pfix) (vfull := vfull) (pst := pst) (pen := pen) (pix := pix) h hs hp ho hx (q_okb (Or.inl rfl) ho hnk) o1 d2 (by omega) d1 (by omega) (by omega) d3 (by omega)
    obtain ⟨n1, n2, n3, n4⟩ := c_next (place := place) (limit := limit) (full := full) h
    have h1 : q_be b1 nb ncnt nsts N := q_bef h (fun j u v => k2 j (by omega))
    have ok := q_pjo ho hnk (by omega) o1 d2 d3
    obtain ⟨c', s', a1, a2⟩ := c_acc (limit := iN (q_nL nb N)) h1 k3 ok (by omega)
    have fr : ∀ j, j < 162000 → j < nb ∨ nb + 40000 ≤ j → r'.2.2 j = b j := fun j hj hj2 => (k3.1 j (by omega)).trans (k2 j hj)
    unfold tw_SH_project_h8
    rw [if_pos rfl, if_neg (by rw [hb.1]; simp (disch := omega) only [iN_a, iN_c, iN_le, iN_lt, iN_eq, iN_i]; omega), bsd, k1, q_tp13, a1, q_tp3]
    dsimp only
    rw [show iN i + 1 = iN (i + 1) from iN_a i 1]
    cases hm : q_more (some N) (q_pjD ps (q_bx ds)) with
    | none =>
      rw [hm] at a2
      rw [q_runn, if_pos (show b2i (none : Option (List (List UInt8))).isSome = 0 from rfl)]
      obtain ⟨n, rfl⟩ : ∃ m, n = m + 1 := ⟨n - 1, by omega⟩
      unfold tw_SH_project_h8
      rw [if_neg (by decide)]
      exact ⟨_, _, _, _, _, _, _, _, _, _, _, _, _, _, _, N, rfl, a2, (fun R q => by cases q), fr⟩
    | some N' =>
      rw [hm] at a2
      rw [if_neg (show ¬ b2i (some N').isSome = 0 from (by decide : ¬ b2i true = 0))]
      obtain ⟨pl2, l2, f2, b2, c2, s2, pc2, pf2, po2, vp2, vl2, vf2, ps2, pe2, px2, M, e1, e2, e3, e4⟩ := ih (i + 1) n r'.2.2 (iN r'.1) (iN (q_nL nb N)) r'.2.1 c' s' N' pc pf po vp vl vf ps' pe px (by omega) (by omega) (sb_fr hs (fun j u v => fr j (by omega) (by omega))) (q_bef hb (fun j u v => fr j (by omega) (by omega))) a2
      exact ⟨pl2, l2, f2, b2, c2, s2, pc2, pf2, po2, vp2, vl2, vf2, ps2, pe2, px2, M, e1, e2, e3, fun j hj hj2 => (e4 j hj hj2).trans (fr j hj hj2)⟩
