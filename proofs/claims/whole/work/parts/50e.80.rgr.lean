/-! the pure part: the reference's $group as a whole -/
theorem r_232 {fu d g G t : Nat} {o : Bool} {frs frt : Int32} {tgr : Bool} {x2 x3 : Int32} {dcs tot frm siz ffr fsz odr grp : Nat → Int32} {C : Bool → Int32 → q_G18} {F : List (List UInt8)} {K : Nat → q_V} (hf : 5000 ≤ fu) (hd16 : d ≤ 16) (hg : g < 1000) (hgn : ∀ j, j < F.length → q_gn K j < 1000) (hgrp : ∀ j, j < F.length → grp j = iN (q_gn K j)) (hne : q_gm K F.length g ≠ []) (hG : 80000 ≤ G) (hG2 : G ≤ 120000) (ht : G ≤ t) :
    ∀ (ps : List q_P) (e n : Nat) (fl : Bool) (its : Int32) (hgh loo : Int64) (dfl : Bool) (ikd iat : Nat → Int32) (pre : List UInt8) (r : q_R) (st0 : Nat → Int32), sm st0 e (q_en ps ++ [0]) → q_op d ps → q_gff ps = 0 → 134400 ≤ e → e + (q_en ps).length < 136400 → (q_en ps).length ≤ 2000 → ps.length < n → q_rb st0 0 dcs tot frm siz F → q_W G 2001 t o st0 pre r →
    ∃ x10' its' hgh' loo' dfl' ikd' iat' r' st1, tw_MO_group_h232 fu dcs frm C x2 x3 (iN g) (iN G) n fl (iN (q_pt e ps)) frs frt (iN r.1) (iN G) (iN 2001) r.2.1 tgr its hgh loo dfl r.2.2 ffr fsz odr grp ikd iat = C (fl && ps.all (fun y => if q_wk (q_told y).2.1 = 2 then q_gsh K F y g else true)) x10' frs frt (iN r'.1) (iN G) (iN 2001) r'.2.1 tgr its' hgh' loo' dfl' r'.2.2 ffr fsz odr grp ikd' iat' ∧ (∀ j, j < 124000 ∨ 132300 ≤ j → st1 j = st0 j) ∧ q_W G 2001 t o st1 (pre ++ q_en (ps.map (q_gelm F (q_gm K F.length g)))) r' := by
  intro ps
  induction ps with
  | nil =>
    intro e n fl its hgh loo dfl ikd iat pre r st0 _ _ _ _ _ _ hn hb hr
    obtain ⟨n, rfl⟩ : ∃ m, n = m + 1 := ⟨n - 1, by omega⟩
    unfold tw_MO_group_h232
    rw [if_pos (show iN (q_pt e []) ≤ 0 by show iN 0 ≤ 0; decide), List.all_nil, Bool.and_true]
    refine ⟨_, _, _, _, _, _, _, r, st0, rfl, fun _ _ => rfl, ?_⟩
    rw [List.map_nil]
    show q_W G 2001 t o st0 (pre ++ []) r
    rw [List.append_nil]
    exact hr
  | cons y ps ih =>
    intro e n fl its hgh loo dfl ikd iat pre r st0 h ho hgf he he2 hl hn hb hr
    rw [List.length_cons] at hn
    obtain ⟨n, rfl⟩ : ∃ m, n = m + 1 := ⟨n - 1, by omega⟩
    obtain ⟨h1, h2⟩ := sm_en h
    obtain ⟨hm, hy⟩ := ho y List.mem_cons_self
    have F2 := hb.2.2.2.2.2.1
    have e1 := q_e1l y
    have e2 := q_enl y ps
    have gp := q_gff0 hgf List.mem_cons_self
    have gr : q_gff ps = 0 := by
      rw [q_gffc, if_pos gp] at hgf
      exact hgf
    obtain ⟨a1, a2, a3, a4, a5, a6, r', st1, u1, u2, u3⟩ := r_gp (fu := fu) (dfl := dfl) (its := its) (hgh := hgh) (loo := loo) (ikd := ikd) (iat := iat) (o := o) hf hm hy hd16 (by omega) (by omega) he gp hg hgn hgrp hne hG hG2 h1 hb ht hr
    have hst : ∀ j, 134400 ≤ j → r'.2.2 j = st0 j := fun j hj => (u3.1 j (by omega)).trans (u2 j (by omega))
    have no := r_no (fu := fu) (sm_fr h (fun j u v => hst j (by omega))) ho (by omega) (by omega)
    have I := fun (fl2 : Bool) => ih (e + (q_e1 y).length) n fl2 a1 a2 a3 a4 a5 a6 (pre ++ q_e1 (q_gelm F (q_gm K F.length g) y)) r' st1 (sm_fr h2 (fun j u v => u2 j (by omega))) (fun u hu => ho u (List.mem_cons_of_mem _ hu)) gr (by omega) (by omega) (by omega) (by omega) (q_rbf hb (fun j u v => u2 j (by omega))) u3
    unfold tw_MO_group_h232 tw_MO_group_r237
    rw [q_ptc, if_neg (by simp (disch := omega) only [i_0, iN_a, iN_c, iN_le, iN_lt, iN_eq, iN_i]; omega), u1, obs12]
    have fin : ∀ (fl2 : Bool), fl2 = (fl && (if q_wk (q_told y).2.1 = 2 then q_gsh K F y g else true)) → ∃ x10' its' hgh' loo' dfl' ikd' iat' r2 st2, tw_MO_group_h232 fu dcs frm C x2 x3 (iN g) (iN G) n fl2 (iN (q_pt (e + (q_e1 y).length) ps)) frs frt (iN r'.1) (iN G) (iN 2001) r'.2.1 tgr a1 a2 a3 a4 r'.2.2 ffr fsz odr grp a5 a6 = C (fl && (y :: ps).all (fun y => if q_wk (q_told y).2.1 = 2 then q_gsh K F y g else true)) x10' frs frt (iN r2.1) (iN G) (iN 2001) r2.2.1 tgr its' hgh' loo' dfl' r2.2.2 ffr fsz odr grp ikd' iat' ∧ (∀ j, j < 124000 ∨ 132300 ≤ j → st2 j = st0 j) ∧ q_W G 2001 t o st2 (pre ++ q_en ((y :: ps).map (q_gelm F (q_gm K F.length g)))) r2 := by
      intro fl2 hfl
      obtain ⟨b1, b2, b3, b4, b5, b6, b7, r2, st2, w1, w2, w3⟩ := I fl2
      rw [List.append_assoc] at w3
      rw [List.map_cons, q_enc, List.all_cons, ← Bool.and_assoc, ← hfl]
      exact ⟨b1, b2, b3, b4, b5, b6, b7, r2, st2, w1, fun j hj => (w2 j hj).trans (u2 j hj), w3⟩
    cases hq : (if q_wk (q_told y).2.1 = 2 then q_gsh K F y g else true) with
    | false =>
      rw [if_pos (show b2i false = 0 from rfl)]
      dsimp only
      rw [no, obs1]
      exact fin false (by rw [hq, Bool.and_false])
    | true =>
      rw [if_neg (show ¬ b2i true = 0 by decide)]
      cases fl with
      | false =>
        rw [if_pos (show b2i false = 0 from rfl)]
        dsimp only
        rw [no, obs1]
        exact fin false (by rw [Bool.false_and])
      | true =>
        rw [if_neg (show ¬ b2i true = 0 by decide)]
        dsimp only
        rw [no, obs1]
        exact fin true (by rw [hq]; rfl)
theorem q_pwo {v : q_V} (h : q_ok 16 v.1 v.2) (h10 : v.1 = 10) : v.2 = [] := by
  rw [h10] at h
  have l := q_okl h (by decide) (by decide)
  unfold q_lf at l
  rcases l with ⟨e, _⟩ | ⟨e, _⟩ | ⟨e, _⟩ | ⟨_, hv⟩ | ⟨e, _⟩
  · exact absurd e (by decide)
  · exact absurd e (by decide)
  · exact absurd e (by decide)
  · exact hv
  · exact absurd e (by decide)
theorem r_180 {fu : Nat} {dcs frm st ffr fsz odr grp ikd iat : Nat → Int32} {x2 x3 x5 x6 x7 frs frt bgn mst its : Int32} {x4 ovr tgr dfl : Bool} {hgh loo : Int64} {C : Int32 → q_G18} {v : q_V} (hv : q_ok 16 v.1 v.2) (hl : v.2.length ≤ 2000) :
    tw_MO_group_r180 fu dcs frm C x2 x3 x4 x5 x6 x7 (iN v.1.toNat) frs frt (iN (124000 + v.2.length)) bgn mst ovr tgr its hgh loo dfl st ffr fsz odr grp ikd iat = C (iN v.2.length) frs frt (iN (124000 + v.2.length)) bgn mst ovr tgr its hgh loo dfl st ffr fsz odr grp ikd iat := by
  have kz := q_okn hv
  unfold tw_MO_group_r180
  by_cases c : v.1 = 10
  · rw [if_pos (by rw [c]; rfl), q_pwo hv c]
    rfl
  · rw [if_neg (fun q => c (by rw [show (10 : Int32) = iN 10 from rfl, iN_eq (by omega) (by omega), q_ko _ 10 (by omega)] at q; exact q)), show (124000 : Int32) = iN 124000 from rfl, iN_s (by omega), show 124000 + v.2.length - 124000 = v.2.length by omega]
theorem r_132 {fu d P : Nat} {dcs tot frm siz odr grp : Nat → Int32} {C : Bool → Int32 → q_G18} {F : List (List UInt8)} {x0 : q_P} {ps : List q_P} (hf : 5000 ≤ fu) (hd16 : d ≤ 16) (ho : q_op d (x0 :: ps)) (hnk : q_nk 3 (x0 :: ps)) (hP : 134400 ≤ P) (hP2 : P + (q_bx (x0 :: ps)).length ≤ 136400) (hl : (q_bx (x0 :: ps)).length ≤ 2000) (hxf : q_xf x0.1 x0.2.2 = 0) (hgf : q_gff ps = 0) (hodr : q_ar odr 0 (q_gf (q_gk x0 F) F.length)) (hgrp : ∀ j, j < F.length → grp j = iN (q_gn (q_gk x0 F) j)) (hF : F.length ≤ 200) :
    ∀ (m g n : Nat) (fl : Bool) (frs frt top bgn mst : Int32) (ovr tgr : Bool) (its : Int32) (hgh loo : Int64) (dfl : Bool) (st ffr fsz ikd iat : Nat → Int32) (N : Option (List (List UInt8))), g + m = (q_gf (q_gk x0 F) F.length).length → m < n → sm st P (q_bx (x0 :: ps)) → q_rb st 0 dcs tot frm siz F → q_fr st frs frt top tgr ffr fsz N →
    ∃ x5' fs ft tp bg ms ov tg its' hgh' loo' dfl' st' ff fz ikd' iat', tw_MO_group_h132 fu dcs frm C (iN (P + 4)) (iN (q_gf (q_gk x0 F) F.length).length) n fl (iN g) frs frt top bgn mst ovr tgr its hgh loo dfl st ffr fsz odr grp ikd iat = C (fl && ((List.range (q_gf (q_gk x0 F) F.length).length).drop g).all (fun g => ps.all (fun y => if q_wk (q_told y).2.1 = 2 then q_gsh (q_gk x0 F) F y g else true))) x5' fs ft tp bg ms ov tg its' hgh' loo' dfl' st' ff fz odr grp ikd' iat' ∧ q_fr st' fs ft tp tg ff fz (q_run N (((List.range (q_gf (q_gk x0 F) F.length).length).drop g).map (q_gD x0 ps F (q_gk x0 F)))) ∧ (∀ j, j < 80000 ∨ 132300 ≤ j → st' j = st j) := by
  have bl := q_bxl (x0 :: ps)
  have l1 := q_e1l x0
  have l2 := q_enl x0 ps
  have pl := q_psl (x0 :: ps)
  have gfl := q_gfl (q_gk x0 F) F.length
  rw [List.length_cons] at pl
  intro m
  induction m with
  | zero =>
    intro g n fl frs frt top bgn mst ovr tgr its hgh loo dfl st ffr fsz ikd iat N hg hn hs hb h
    obtain ⟨n, rfl⟩ : ∃ m, n = m + 1 := ⟨n - 1, by omega⟩
    have : g = (q_gf (q_gk x0 F) F.length).length := by omega
    subst this
    unfold tw_MO_group_h132
    rw [if_pos (Int32.le_refl _), List.drop_eq_nil_of_le (by rw [List.length_range]; exact Nat.le_refl _), List.all_nil, Bool.and_true]
    exact ⟨_, _, _, _, _, _, _, _, _, _, _, _, _, _, _, _, _, rfl, h, fun _ _ => rfl⟩
  | succ m ih =>
    intro g n fl frs frt top bgn mst ovr tgr its hgh loo dfl st ffr fsz ikd iat N hg hn hs hb h
    obtain ⟨n, rfl⟩ : ∃ m, n = m + 1 := ⟨n - 1, by omega⟩
    have F2 := hb.2.2.2.2.2.1
    have gl : g < (q_gf (q_gk x0 F) F.length).length := by omega
    have og := hodr g _ (List.getElem?_eq_getElem gl)
    rw [Nat.zero_add] at og
    have fm := q_gfm (q_gk x0 F) F.length _ (List.getElem_mem gl)
    have gd : (q_gf (q_gk x0 F) F.length).getD g 0 = (q_gf (q_gk x0 F) F.length)[g] := by
      rw [List.getD_eq_getElem?_getD, List.getElem?_eq_getElem gl]
      rfl
    have hgD : q_gD x0 ps F (q_gk x0 F) g = q_bx (((q_gk x0 F (q_gf (q_gk x0 F) F.length)[g]).1, x0.2.1, (q_gk x0 F (q_gf (q_gk x0 F) F.length)[g]).2) :: ps.map (q_gelm F (q_gm (q_gk x0 F) F.length g))) := by
      unfold q_gD
      rw [gd]
    have okD := q_gDo (g := g) hb.2.2.2.2 ho hd16 hnk hl hgf gl
    -- the group has a document
    have hne : q_gm (q_gk x0 F) F.length g ≠ [] := by
      intro q
      have key : ∀ n, ∀ g, g < (q_gf (q_gk x0 F) n).length → q_gm (q_gk x0 F) n g ≠ [] := by
        intro n
        induction n with
        | zero => exact fun g hg => absurd hg (by simp [q_gf])
        | succ n ihn =>
          intro g hg
          rw [q_gfs] at hg
          rw [q_gms]
          by_cases c : q_gn (q_gk x0 F) n = (q_gf (q_gk x0 F) n).length
          · rw [if_pos c, List.length_append, List.length_singleton] at hg
            by_cases c2 : q_gn (q_gk x0 F) n = g
            · rw [if_pos c2]
              simp
            · have := ihn g (by omega)
              intro z
              exact this (List.append_eq_nil_iff.1 z).1
          · rw [if_neg c] at hg
            have := ihn g hg
            intro z
            exact this (List.append_eq_nil_iff.1 z).1
      exact key F.length g gl q
    generalize hfe : (q_gf (q_gk x0 F) F.length)[g] = f at *
    obtain ⟨hxn, hxo⟩ := ho x0 List.mem_cons_self
    obtain ⟨lt1, lt2⟩ := q_tpl h
    obtain ⟨r, r1, r2⟩ := r_bd (fu := fu) (bgn := bgn) (mst := mst) (ovr := ovr) (by omega) h
    have fr : ∀ j, j < q_tp N ∨ q_tp N + 2001 ≤ j → r.2.2 j = st j := r2.1
    have hs' : sm r.2.2 P (q_bx (x0 :: ps)) := sm_fr hs (fun j u v => fr j (by omega))
    have hb' : q_rb r.2.2 0 dcs tot frm siz F := q_rbf hb (fun j u v => fr j (by omega))
    have hen : sm st (P + 4) (q_en (x0 :: ps) ++ [0]) := (sm_ap.1 hs).2
    have hen' : sm r.2.2 (P + 4) (q_en (x0 :: ps) ++ [0]) := (sm_ap.1 hs').2
    have hx1 := (sm_en hen').1
    have hkf : F[f]? = some F[f] := List.getElem?_eq_getElem fm
    obtain ⟨d1, d2, d3, d4⟩ := q_rbd hb' hkf
    obtain ⟨f1, f2⟩ := hb.2.2.1 f _ hkf
    simp only [Nat.mul_zero, Nat.zero_add] at f1 f2 d1 d4
    have gdF := q_gdd hkf
    obtain ⟨st1, k1, k2, k3⟩ := r_ko (fu := fu) (g := 124000) (top := iN r.1) (bgn := iN (q_tp N)) (mst := iN 2001) (ovr := r.2.1) (by omega) hx1 hxn hxo (by omega) (by omega) (by omega) hxf d2 d1 (by omega) d3
    rw [← gdF] at k1 k2
    change tw_MO_keyOf fu (iN r.1) (iN (q_tp N)) (iN 2001) r.2.1 r.2.2 (iN (P + 4)) (iN (q_pf F f)) (iN 124000) = some (iN (q_gk x0 F f).1.toNat, iN (124000 + (q_gk x0 F f).2.length), iN 124000, iN 4100, false, st1) at k1
    change sm st1 124000 (q_gk x0 F f).2 at k2
    have v1 := q_gkv hb.2.2.2.2 hxo hd16 (by omega) fm
    have vl := q_gkl hb.2.2.2.2 hxo (by omega) fm
    have kz := q_okn v1
    obtain ⟨b0, m1, m2⟩ := q_Wn (st' := st1) (by omega) r2 (fun j hj => k3 j (by omega))
    have r3 := r2.2.1
    have r4 := r2.2.2.1
    obtain ⟨s, s1, s2⟩ := r_hd2 (fu := fu) (g := q_tp N) (m := 2001) (t := r.1) (e := P + 4) (o := r.2.1) (st := st1) (k := (q_gk x0 F f).1) (x := x0) (by omega) r3 r4 (sm_fr hx1 (fun j u v => k3 j (by omega))) hxn (by omega) (by omega) (by omega)
    have s3 := s2.2.1
    obtain ⟨c, c1, c2⟩ := r_cp (fu := fu) (g := q_tp N) (m := 2001) (a := 124000) (t := s.1) (o := s.2.1) (st := s.2.2) (l := (q_gk x0 F f).2) (by omega) (sm_fr k2 (fun j u v => s2.1 j (by omega))) (by omega) (by omega) (by omega) s2.2.2.1 (by omega)
    have W := q_Wa (q_Wa m2 s2) c2
    rw [show ([0, 0, 0, 0] : List UInt8) ++ ((q_gk x0 F f).1 :: (x0.2.1 ++ [0])) ++ (q_gk x0 F f).2 = [0, 0, 0, 0] ++ q_e1 ((q_gk x0 F f).1, x0.2.1, (q_gk x0 F f).2) by unfold q_e1; simp] at W
    have hW : ∀ j, 134400 ≤ j → c.2.2 j = st j := fun j hj => (W.1 j (by omega)).trans (m1 j (by omega))
    have no := r_no (fu := fu) (sm_fr hen (fun j u v => hW j (by omega))) ho (by omega) (by omega)
    have h2 := (sm_en hen).2
    have H := fun (C' : Bool → Int32 → q_G18) => r_232 (fu := fu) (g := g) (G := q_tp N) (t := q_tp N) (o := false) (frs := frs) (frt := frt) (tgr := tgr) (x2 := iN (P + 4)) (x3 := iN (q_gf (q_gk x0 F) F.length).length) (dcs := dcs) (tot := tot) (frm := frm) (siz := siz) (ffr := ffr) (fsz := fsz) (odr := odr) (grp := grp) (C := C') (F := F) (K := q_gk x0 F) hf hd16 (by omega) (fun j hj => by have := q_gnl (K := q_gk x0 F) hj; omega) hgrp hne lt1 lt2 (Nat.le_refl _) ps (P + 4 + (q_e1 x0).length) fu fl its hgh loo r.2.1 ikd iat ([0, 0, 0, 0] ++ q_e1 ((q_gk x0 F f).1, x0.2.1, (q_gk x0 F f).2)) c b0 (sm_fr h2 (fun j u v => m1 j (by omega))) (fun u hu => ho u (List.mem_cons_of_mem _ hu)) hgf (by omega) (by omega) (by omega) (by omega) (q_rbf hb (fun j u v => m1 j (by omega))) W
    unfold tw_MO_group_h132
    rw [if_neg (by simp (disch := omega) only [iN_a, iN_c, iN_le, iN_lt, iN_eq, iN_i]; omega), r1, obs6, if_pos (show 0 ≤ iN g ∧ iN g < 200 by simp (disch := omega) only [i_0, i_200, iN_a, iN_c, iN_le, iN_lt, iN_eq, iN_i]; omega), iN_c (show g < 2147483648 by omega), og, if_pos (show 0 ≤ iN f ∧ iN f < 400 by simp (disch := omega) only [i_0, i_400, iN_a, iN_c, iN_le, iN_lt, iN_eq, iN_i]; omega), iN_c (show f < 2147483648 by omega), f1, show (124000 : Int32) = iN 124000 from rfl, k1, obs6]
    rw [r_180 v1 vl]
    try dsimp only
    unfold tw_MO_resume
    rw [obs4, show (2001 : Int32) = iN 2001 from rfl, s1, q_o3e, c1, q_o3e, no, obs1]
    obtain ⟨a1, a2, a3, a4, a5, a6, a7, r5, st2, u1, u2, u3⟩ := H _
    rw [u1]
    try dsimp only
    have u3' : q_W (q_tp N) 2001 (q_tp N) false st2 ([0, 0, 0, 0] ++ q_en (((q_gk x0 F f).1, x0.2.1, (q_gk x0 F f).2) :: ps.map (q_gelm F (q_gm (q_gk x0 F) F.length g)))) r5 := by
      rw [q_enc, ← List.append_assoc]
      exact u3
    rw [hgD] at okD
    have f2' : ∀ j, j < 124000 ∨ 132300 ≤ j → st2 j = st j := fun j hj => (u2 j hj).trans (m1 j hj)
    obtain ⟨fs, ft, tp, ov, tg, st', ff, fz, e1, e2, e3⟩ := r_ed (fu := fu) (r := r5) (by omega) (q_frf h (fun j u v => f2' j (by omega))) u3' okD (by omega)
    rw [e1, obs8]
    have fr' : ∀ j, j < 80000 ∨ 132300 ≤ j → st' j = st j := fun j hj => (e3 j (by omega)).trans (f2' j (by omega))
    have dr : (List.range (q_gf (q_gk x0 F) F.length).length).drop g = g :: (List.range (q_gf (q_gk x0 F) F.length).length).drop (g + 1) := by
      rw [List.drop_eq_getElem_cons (by rw [List.length_range]; exact gl), List.getElem_range]
    rw [dr, List.all_cons, List.map_cons, q_runc, hgD, ← Bool.and_assoc, show iN g + 1 = iN (g + 1) from iN_a g 1]
    obtain ⟨b1, b2, b3, b4, b5, b6, b7, b8, b9, b10, b11, b12, b13, b14, b15, b16, b17, w1, w2, w3⟩ := ih (g + 1) n (fl && ps.all (fun y => if q_wk (q_told y).2.1 = 2 then q_gsh (q_gk x0 F) F y g else true)) fs ft tp (iN (q_tp N)) (iN 2001) ov tg a2 a3 a4 a5 st' ff fz a6 a7 _ (by omega) (by omega) (sm_fr hs (fun j u v => fr' j (by omega))) (q_rbf hb (fun j u v => fr' j (by omega))) e2
    exact ⟨b1, b2, b3, b4, b5, b6, b7, b8, b9, b10, b11, b12, b13, b14, b15, b16, b17, w1, w2, fun j hj => (w3 j hj).trans (fr' j hj)⟩
